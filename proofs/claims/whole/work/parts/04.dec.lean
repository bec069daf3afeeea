theorem dX7_init_0 : decode cX7_init 0 = .ok (.aload_n 0, 1) := by decide +kernel
theorem dX7_init_1 : decode cX7_init 1 = .ok (.invokespecial 1, 3) := by decide +kernel
theorem dX7_init_4 : decode cX7_init 4 = .ok (.aload_n 0, 1) := by decide +kernel
theorem dX7_init_5 : decode cX7_init 5 = .ok (.iconst 4, 1) := by decide +kernel
theorem dX7_init_6 : decode cX7_init 6 = .ok (.newarray .int, 2) := by decide +kernel
theorem dX7_init_8 : decode cX7_init 8 = .ok (.putfield 7, 3) := by decide +kernel
theorem dX7_init_11 : decode cX7_init 11 = .ok (.aload_n 0, 1) := by decide +kernel
theorem dX7_init_12 : decode cX7_init 12 = .ok (.iconst 4, 1) := by decide +kernel
theorem dX7_init_13 : decode cX7_init 13 = .ok (.newarray .int, 2) := by decide +kernel
theorem dX7_init_15 : decode cX7_init 15 = .ok (.putfield 13, 3) := by decide +kernel
theorem dX7_init_18 : decode cX7_init 18 = .ok (.aload_n 0, 1) := by decide +kernel
theorem dX7_init_19 : decode cX7_init 19 = .ok (.sipush 240, 3) := by decide +kernel
theorem dX7_init_22 : decode cX7_init 22 = .ok (.newarray .int, 2) := by decide +kernel
theorem dX7_init_24 : decode cX7_init 24 = .ok (.putfield 16, 3) := by decide +kernel
theorem dX7_init_27 : decode cX7_init 27 = .ok (.aload_n 0, 1) := by decide +kernel
theorem dX7_init_28 : decode cX7_init 28 = .ok (.bipush 60, 2) := by decide +kernel
theorem dX7_init_30 : decode cX7_init 30 = .ok (.newarray .int, 2) := by decide +kernel
theorem dX7_init_32 : decode cX7_init 32 = .ok (.putfield 19, 3) := by decide +kernel
theorem dX7_init_35 : decode cX7_init 35 = .ok (.aload_n 0, 1) := by decide +kernel
theorem dX7_init_36 : decode cX7_init 36 = .ok (.bipush 96, 2) := by decide +kernel
theorem dX7_init_38 : decode cX7_init 38 = .ok (.newarray .int, 2) := by decide +kernel
theorem dX7_init_40 : decode cX7_init 40 = .ok (.putfield 22, 3) := by decide +kernel
theorem dX7_init_43 : decode cX7_init 43 = .ok (.aload_n 0, 1) := by decide +kernel
theorem dX7_init_44 : decode cX7_init 44 = .ok (.iconst 2, 1) := by decide +kernel
theorem dX7_init_45 : decode cX7_init 45 = .ok (.newarray .int, 2) := by decide +kernel
theorem dX7_init_47 : decode cX7_init 47 = .ok (.putfield 25, 3) := by decide +kernel
theorem dX7_init_50 : decode cX7_init 50 = .ok (.aload_n 0, 1) := by decide +kernel
theorem dX7_init_51 : decode cX7_init 51 = .ok (.bipush 22, 2) := by decide +kernel
theorem dX7_init_53 : decode cX7_init 53 = .ok (.newarray .int, 2) := by decide +kernel
theorem dX7_init_55 : decode cX7_init 55 = .ok (.putfield 28, 3) := by decide +kernel
theorem dX7_init_58 : decode cX7_init 58 = .ok (.aload_n 0, 1) := by decide +kernel
theorem dX7_init_59 : decode cX7_init 59 = .ok (.bipush 32, 2) := by decide +kernel
theorem dX7_init_61 : decode cX7_init 61 = .ok (.newarray .int, 2) := by decide +kernel
theorem dX7_init_63 : decode cX7_init 63 = .ok (.putfield 31, 3) := by decide +kernel
theorem dX7_init_66 : decode cX7_init 66 = .ok (.aload_n 0, 1) := by decide +kernel
theorem dX7_init_67 : decode cX7_init 67 = .ok (.bipush 16, 2) := by decide +kernel
theorem dX7_init_69 : decode cX7_init 69 = .ok (.newarray .int, 2) := by decide +kernel
theorem dX7_init_71 : decode cX7_init 71 = .ok (.putfield 34, 3) := by decide +kernel
theorem dX7_init_74 : decode cX7_init 74 = .ok (.aload_n 0, 1) := by decide +kernel
theorem dX7_init_75 : decode cX7_init 75 = .ok (.bipush 24, 2) := by decide +kernel
theorem dX7_init_77 : decode cX7_init 77 = .ok (.newarray .int, 2) := by decide +kernel
theorem dX7_init_79 : decode cX7_init 79 = .ok (.putfield 37, 3) := by decide +kernel
theorem dX7_init_82 : decode cX7_init 82 = .ok (.aload_n 0, 1) := by decide +kernel
theorem dX7_init_83 : decode cX7_init 83 = .ok (.bipush 24, 2) := by decide +kernel
theorem dX7_init_85 : decode cX7_init 85 = .ok (.newarray .int, 2) := by decide +kernel
theorem dX7_init_87 : decode cX7_init 87 = .ok (.putfield 40, 3) := by decide +kernel
theorem dX7_init_90 : decode cX7_init 90 = .ok (.aload_n 0, 1) := by decide +kernel
theorem dX7_init_91 : decode cX7_init 91 = .ok (.bipush 24, 2) := by decide +kernel
theorem dX7_init_93 : decode cX7_init 93 = .ok (.newarray .int, 2) := by decide +kernel
theorem dX7_init_95 : decode cX7_init 95 = .ok (.putfield 43, 3) := by decide +kernel
theorem dX7_init_98 : decode cX7_init 98 = .ok (.aload_n 0, 1) := by decide +kernel
theorem dX7_init_99 : decode cX7_init 99 = .ok (.bipush 16, 2) := by decide +kernel
theorem dX7_init_101 : decode cX7_init 101 = .ok (.newarray .int, 2) := by decide +kernel
theorem dX7_init_103 : decode cX7_init 103 = .ok (.putfield 46, 3) := by decide +kernel
theorem dX7_init_106 : decode cX7_init 106 = .ok (.aload_n 0, 1) := by decide +kernel
theorem dX7_init_107 : decode cX7_init 107 = .ok (.bipush 11, 2) := by decide +kernel
theorem dX7_init_109 : decode cX7_init 109 = .ok (.newarray .int, 2) := by decide +kernel
theorem dX7_init_111 : decode cX7_init 111 = .ok (.putfield 49, 3) := by decide +kernel
theorem dX7_init_114 : decode cX7_init 114 = .ok (.aload_n 0, 1) := by decide +kernel
theorem dX7_init_115 : decode cX7_init 115 = .ok (.bipush 11, 2) := by decide +kernel
theorem dX7_init_117 : decode cX7_init 117 = .ok (.newarray .int, 2) := by decide +kernel
theorem dX7_init_119 : decode cX7_init 119 = .ok (.putfield 52, 3) := by decide +kernel
theorem dX7_init_122 : decode cX7_init 122 = .ok (.aload_n 0, 1) := by decide +kernel
theorem dX7_init_123 : decode cX7_init 123 = .ok (.bipush 11, 2) := by decide +kernel
theorem dX7_init_125 : decode cX7_init 125 = .ok (.newarray .int, 2) := by decide +kernel
theorem dX7_init_127 : decode cX7_init 127 = .ok (.putfield 55, 3) := by decide +kernel
theorem dX7_init_130 : decode cX7_init 130 = .ok (.aload_n 0, 1) := by decide +kernel
theorem dX7_init_131 : decode cX7_init 131 = .ok (.bipush 11, 2) := by decide +kernel
theorem dX7_init_133 : decode cX7_init 133 = .ok (.newarray .int, 2) := by decide +kernel
theorem dX7_init_135 : decode cX7_init 135 = .ok (.putfield 58, 3) := by decide +kernel
theorem dX7_init_138 : decode cX7_init 138 = .ok (.aload_n 0, 1) := by decide +kernel
theorem dX7_init_139 : decode cX7_init 139 = .ok (.bipush 16, 2) := by decide +kernel
theorem dX7_init_141 : decode cX7_init 141 = .ok (.newarray .int, 2) := by decide +kernel
theorem dX7_init_143 : decode cX7_init 143 = .ok (.putfield 61, 3) := by decide +kernel
theorem dX7_init_146 : decode cX7_init 146 = .ok (.aload_n 0, 1) := by decide +kernel
theorem dX7_init_147 : decode cX7_init 147 = .ok (.bipush 64, 2) := by decide +kernel
theorem dX7_init_149 : decode cX7_init 149 = .ok (.newarray .int, 2) := by decide +kernel
theorem dX7_init_151 : decode cX7_init 151 = .ok (.putfield 64, 3) := by decide +kernel
theorem dX7_init_154 : decode cX7_init 154 = .ok (.iconst 0, 1) := by decide +kernel
theorem dX7_init_155 : decode cX7_init 155 = .ok (.istore_n 1, 1) := by decide +kernel
theorem dX7_init_156 : decode cX7_init 156 = .ok (.iload_n 1, 1) := by decide +kernel
theorem dX7_init_157 : decode cX7_init 157 = .ok (.iconst 4, 1) := by decide +kernel
theorem dX7_init_158 : decode cX7_init 158 = .ok (.if_icmp .ge 16, 3) := by decide +kernel
theorem dX7_init_161 : decode cX7_init 161 = .ok (.aload_n 0, 1) := by decide +kernel
theorem dX7_init_162 : decode cX7_init 162 = .ok (.getfield 7, 3) := by decide +kernel
theorem dX7_init_165 : decode cX7_init 165 = .ok (.iload_n 1, 1) := by decide +kernel
theorem dX7_init_166 : decode cX7_init 166 = .ok (.iconst (-1), 1) := by decide +kernel
theorem dX7_init_167 : decode cX7_init 167 = .ok (.iastore, 1) := by decide +kernel
theorem dX7_init_168 : decode cX7_init 168 = .ok (.iinc 1 1, 3) := by decide +kernel
theorem dX7_init_171 : decode cX7_init 171 = .ok (.goto (-15), 3) := by decide +kernel
theorem dX7_init_174 : decode cX7_init 174 = .ok (.aload_n 0, 1) := by decide +kernel
theorem dX7_init_175 : decode cX7_init 175 = .ok (.bipush 40, 2) := by decide +kernel
theorem dX7_init_177 : decode cX7_init 177 = .ok (.putfield 67, 3) := by decide +kernel
theorem dX7_init_180 : decode cX7_init 180 = .ok (.aload_n 0, 1) := by decide +kernel
theorem dX7_init_181 : decode cX7_init 181 = .ok (.iconst (-1), 1) := by decide +kernel
theorem dX7_init_182 : decode cX7_init 182 = .ok (.putfield 71, 3) := by decide +kernel
theorem dX7_init_185 : decode cX7_init 185 = .ok (.return_, 1) := by decide +kernel
theorem dX7_in_0 : decode cX7_in 0 = .ok (.lload_n 0, 1) := by decide +kernel
theorem dX7_in_1 : decode cX7_in 1 = .ok (.lload_n 2, 1) := by decide +kernel
theorem dX7_in_2 : decode cX7_in 2 = .ok (.lcmp, 1) := by decide +kernel
theorem dX7_in_3 : decode cX7_in 3 = .ok (.ifCond .lt 14, 3) := by decide +kernel
theorem dX7_in_6 : decode cX7_in 6 = .ok (.lload_n 0, 1) := by decide +kernel
theorem dX7_in_7 : decode cX7_in 7 = .ok (.lload 4, 2) := by decide +kernel
theorem dX7_in_9 : decode cX7_in 9 = .ok (.lcmp, 1) := by decide +kernel
theorem dX7_in_10 : decode cX7_in 10 = .ok (.ifCond .gt 7, 3) := by decide +kernel
theorem dX7_in_13 : decode cX7_in 13 = .ok (.iconst 1, 1) := by decide +kernel
theorem dX7_in_14 : decode cX7_in 14 = .ok (.goto 4, 3) := by decide +kernel
theorem dX7_in_17 : decode cX7_in 17 = .ok (.iconst 0, 1) := by decide +kernel
theorem dX7_in_18 : decode cX7_in 18 = .ok (.ireturn, 1) := by decide +kernel
theorem dX7_no_0 : decode cX7_no 0 = .ok (.ldc2_w 74, 3) := by decide +kernel
theorem dX7_no_3 : decode cX7_no 3 = .ok (.iload_n 0, 1) := by decide +kernel
theorem dX7_no_4 : decode cX7_no 4 = .ok (.i2l, 1) := by decide +kernel
theorem dX7_no_5 : decode cX7_no 5 = .ok (.lsub, 1) := by decide +kernel
theorem dX7_no_6 : decode cX7_no 6 = .ok (.lreturn, 1) := by decide +kernel
theorem dX7_isTwo_0 : decode cX7_isTwo 0 = .ok (.iload_n 0, 1) := by decide +kernel
theorem dX7_isTwo_1 : decode cX7_isTwo 1 = .ok (.i2l, 1) := by decide +kernel
theorem dX7_isTwo_2 : decode cX7_isTwo 2 = .ok (.lconst 0, 1) := by decide +kernel
theorem dX7_isTwo_3 : decode cX7_isTwo 3 = .ok (.lconst 1, 1) := by decide +kernel
theorem dX7_isTwo_4 : decode cX7_isTwo 4 = .ok (.invokestatic 76, 3) := by decide +kernel
theorem dX7_isTwo_7 : decode cX7_isTwo 7 = .ok (.ireturn, 1) := by decide +kernel
theorem dX7_isIn_0 : decode cX7_isIn 0 = .ok (.iload_n 0, 1) := by decide +kernel
theorem dX7_isIn_1 : decode cX7_isIn 1 = .ok (.iload_n 1, 1) := by decide +kernel
theorem dX7_isIn_2 : decode cX7_isIn 2 = .ok (.ishr, 1) := by decide +kernel
theorem dX7_isIn_3 : decode cX7_isIn 3 = .ok (.iconst 1, 1) := by decide +kernel
theorem dX7_isIn_4 : decode cX7_isIn 4 = .ok (.iand, 1) := by decide +kernel
theorem dX7_isIn_5 : decode cX7_isIn 5 = .ok (.iconst 1, 1) := by decide +kernel
theorem dX7_isIn_6 : decode cX7_isIn 6 = .ok (.if_icmp .ne 7, 3) := by decide +kernel
theorem dX7_isIn_9 : decode cX7_isIn 9 = .ok (.iconst 1, 1) := by decide +kernel
theorem dX7_isIn_10 : decode cX7_isIn 10 = .ok (.goto 4, 3) := by decide +kernel
theorem dX7_isIn_13 : decode cX7_isIn 13 = .ok (.iconst 0, 1) := by decide +kernel
theorem dX7_isIn_14 : decode cX7_isIn 14 = .ok (.ireturn, 1) := by decide +kernel
theorem dX7_lesser_0 : decode cX7_lesser 0 = .ok (.iload_n 0, 1) := by decide +kernel
theorem dX7_lesser_1 : decode cX7_lesser 1 = .ok (.iload_n 1, 1) := by decide +kernel
theorem dX7_lesser_2 : decode cX7_lesser 2 = .ok (.if_icmp .ge 7, 3) := by decide +kernel
theorem dX7_lesser_5 : decode cX7_lesser 5 = .ok (.iload_n 0, 1) := by decide +kernel
theorem dX7_lesser_6 : decode cX7_lesser 6 = .ok (.goto 4, 3) := by decide +kernel
theorem dX7_lesser_9 : decode cX7_lesser 9 = .ok (.iload_n 1, 1) := by decide +kernel
theorem dX7_lesser_10 : decode cX7_lesser 10 = .ok (.ireturn, 1) := by decide +kernel
theorem dX7_greater_0 : decode cX7_greater 0 = .ok (.iload_n 0, 1) := by decide +kernel
theorem dX7_greater_1 : decode cX7_greater 1 = .ok (.iload_n 1, 1) := by decide +kernel
theorem dX7_greater_2 : decode cX7_greater 2 = .ok (.if_icmp .le 7, 3) := by decide +kernel
theorem dX7_greater_5 : decode cX7_greater 5 = .ok (.iload_n 0, 1) := by decide +kernel
theorem dX7_greater_6 : decode cX7_greater 6 = .ok (.goto 4, 3) := by decide +kernel
theorem dX7_greater_9 : decode cX7_greater 9 = .ok (.iload_n 1, 1) := by decide +kernel
theorem dX7_greater_10 : decode cX7_greater 10 = .ok (.ireturn, 1) := by decide +kernel
theorem dX7_apart_0 : decode cX7_apart 0 = .ok (.iload_n 0, 1) := by decide +kernel
theorem dX7_apart_1 : decode cX7_apart 1 = .ok (.iload_n 1, 1) := by decide +kernel
theorem dX7_apart_2 : decode cX7_apart 2 = .ok (.if_icmp .le 9, 3) := by decide +kernel
theorem dX7_apart_5 : decode cX7_apart 5 = .ok (.iload_n 0, 1) := by decide +kernel
theorem dX7_apart_6 : decode cX7_apart 6 = .ok (.iload_n 1, 1) := by decide +kernel
theorem dX7_apart_7 : decode cX7_apart 7 = .ok (.isub, 1) := by decide +kernel
theorem dX7_apart_8 : decode cX7_apart 8 = .ok (.goto 6, 3) := by decide +kernel
theorem dX7_apart_11 : decode cX7_apart 11 = .ok (.iload_n 1, 1) := by decide +kernel
theorem dX7_apart_12 : decode cX7_apart 12 = .ok (.iload_n 0, 1) := by decide +kernel
theorem dX7_apart_13 : decode cX7_apart 13 = .ok (.isub, 1) := by decide +kernel
theorem dX7_apart_14 : decode cX7_apart 14 = .ok (.ireturn, 1) := by decide +kernel
theorem dX7_part_0 : decode cX7_part 0 = .ok (.lload_n 0, 1) := by decide +kernel
theorem dX7_part_1 : decode cX7_part 1 = .ok (.lstore 5, 2) := by decide +kernel
theorem dX7_part_3 : decode cX7_part 3 = .ok (.lload_n 2, 1) := by decide +kernel
theorem dX7_part_4 : decode cX7_part 4 = .ok (.lstore 7, 2) := by decide +kernel
theorem dX7_part_6 : decode cX7_part 6 = .ok (.lload 7, 2) := by decide +kernel
theorem dX7_part_8 : decode cX7_part 8 = .ok (.lconst 0, 1) := by decide +kernel
theorem dX7_part_9 : decode cX7_part 9 = .ok (.lcmp, 1) := by decide +kernel
theorem dX7_part_10 : decode cX7_part 10 = .ok (.ifCond .eq 21, 3) := by decide +kernel
theorem dX7_part_13 : decode cX7_part 13 = .ok (.lload 5, 2) := by decide +kernel
theorem dX7_part_15 : decode cX7_part 15 = .ok (.lload 7, 2) := by decide +kernel
theorem dX7_part_17 : decode cX7_part 17 = .ok (.lrem, 1) := by decide +kernel
theorem dX7_part_18 : decode cX7_part 18 = .ok (.lstore 9, 2) := by decide +kernel
theorem dX7_part_20 : decode cX7_part 20 = .ok (.lload 7, 2) := by decide +kernel
theorem dX7_part_22 : decode cX7_part 22 = .ok (.lstore 5, 2) := by decide +kernel
theorem dX7_part_24 : decode cX7_part 24 = .ok (.lload 9, 2) := by decide +kernel
theorem dX7_part_26 : decode cX7_part 26 = .ok (.lstore 7, 2) := by decide +kernel
theorem dX7_part_28 : decode cX7_part 28 = .ok (.goto (-22), 3) := by decide +kernel
theorem dX7_part_31 : decode cX7_part 31 = .ok (.iload 4, 2) := by decide +kernel
theorem dX7_part_33 : decode cX7_part 33 = .ok (.ifCond .ne 7, 3) := by decide +kernel
theorem dX7_part_36 : decode cX7_part 36 = .ok (.lload_n 0, 1) := by decide +kernel
theorem dX7_part_37 : decode cX7_part 37 = .ok (.goto 4, 3) := by decide +kernel
theorem dX7_part_40 : decode cX7_part 40 = .ok (.lload_n 2, 1) := by decide +kernel
theorem dX7_part_41 : decode cX7_part 41 = .ok (.lload 5, 2) := by decide +kernel
theorem dX7_part_43 : decode cX7_part 43 = .ok (.ldiv, 1) := by decide +kernel
theorem dX7_part_44 : decode cX7_part 44 = .ok (.lreturn, 1) := by decide +kernel
theorem dX7_finds_0 : decode cX7_finds 0 = .ok (.aload_n 0, 1) := by decide +kernel
theorem dX7_finds_1 : decode cX7_finds 1 = .ok (.iload_n 1, 1) := by decide +kernel
theorem dX7_finds_2 : decode cX7_finds 2 = .ok (.putfield 80, 3) := by decide +kernel
theorem dX7_finds_5 : decode cX7_finds 5 = .ok (.bipush (-10), 2) := by decide +kernel
theorem dX7_finds_7 : decode cX7_finds 7 = .ok (.iload_n 1, 1) := by decide +kernel
theorem dX7_finds_8 : decode cX7_finds 8 = .ok (.isub, 1) := by decide +kernel
theorem dX7_finds_9 : decode cX7_finds 9 = .ok (.ireturn, 1) := by decide +kernel
theorem dX7_isSheet_0 : decode cX7_isSheet 0 = .ok (.iload_n 0, 1) := by decide +kernel
theorem dX7_isSheet_1 : decode cX7_isSheet 1 = .ok (.i2l, 1) := by decide +kernel
theorem dX7_isSheet_2 : decode cX7_isSheet 2 = .ok (.lconst 0, 1) := by decide +kernel
theorem dX7_isSheet_3 : decode cX7_isSheet 3 = .ok (.ldc2_w 83, 3) := by decide +kernel
theorem dX7_isSheet_6 : decode cX7_isSheet 6 = .ok (.invokestatic 76, 3) := by decide +kernel
theorem dX7_isSheet_9 : decode cX7_isSheet 9 = .ok (.ireturn, 1) := by decide +kernel
theorem dX7_sheet_0 : decode cX7_sheet 0 = .ok (.iload_n 1, 1) := by decide +kernel
theorem dX7_sheet_1 : decode cX7_sheet 1 = .ok (.invokestatic 85, 3) := by decide +kernel
theorem dX7_sheet_4 : decode cX7_sheet 4 = .ok (.ifCond .eq 21, 3) := by decide +kernel
theorem dX7_sheet_7 : decode cX7_sheet 7 = .ok (.iload_n 2, 1) := by decide +kernel
theorem dX7_sheet_8 : decode cX7_sheet 8 = .ok (.i2l, 1) := by decide +kernel
theorem dX7_sheet_9 : decode cX7_sheet 9 = .ok (.lconst 0, 1) := by decide +kernel
theorem dX7_sheet_10 : decode cX7_sheet 10 = .ok (.ldc2_w 89, 3) := by decide +kernel
theorem dX7_sheet_13 : decode cX7_sheet 13 = .ok (.invokestatic 76, 3) := by decide +kernel
theorem dX7_sheet_16 : decode cX7_sheet 16 = .ok (.ifCond .eq 9, 3) := by decide +kernel
theorem dX7_sheet_19 : decode cX7_sheet 19 = .ok (.iload_n 3, 1) := by decide +kernel
theorem dX7_sheet_20 : decode cX7_sheet 20 = .ok (.bipush 60, 2) := by decide +kernel
theorem dX7_sheet_22 : decode cX7_sheet 22 = .ok (.if_icmp .le 6, 3) := by decide +kernel
theorem dX7_sheet_25 : decode cX7_sheet 25 = .ok (.bipush (-2), 2) := by decide +kernel
theorem dX7_sheet_27 : decode cX7_sheet 27 = .ok (.ireturn, 1) := by decide +kernel
theorem dX7_sheet_28 : decode cX7_sheet 28 = .ok (.iload_n 3, 1) := by decide +kernel
theorem dX7_sheet_29 : decode cX7_sheet 29 = .ok (.ifCond .ge 9, 3) := by decide +kernel
theorem dX7_sheet_32 : decode cX7_sheet 32 = .ok (.aload_n 0, 1) := by decide +kernel
theorem dX7_sheet_33 : decode cX7_sheet 33 = .ok (.iconst 5, 1) := by decide +kernel
theorem dX7_sheet_34 : decode cX7_sheet 34 = .ok (.invokevirtual 91, 3) := by decide +kernel
theorem dX7_sheet_37 : decode cX7_sheet 37 = .ok (.ireturn, 1) := by decide +kernel
theorem dX7_sheet_38 : decode cX7_sheet 38 = .ok (.aload_n 0, 1) := by decide +kernel
theorem dX7_sheet_39 : decode cX7_sheet 39 = .ok (.getfield 7, 3) := by decide +kernel
theorem dX7_sheet_42 : decode cX7_sheet 42 = .ok (.iload_n 1, 1) := by decide +kernel
theorem dX7_sheet_43 : decode cX7_sheet 43 = .ok (.iload_n 2, 1) := by decide +kernel
theorem dX7_sheet_44 : decode cX7_sheet 44 = .ok (.iastore, 1) := by decide +kernel
theorem dX7_sheet_45 : decode cX7_sheet 45 = .ok (.aload_n 0, 1) := by decide +kernel
theorem dX7_sheet_46 : decode cX7_sheet 46 = .ok (.getfield 13, 3) := by decide +kernel
theorem dX7_sheet_49 : decode cX7_sheet 49 = .ok (.iload_n 1, 1) := by decide +kernel
theorem dX7_sheet_50 : decode cX7_sheet 50 = .ok (.iload_n 3, 1) := by decide +kernel
theorem dX7_sheet_51 : decode cX7_sheet 51 = .ok (.iastore, 1) := by decide +kernel
theorem dX7_sheet_52 : decode cX7_sheet 52 = .ok (.iconst 0, 1) := by decide +kernel
theorem dX7_sheet_53 : decode cX7_sheet 53 = .ok (.istore 4, 2) := by decide +kernel
theorem dX7_sheet_55 : decode cX7_sheet 55 = .ok (.iload 4, 2) := by decide +kernel
theorem dX7_sheet_57 : decode cX7_sheet 57 = .ok (.iload_n 3, 1) := by decide +kernel
theorem dX7_sheet_58 : decode cX7_sheet 58 = .ok (.if_icmp .ge 22, 3) := by decide +kernel
theorem dX7_sheet_61 : decode cX7_sheet 61 = .ok (.aload_n 0, 1) := by decide +kernel
theorem dX7_sheet_62 : decode cX7_sheet 62 = .ok (.getfield 16, 3) := by decide +kernel
theorem dX7_sheet_65 : decode cX7_sheet 65 = .ok (.bipush 60, 2) := by decide +kernel
theorem dX7_sheet_67 : decode cX7_sheet 67 = .ok (.iload_n 1, 1) := by decide +kernel
theorem dX7_sheet_68 : decode cX7_sheet 68 = .ok (.imul, 1) := by decide +kernel
theorem dX7_sheet_69 : decode cX7_sheet 69 = .ok (.iload 4, 2) := by decide +kernel
theorem dX7_sheet_71 : decode cX7_sheet 71 = .ok (.iadd, 1) := by decide +kernel
theorem dX7_sheet_72 : decode cX7_sheet 72 = .ok (.iconst 0, 1) := by decide +kernel
theorem dX7_sheet_73 : decode cX7_sheet 73 = .ok (.iastore, 1) := by decide +kernel
theorem dX7_sheet_74 : decode cX7_sheet 74 = .ok (.iinc 4 1, 3) := by decide +kernel
theorem dX7_sheet_77 : decode cX7_sheet 77 = .ok (.goto (-22), 3) := by decide +kernel
theorem dX7_sheet_80 : decode cX7_sheet 80 = .ok (.iload_n 3, 1) := by decide +kernel
theorem dX7_sheet_81 : decode cX7_sheet 81 = .ok (.ireturn, 1) := by decide +kernel
theorem dX7_lose_0 : decode cX7_lose 0 = .ok (.iload_n 1, 1) := by decide +kernel
theorem dX7_lose_1 : decode cX7_lose 1 = .ok (.invokestatic 85, 3) := by decide +kernel
theorem dX7_lose_4 : decode cX7_lose 4 = .ok (.ifCond .ne 6, 3) := by decide +kernel
theorem dX7_lose_7 : decode cX7_lose 7 = .ok (.bipush (-2), 2) := by decide +kernel
theorem dX7_lose_9 : decode cX7_lose 9 = .ok (.ireturn, 1) := by decide +kernel
theorem dX7_lose_10 : decode cX7_lose 10 = .ok (.aload_n 0, 1) := by decide +kernel
theorem dX7_lose_11 : decode cX7_lose 11 = .ok (.getfield 7, 3) := by decide +kernel
theorem dX7_lose_14 : decode cX7_lose 14 = .ok (.iload_n 1, 1) := by decide +kernel
theorem dX7_lose_15 : decode cX7_lose 15 = .ok (.iaload, 1) := by decide +kernel
theorem dX7_lose_16 : decode cX7_lose 16 = .ok (.ifCond .ge 9, 3) := by decide +kernel
theorem dX7_lose_19 : decode cX7_lose 19 = .ok (.aload_n 0, 1) := by decide +kernel
theorem dX7_lose_20 : decode cX7_lose 20 = .ok (.iconst 1, 1) := by decide +kernel
theorem dX7_lose_21 : decode cX7_lose 21 = .ok (.invokevirtual 91, 3) := by decide +kernel
theorem dX7_lose_24 : decode cX7_lose 24 = .ok (.ireturn, 1) := by decide +kernel
theorem dX7_lose_25 : decode cX7_lose 25 = .ok (.aload_n 0, 1) := by decide +kernel
theorem dX7_lose_26 : decode cX7_lose 26 = .ok (.getfield 7, 3) := by decide +kernel
theorem dX7_lose_29 : decode cX7_lose 29 = .ok (.iload_n 1, 1) := by decide +kernel
theorem dX7_lose_30 : decode cX7_lose 30 = .ok (.iconst (-1), 1) := by decide +kernel
theorem dX7_lose_31 : decode cX7_lose 31 = .ok (.iastore, 1) := by decide +kernel
theorem dX7_lose_32 : decode cX7_lose 32 = .ok (.aload_n 0, 1) := by decide +kernel
theorem dX7_lose_33 : decode cX7_lose 33 = .ok (.getfield 13, 3) := by decide +kernel
theorem dX7_lose_36 : decode cX7_lose 36 = .ok (.iload_n 1, 1) := by decide +kernel
theorem dX7_lose_37 : decode cX7_lose 37 = .ok (.iaload, 1) := by decide +kernel
theorem dX7_lose_38 : decode cX7_lose 38 = .ok (.ireturn, 1) := by decide +kernel
theorem dX7_lacks_0 : decode cX7_lacks 0 = .ok (.aload_n 0, 1) := by decide +kernel
theorem dX7_lacks_1 : decode cX7_lacks 1 = .ok (.getfield 7, 3) := by decide +kernel
theorem dX7_lacks_4 : decode cX7_lacks 4 = .ok (.iload_n 1, 1) := by decide +kernel
theorem dX7_lacks_5 : decode cX7_lacks 5 = .ok (.iaload, 1) := by decide +kernel
theorem dX7_lacks_6 : decode cX7_lacks 6 = .ok (.ifCond .ge 9, 3) := by decide +kernel
theorem dX7_lacks_9 : decode cX7_lacks 9 = .ok (.aload_n 0, 1) := by decide +kernel
theorem dX7_lacks_10 : decode cX7_lacks 10 = .ok (.iconst 1, 1) := by decide +kernel
theorem dX7_lacks_11 : decode cX7_lacks 11 = .ok (.invokevirtual 91, 3) := by decide +kernel
theorem dX7_lacks_14 : decode cX7_lacks 14 = .ok (.ireturn, 1) := by decide +kernel
theorem dX7_lacks_15 : decode cX7_lacks 15 = .ok (.aload_n 0, 1) := by decide +kernel
theorem dX7_lacks_16 : decode cX7_lacks 16 = .ok (.getfield 7, 3) := by decide +kernel
theorem dX7_lacks_19 : decode cX7_lacks 19 = .ok (.iload_n 1, 1) := by decide +kernel
theorem dX7_lacks_20 : decode cX7_lacks 20 = .ok (.iaload, 1) := by decide +kernel
theorem dX7_lacks_21 : decode cX7_lacks 21 = .ok (.iload_n 2, 1) := by decide +kernel
theorem dX7_lacks_22 : decode cX7_lacks 22 = .ok (.if_icmp .eq 9, 3) := by decide +kernel
theorem dX7_lacks_25 : decode cX7_lacks 25 = .ok (.aload_n 0, 1) := by decide +kernel
theorem dX7_lacks_26 : decode cX7_lacks 26 = .ok (.iconst 3, 1) := by decide +kernel
theorem dX7_lacks_27 : decode cX7_lacks 27 = .ok (.invokevirtual 91, 3) := by decide +kernel
theorem dX7_lacks_30 : decode cX7_lacks 30 = .ok (.ireturn, 1) := by decide +kernel
theorem dX7_lacks_31 : decode cX7_lacks 31 = .ok (.iload_n 3, 1) := by decide +kernel
theorem dX7_lacks_32 : decode cX7_lacks 32 = .ok (.i2l, 1) := by decide +kernel
theorem dX7_lacks_33 : decode cX7_lacks 33 = .ok (.lconst 0, 1) := by decide +kernel
theorem dX7_lacks_34 : decode cX7_lacks 34 = .ok (.aload_n 0, 1) := by decide +kernel
theorem dX7_lacks_35 : decode cX7_lacks 35 = .ok (.getfield 13, 3) := by decide +kernel
theorem dX7_lacks_38 : decode cX7_lacks 38 = .ok (.iload_n 1, 1) := by decide +kernel
theorem dX7_lacks_39 : decode cX7_lacks 39 = .ok (.iaload, 1) := by decide +kernel
theorem dX7_lacks_40 : decode cX7_lacks 40 = .ok (.iconst 1, 1) := by decide +kernel
theorem dX7_lacks_41 : decode cX7_lacks 41 = .ok (.isub, 1) := by decide +kernel
theorem dX7_lacks_42 : decode cX7_lacks 42 = .ok (.i2l, 1) := by decide +kernel
theorem dX7_lacks_43 : decode cX7_lacks 43 = .ok (.invokestatic 76, 3) := by decide +kernel
theorem dX7_lacks_46 : decode cX7_lacks 46 = .ok (.ifCond .eq 7, 3) := by decide +kernel
theorem dX7_lacks_49 : decode cX7_lacks 49 = .ok (.iconst 0, 1) := by decide +kernel
theorem dX7_lacks_50 : decode cX7_lacks 50 = .ok (.goto 8, 3) := by decide +kernel
theorem dX7_lacks_53 : decode cX7_lacks 53 = .ok (.aload_n 0, 1) := by decide +kernel
theorem dX7_lacks_54 : decode cX7_lacks 54 = .ok (.iconst 2, 1) := by decide +kernel
theorem dX7_lacks_55 : decode cX7_lacks 55 = .ok (.invokevirtual 91, 3) := by decide +kernel
theorem dX7_lacks_58 : decode cX7_lacks 58 = .ok (.ireturn, 1) := by decide +kernel
theorem dX7_cut_0 : decode cX7_cut 0 = .ok (.iload_n 0, 1) := by decide +kernel
theorem dX7_cut_1 : decode cX7_cut 1 = .ok (.ifCond .ne 8, 3) := by decide +kernel
theorem dX7_cut_4 : decode cX7_cut 4 = .ok (.iload_n 1, 1) := by decide +kernel
theorem dX7_cut_5 : decode cX7_cut 5 = .ok (.i2b, 1) := by decide +kernel
theorem dX7_cut_6 : decode cX7_cut 6 = .ok (.goto 14, 3) := by decide +kernel
theorem dX7_cut_9 : decode cX7_cut 9 = .ok (.iload_n 0, 1) := by decide +kernel
theorem dX7_cut_10 : decode cX7_cut 10 = .ok (.iconst 1, 1) := by decide +kernel
theorem dX7_cut_11 : decode cX7_cut 11 = .ok (.if_icmp .ne 8, 3) := by decide +kernel
theorem dX7_cut_14 : decode cX7_cut 14 = .ok (.iload_n 1, 1) := by decide +kernel
theorem dX7_cut_15 : decode cX7_cut 15 = .ok (.i2s, 1) := by decide +kernel
theorem dX7_cut_16 : decode cX7_cut 16 = .ok (.goto 4, 3) := by decide +kernel
theorem dX7_cut_19 : decode cX7_cut 19 = .ok (.iload_n 1, 1) := by decide +kernel
theorem dX7_cut_20 : decode cX7_cut 20 = .ok (.ireturn, 1) := by decide +kernel
theorem dX7_lay_0 : decode cX7_lay 0 = .ok (.iload_n 1, 1) := by decide +kernel
theorem dX7_lay_1 : decode cX7_lay 1 = .ok (.invokestatic 85, 3) := by decide +kernel
theorem dX7_lay_4 : decode cX7_lay 4 = .ok (.ifCond .eq 15, 3) := by decide +kernel
theorem dX7_lay_7 : decode cX7_lay 7 = .ok (.iload_n 2, 1) := by decide +kernel
theorem dX7_lay_8 : decode cX7_lay 8 = .ok (.i2l, 1) := by decide +kernel
theorem dX7_lay_9 : decode cX7_lay 9 = .ok (.lconst 0, 1) := by decide +kernel
theorem dX7_lay_10 : decode cX7_lay 10 = .ok (.ldc2_w 89, 3) := by decide +kernel
theorem dX7_lay_13 : decode cX7_lay 13 = .ok (.invokestatic 76, 3) := by decide +kernel
theorem dX7_lay_16 : decode cX7_lay 16 = .ok (.ifCond .ne 6, 3) := by decide +kernel
theorem dX7_lay_19 : decode cX7_lay 19 = .ok (.bipush (-2), 2) := by decide +kernel
theorem dX7_lay_21 : decode cX7_lay 21 = .ok (.ireturn, 1) := by decide +kernel
theorem dX7_lay_22 : decode cX7_lay 22 = .ok (.aload_n 0, 1) := by decide +kernel
theorem dX7_lay_23 : decode cX7_lay 23 = .ok (.iload_n 1, 1) := by decide +kernel
theorem dX7_lay_24 : decode cX7_lay 24 = .ok (.iload_n 2, 1) := by decide +kernel
theorem dX7_lay_25 : decode cX7_lay 25 = .ok (.iload_n 3, 1) := by decide +kernel
theorem dX7_lay_26 : decode cX7_lay 26 = .ok (.invokevirtual 95, 3) := by decide +kernel
theorem dX7_lay_29 : decode cX7_lay 29 = .ok (.istore 5, 2) := by decide +kernel
theorem dX7_lay_31 : decode cX7_lay 31 = .ok (.iload 5, 2) := by decide +kernel
theorem dX7_lay_33 : decode cX7_lay 33 = .ok (.ifCond .eq 6, 3) := by decide +kernel
theorem dX7_lay_36 : decode cX7_lay 36 = .ok (.iload 5, 2) := by decide +kernel
theorem dX7_lay_38 : decode cX7_lay 38 = .ok (.ireturn, 1) := by decide +kernel
theorem dX7_lay_39 : decode cX7_lay 39 = .ok (.aload_n 0, 1) := by decide +kernel
theorem dX7_lay_40 : decode cX7_lay 40 = .ok (.getfield 16, 3) := by decide +kernel
theorem dX7_lay_43 : decode cX7_lay 43 = .ok (.bipush 60, 2) := by decide +kernel
theorem dX7_lay_45 : decode cX7_lay 45 = .ok (.iload_n 1, 1) := by decide +kernel
theorem dX7_lay_46 : decode cX7_lay 46 = .ok (.imul, 1) := by decide +kernel
theorem dX7_lay_47 : decode cX7_lay 47 = .ok (.iload_n 3, 1) := by decide +kernel
theorem dX7_lay_48 : decode cX7_lay 48 = .ok (.iadd, 1) := by decide +kernel
theorem dX7_lay_49 : decode cX7_lay 49 = .ok (.iload_n 2, 1) := by decide +kernel
theorem dX7_lay_50 : decode cX7_lay 50 = .ok (.iload 4, 2) := by decide +kernel
theorem dX7_lay_52 : decode cX7_lay 52 = .ok (.invokestatic 99, 3) := by decide +kernel
theorem dX7_lay_55 : decode cX7_lay 55 = .ok (.iastore, 1) := by decide +kernel
theorem dX7_lay_56 : decode cX7_lay 56 = .ok (.iconst 1, 1) := by decide +kernel
theorem dX7_lay_57 : decode cX7_lay 57 = .ok (.ireturn, 1) := by decide +kernel
theorem dX7_get_0 : decode cX7_get 0 = .ok (.iload_n 1, 1) := by decide +kernel
theorem dX7_get_1 : decode cX7_get 1 = .ok (.invokestatic 85, 3) := by decide +kernel
theorem dX7_get_4 : decode cX7_get 4 = .ok (.ifCond .eq 25, 3) := by decide +kernel
theorem dX7_get_7 : decode cX7_get 7 = .ok (.iload_n 2, 1) := by decide +kernel
theorem dX7_get_8 : decode cX7_get 8 = .ok (.i2l, 1) := by decide +kernel
theorem dX7_get_9 : decode cX7_get 9 = .ok (.lconst 0, 1) := by decide +kernel
theorem dX7_get_10 : decode cX7_get 10 = .ok (.ldc2_w 89, 3) := by decide +kernel
theorem dX7_get_13 : decode cX7_get 13 = .ok (.invokestatic 76, 3) := by decide +kernel
theorem dX7_get_16 : decode cX7_get 16 = .ok (.ifCond .eq 13, 3) := by decide +kernel
theorem dX7_get_19 : decode cX7_get 19 = .ok (.aload_n 0, 1) := by decide +kernel
theorem dX7_get_20 : decode cX7_get 20 = .ok (.iload_n 1, 1) := by decide +kernel
theorem dX7_get_21 : decode cX7_get 21 = .ok (.iload_n 2, 1) := by decide +kernel
theorem dX7_get_22 : decode cX7_get 22 = .ok (.iload_n 3, 1) := by decide +kernel
theorem dX7_get_23 : decode cX7_get 23 = .ok (.invokevirtual 95, 3) := by decide +kernel
theorem dX7_get_26 : decode cX7_get 26 = .ok (.ifCond .eq 6, 3) := by decide +kernel
theorem dX7_get_29 : decode cX7_get 29 = .ok (.ldc 103, 2) := by decide +kernel
theorem dX7_get_31 : decode cX7_get 31 = .ok (.ireturn, 1) := by decide +kernel
theorem dX7_get_32 : decode cX7_get 32 = .ok (.aload_n 0, 1) := by decide +kernel
theorem dX7_get_33 : decode cX7_get 33 = .ok (.getfield 16, 3) := by decide +kernel
theorem dX7_get_36 : decode cX7_get 36 = .ok (.bipush 60, 2) := by decide +kernel
theorem dX7_get_38 : decode cX7_get 38 = .ok (.iload_n 1, 1) := by decide +kernel
theorem dX7_get_39 : decode cX7_get 39 = .ok (.imul, 1) := by decide +kernel
theorem dX7_get_40 : decode cX7_get 40 = .ok (.iload_n 3, 1) := by decide +kernel
theorem dX7_get_41 : decode cX7_get 41 = .ok (.iadd, 1) := by decide +kernel
theorem dX7_get_42 : decode cX7_get 42 = .ok (.iaload, 1) := by decide +kernel
theorem dX7_get_43 : decode cX7_get 43 = .ok (.ireturn, 1) := by decide +kernel
theorem dX7_copy_0 : decode cX7_copy 0 = .ok (.iload_n 1, 1) := by decide +kernel
theorem dX7_copy_1 : decode cX7_copy 1 = .ok (.invokestatic 85, 3) := by decide +kernel
theorem dX7_copy_4 : decode cX7_copy 4 = .ok (.ifCond .eq 10, 3) := by decide +kernel
theorem dX7_copy_7 : decode cX7_copy 7 = .ok (.iload_n 3, 1) := by decide +kernel
theorem dX7_copy_8 : decode cX7_copy 8 = .ok (.invokestatic 85, 3) := by decide +kernel
theorem dX7_copy_11 : decode cX7_copy 11 = .ok (.ifCond .ne 6, 3) := by decide +kernel
theorem dX7_copy_14 : decode cX7_copy 14 = .ok (.bipush (-2), 2) := by decide +kernel
theorem dX7_copy_16 : decode cX7_copy 16 = .ok (.ireturn, 1) := by decide +kernel
theorem dX7_copy_17 : decode cX7_copy 17 = .ok (.aload_n 0, 1) := by decide +kernel
theorem dX7_copy_18 : decode cX7_copy 18 = .ok (.getfield 7, 3) := by decide +kernel
theorem dX7_copy_21 : decode cX7_copy 21 = .ok (.iload_n 1, 1) := by decide +kernel
theorem dX7_copy_22 : decode cX7_copy 22 = .ok (.iaload, 1) := by decide +kernel
theorem dX7_copy_23 : decode cX7_copy 23 = .ok (.ifCond .lt 12, 3) := by decide +kernel
theorem dX7_copy_26 : decode cX7_copy 26 = .ok (.aload_n 0, 1) := by decide +kernel
theorem dX7_copy_27 : decode cX7_copy 27 = .ok (.getfield 7, 3) := by decide +kernel
theorem dX7_copy_30 : decode cX7_copy 30 = .ok (.iload_n 3, 1) := by decide +kernel
theorem dX7_copy_31 : decode cX7_copy 31 = .ok (.iaload, 1) := by decide +kernel
theorem dX7_copy_32 : decode cX7_copy 32 = .ok (.ifCond .ge 9, 3) := by decide +kernel
theorem dX7_copy_35 : decode cX7_copy 35 = .ok (.aload_n 0, 1) := by decide +kernel
theorem dX7_copy_36 : decode cX7_copy 36 = .ok (.iconst 1, 1) := by decide +kernel
theorem dX7_copy_37 : decode cX7_copy 37 = .ok (.invokevirtual 91, 3) := by decide +kernel
theorem dX7_copy_40 : decode cX7_copy 40 = .ok (.ireturn, 1) := by decide +kernel
theorem dX7_copy_41 : decode cX7_copy 41 = .ok (.aload_n 0, 1) := by decide +kernel
theorem dX7_copy_42 : decode cX7_copy 42 = .ok (.getfield 7, 3) := by decide +kernel
theorem dX7_copy_45 : decode cX7_copy 45 = .ok (.iload_n 1, 1) := by decide +kernel
theorem dX7_copy_46 : decode cX7_copy 46 = .ok (.iaload, 1) := by decide +kernel
theorem dX7_copy_47 : decode cX7_copy 47 = .ok (.aload_n 0, 1) := by decide +kernel
theorem dX7_copy_48 : decode cX7_copy 48 = .ok (.getfield 7, 3) := by decide +kernel
theorem dX7_copy_51 : decode cX7_copy 51 = .ok (.iload_n 3, 1) := by decide +kernel
theorem dX7_copy_52 : decode cX7_copy 52 = .ok (.iaload, 1) := by decide +kernel
theorem dX7_copy_53 : decode cX7_copy 53 = .ok (.if_icmp .eq 9, 3) := by decide +kernel
theorem dX7_copy_56 : decode cX7_copy 56 = .ok (.aload_n 0, 1) := by decide +kernel
theorem dX7_copy_57 : decode cX7_copy 57 = .ok (.iconst 4, 1) := by decide +kernel
theorem dX7_copy_58 : decode cX7_copy 58 = .ok (.invokevirtual 91, 3) := by decide +kernel
theorem dX7_copy_61 : decode cX7_copy 61 = .ok (.ireturn, 1) := by decide +kernel
theorem dX7_copy_62 : decode cX7_copy 62 = .ok (.iload_n 2, 1) := by decide +kernel
theorem dX7_copy_63 : decode cX7_copy 63 = .ok (.ifCond .lt 48, 3) := by decide +kernel
theorem dX7_copy_66 : decode cX7_copy 66 = .ok (.iload 4, 2) := by decide +kernel
theorem dX7_copy_68 : decode cX7_copy 68 = .ok (.ifCond .lt 43, 3) := by decide +kernel
theorem dX7_copy_71 : decode cX7_copy 71 = .ok (.iload 5, 2) := by decide +kernel
theorem dX7_copy_73 : decode cX7_copy 73 = .ok (.ifCond .lt 38, 3) := by decide +kernel
theorem dX7_copy_76 : decode cX7_copy 76 = .ok (.iload_n 2, 1) := by decide +kernel
theorem dX7_copy_77 : decode cX7_copy 77 = .ok (.i2l, 1) := by decide +kernel
theorem dX7_copy_78 : decode cX7_copy 78 = .ok (.iload 5, 2) := by decide +kernel
theorem dX7_copy_80 : decode cX7_copy 80 = .ok (.i2l, 1) := by decide +kernel
theorem dX7_copy_81 : decode cX7_copy 81 = .ok (.ladd, 1) := by decide +kernel
theorem dX7_copy_82 : decode cX7_copy 82 = .ok (.aload_n 0, 1) := by decide +kernel
theorem dX7_copy_83 : decode cX7_copy 83 = .ok (.getfield 13, 3) := by decide +kernel
theorem dX7_copy_86 : decode cX7_copy 86 = .ok (.iload_n 1, 1) := by decide +kernel
theorem dX7_copy_87 : decode cX7_copy 87 = .ok (.iaload, 1) := by decide +kernel
theorem dX7_copy_88 : decode cX7_copy 88 = .ok (.i2l, 1) := by decide +kernel
theorem dX7_copy_89 : decode cX7_copy 89 = .ok (.lcmp, 1) := by decide +kernel
theorem dX7_copy_90 : decode cX7_copy 90 = .ok (.ifCond .gt 21, 3) := by decide +kernel
theorem dX7_copy_93 : decode cX7_copy 93 = .ok (.iload 4, 2) := by decide +kernel
theorem dX7_copy_95 : decode cX7_copy 95 = .ok (.i2l, 1) := by decide +kernel
theorem dX7_copy_96 : decode cX7_copy 96 = .ok (.iload 5, 2) := by decide +kernel
theorem dX7_copy_98 : decode cX7_copy 98 = .ok (.i2l, 1) := by decide +kernel
theorem dX7_copy_99 : decode cX7_copy 99 = .ok (.ladd, 1) := by decide +kernel
theorem dX7_copy_100 : decode cX7_copy 100 = .ok (.aload_n 0, 1) := by decide +kernel
theorem dX7_copy_101 : decode cX7_copy 101 = .ok (.getfield 13, 3) := by decide +kernel
theorem dX7_copy_104 : decode cX7_copy 104 = .ok (.iload_n 3, 1) := by decide +kernel
theorem dX7_copy_105 : decode cX7_copy 105 = .ok (.iaload, 1) := by decide +kernel
theorem dX7_copy_106 : decode cX7_copy 106 = .ok (.i2l, 1) := by decide +kernel
theorem dX7_copy_107 : decode cX7_copy 107 = .ok (.lcmp, 1) := by decide +kernel
theorem dX7_copy_108 : decode cX7_copy 108 = .ok (.ifCond .le 9, 3) := by decide +kernel
theorem dX7_copy_111 : decode cX7_copy 111 = .ok (.aload_n 0, 1) := by decide +kernel
theorem dX7_copy_112 : decode cX7_copy 112 = .ok (.iconst 2, 1) := by decide +kernel
theorem dX7_copy_113 : decode cX7_copy 113 = .ok (.invokevirtual 91, 3) := by decide +kernel
theorem dX7_copy_116 : decode cX7_copy 116 = .ok (.ireturn, 1) := by decide +kernel
theorem dX7_copy_117 : decode cX7_copy 117 = .ok (.iconst 0, 1) := by decide +kernel
theorem dX7_copy_118 : decode cX7_copy 118 = .ok (.istore 6, 2) := by decide +kernel
theorem dX7_copy_120 : decode cX7_copy 120 = .ok (.iload 6, 2) := by decide +kernel
theorem dX7_copy_122 : decode cX7_copy 122 = .ok (.iload 5, 2) := by decide +kernel
theorem dX7_copy_124 : decode cX7_copy 124 = .ok (.if_icmp .ge 30, 3) := by decide +kernel
theorem dX7_copy_127 : decode cX7_copy 127 = .ok (.aload_n 0, 1) := by decide +kernel
theorem dX7_copy_128 : decode cX7_copy 128 = .ok (.getfield 19, 3) := by decide +kernel
theorem dX7_copy_131 : decode cX7_copy 131 = .ok (.iload 6, 2) := by decide +kernel
theorem dX7_copy_133 : decode cX7_copy 133 = .ok (.aload_n 0, 1) := by decide +kernel
theorem dX7_copy_134 : decode cX7_copy 134 = .ok (.getfield 16, 3) := by decide +kernel
theorem dX7_copy_137 : decode cX7_copy 137 = .ok (.bipush 60, 2) := by decide +kernel
theorem dX7_copy_139 : decode cX7_copy 139 = .ok (.iload_n 1, 1) := by decide +kernel
theorem dX7_copy_140 : decode cX7_copy 140 = .ok (.imul, 1) := by decide +kernel
theorem dX7_copy_141 : decode cX7_copy 141 = .ok (.iload_n 2, 1) := by decide +kernel
theorem dX7_copy_142 : decode cX7_copy 142 = .ok (.iadd, 1) := by decide +kernel
theorem dX7_copy_143 : decode cX7_copy 143 = .ok (.iload 6, 2) := by decide +kernel
theorem dX7_copy_145 : decode cX7_copy 145 = .ok (.iadd, 1) := by decide +kernel
theorem dX7_copy_146 : decode cX7_copy 146 = .ok (.iaload, 1) := by decide +kernel
theorem dX7_copy_147 : decode cX7_copy 147 = .ok (.iastore, 1) := by decide +kernel
theorem dX7_copy_148 : decode cX7_copy 148 = .ok (.iinc 6 1, 3) := by decide +kernel
theorem dX7_copy_151 : decode cX7_copy 151 = .ok (.goto (-31), 3) := by decide +kernel
theorem dX7_copy_154 : decode cX7_copy 154 = .ok (.iconst 0, 1) := by decide +kernel
theorem dX7_copy_155 : decode cX7_copy 155 = .ok (.istore 6, 2) := by decide +kernel
theorem dX7_copy_157 : decode cX7_copy 157 = .ok (.iload 6, 2) := by decide +kernel
theorem dX7_copy_159 : decode cX7_copy 159 = .ok (.iload 5, 2) := by decide +kernel
theorem dX7_copy_161 : decode cX7_copy 161 = .ok (.if_icmp .ge 31, 3) := by decide +kernel
theorem dX7_copy_164 : decode cX7_copy 164 = .ok (.aload_n 0, 1) := by decide +kernel
theorem dX7_copy_165 : decode cX7_copy 165 = .ok (.getfield 16, 3) := by decide +kernel
theorem dX7_copy_168 : decode cX7_copy 168 = .ok (.bipush 60, 2) := by decide +kernel
theorem dX7_copy_170 : decode cX7_copy 170 = .ok (.iload_n 3, 1) := by decide +kernel
theorem dX7_copy_171 : decode cX7_copy 171 = .ok (.imul, 1) := by decide +kernel
theorem dX7_copy_172 : decode cX7_copy 172 = .ok (.iload 4, 2) := by decide +kernel
theorem dX7_copy_174 : decode cX7_copy 174 = .ok (.iadd, 1) := by decide +kernel
theorem dX7_copy_175 : decode cX7_copy 175 = .ok (.iload 6, 2) := by decide +kernel
theorem dX7_copy_177 : decode cX7_copy 177 = .ok (.iadd, 1) := by decide +kernel
theorem dX7_copy_178 : decode cX7_copy 178 = .ok (.aload_n 0, 1) := by decide +kernel
theorem dX7_copy_179 : decode cX7_copy 179 = .ok (.getfield 19, 3) := by decide +kernel
theorem dX7_copy_182 : decode cX7_copy 182 = .ok (.iload 6, 2) := by decide +kernel
theorem dX7_copy_184 : decode cX7_copy 184 = .ok (.iaload, 1) := by decide +kernel
theorem dX7_copy_185 : decode cX7_copy 185 = .ok (.iastore, 1) := by decide +kernel
theorem dX7_copy_186 : decode cX7_copy 186 = .ok (.iinc 6 1, 3) := by decide +kernel
theorem dX7_copy_189 : decode cX7_copy 189 = .ok (.goto (-32), 3) := by decide +kernel
theorem dX7_copy_192 : decode cX7_copy 192 = .ok (.iconst 1, 1) := by decide +kernel
theorem dX7_copy_193 : decode cX7_copy 193 = .ok (.ireturn, 1) := by decide +kernel
theorem dX7_type_0 : decode cX7_type 0 = .ok (.iload_n 1, 1) := by decide +kernel
theorem dX7_type_1 : decode cX7_type 1 = .ok (.invokestatic 104, 3) := by decide +kernel
theorem dX7_type_4 : decode cX7_type 4 = .ok (.ifCond .eq 15, 3) := by decide +kernel
theorem dX7_type_7 : decode cX7_type 7 = .ok (.iload_n 2, 1) := by decide +kernel
theorem dX7_type_8 : decode cX7_type 8 = .ok (.i2l, 1) := by decide +kernel
theorem dX7_type_9 : decode cX7_type 9 = .ok (.lconst 0, 1) := by decide +kernel
theorem dX7_type_10 : decode cX7_type 10 = .ok (.ldc2_w 107, 3) := by decide +kernel
theorem dX7_type_13 : decode cX7_type 13 = .ok (.invokestatic 76, 3) := by decide +kernel
theorem dX7_type_16 : decode cX7_type 16 = .ok (.ifCond .ne 6, 3) := by decide +kernel
theorem dX7_type_19 : decode cX7_type 19 = .ok (.bipush (-2), 2) := by decide +kernel
theorem dX7_type_21 : decode cX7_type 21 = .ok (.ireturn, 1) := by decide +kernel
theorem dX7_type_22 : decode cX7_type 22 = .ok (.aload_n 0, 1) := by decide +kernel
theorem dX7_type_23 : decode cX7_type 23 = .ok (.getfield 25, 3) := by decide +kernel
theorem dX7_type_26 : decode cX7_type 26 = .ok (.iload_n 1, 1) := by decide +kernel
theorem dX7_type_27 : decode cX7_type 27 = .ok (.iaload, 1) := by decide +kernel
theorem dX7_type_28 : decode cX7_type 28 = .ok (.iload_n 1, 1) := by decide +kernel
theorem dX7_type_29 : decode cX7_type 29 = .ok (.ifCond .ne 8, 3) := by decide +kernel
theorem dX7_type_32 : decode cX7_type 32 = .ok (.bipush 32, 2) := by decide +kernel
theorem dX7_type_34 : decode cX7_type 34 = .ok (.goto 5, 3) := by decide +kernel
theorem dX7_type_37 : decode cX7_type 37 = .ok (.bipush 47, 2) := by decide +kernel
theorem dX7_type_39 : decode cX7_type 39 = .ok (.if_icmp .ne 6, 3) := by decide +kernel
theorem dX7_type_42 : decode cX7_type 42 = .ok (.bipush (-4), 2) := by decide +kernel
theorem dX7_type_44 : decode cX7_type 44 = .ok (.ireturn, 1) := by decide +kernel
theorem dX7_type_45 : decode cX7_type 45 = .ok (.aload_n 0, 1) := by decide +kernel
theorem dX7_type_46 : decode cX7_type 46 = .ok (.getfield 22, 3) := by decide +kernel
theorem dX7_type_49 : decode cX7_type 49 = .ok (.bipush 48, 2) := by decide +kernel
theorem dX7_type_51 : decode cX7_type 51 = .ok (.iload_n 1, 1) := by decide +kernel
theorem dX7_type_52 : decode cX7_type 52 = .ok (.imul, 1) := by decide +kernel
theorem dX7_type_53 : decode cX7_type 53 = .ok (.aload_n 0, 1) := by decide +kernel
theorem dX7_type_54 : decode cX7_type 54 = .ok (.getfield 25, 3) := by decide +kernel
theorem dX7_type_57 : decode cX7_type 57 = .ok (.iload_n 1, 1) := by decide +kernel
theorem dX7_type_58 : decode cX7_type 58 = .ok (.iaload, 1) := by decide +kernel
theorem dX7_type_59 : decode cX7_type 59 = .ok (.iadd, 1) := by decide +kernel
theorem dX7_type_60 : decode cX7_type 60 = .ok (.iload_n 2, 1) := by decide +kernel
theorem dX7_type_61 : decode cX7_type 61 = .ok (.iastore, 1) := by decide +kernel
theorem dX7_type_62 : decode cX7_type 62 = .ok (.aload_n 0, 1) := by decide +kernel
theorem dX7_type_63 : decode cX7_type 63 = .ok (.getfield 25, 3) := by decide +kernel
theorem dX7_type_66 : decode cX7_type 66 = .ok (.iload_n 1, 1) := by decide +kernel
theorem dX7_type_67 : decode cX7_type 67 = .ok (.dup2, 1) := by decide +kernel
theorem dX7_type_68 : decode cX7_type 68 = .ok (.iaload, 1) := by decide +kernel
theorem dX7_type_69 : decode cX7_type 69 = .ok (.iconst 1, 1) := by decide +kernel
theorem dX7_type_70 : decode cX7_type 70 = .ok (.iadd, 1) := by decide +kernel
theorem dX7_type_71 : decode cX7_type 71 = .ok (.iastore, 1) := by decide +kernel
theorem dX7_type_72 : decode cX7_type 72 = .ok (.aload_n 0, 1) := by decide +kernel
theorem dX7_type_73 : decode cX7_type 73 = .ok (.getfield 25, 3) := by decide +kernel
theorem dX7_type_76 : decode cX7_type 76 = .ok (.iload_n 1, 1) := by decide +kernel
theorem dX7_type_77 : decode cX7_type 77 = .ok (.iaload, 1) := by decide +kernel
theorem dX7_type_78 : decode cX7_type 78 = .ok (.ireturn, 1) := by decide +kernel
theorem dX7_wipe_0 : decode cX7_wipe 0 = .ok (.iload_n 1, 1) := by decide +kernel
theorem dX7_wipe_1 : decode cX7_wipe 1 = .ok (.invokestatic 104, 3) := by decide +kernel
theorem dX7_wipe_4 : decode cX7_wipe 4 = .ok (.ifCond .ne 6, 3) := by decide +kernel
theorem dX7_wipe_7 : decode cX7_wipe 7 = .ok (.bipush (-2), 2) := by decide +kernel
theorem dX7_wipe_9 : decode cX7_wipe 9 = .ok (.ireturn, 1) := by decide +kernel
theorem dX7_wipe_10 : decode cX7_wipe 10 = .ok (.aload_n 0, 1) := by decide +kernel
theorem dX7_wipe_11 : decode cX7_wipe 11 = .ok (.getfield 25, 3) := by decide +kernel
theorem dX7_wipe_14 : decode cX7_wipe 14 = .ok (.iload_n 1, 1) := by decide +kernel
theorem dX7_wipe_15 : decode cX7_wipe 15 = .ok (.iaload, 1) := by decide +kernel
theorem dX7_wipe_16 : decode cX7_wipe 16 = .ok (.istore_n 2, 1) := by decide +kernel
theorem dX7_wipe_17 : decode cX7_wipe 17 = .ok (.aload_n 0, 1) := by decide +kernel
theorem dX7_wipe_18 : decode cX7_wipe 18 = .ok (.getfield 25, 3) := by decide +kernel
theorem dX7_wipe_21 : decode cX7_wipe 21 = .ok (.iload_n 1, 1) := by decide +kernel
theorem dX7_wipe_22 : decode cX7_wipe 22 = .ok (.iconst 0, 1) := by decide +kernel
theorem dX7_wipe_23 : decode cX7_wipe 23 = .ok (.iastore, 1) := by decide +kernel
theorem dX7_wipe_24 : decode cX7_wipe 24 = .ok (.iload_n 2, 1) := by decide +kernel
theorem dX7_wipe_25 : decode cX7_wipe 25 = .ok (.ireturn, 1) := by decide +kernel
theorem dX7_undo_0 : decode cX7_undo 0 = .ok (.iload_n 1, 1) := by decide +kernel
theorem dX7_undo_1 : decode cX7_undo 1 = .ok (.invokestatic 104, 3) := by decide +kernel
theorem dX7_undo_4 : decode cX7_undo 4 = .ok (.ifCond .ne 6, 3) := by decide +kernel
theorem dX7_undo_7 : decode cX7_undo 7 = .ok (.bipush (-2), 2) := by decide +kernel
theorem dX7_undo_9 : decode cX7_undo 9 = .ok (.ireturn, 1) := by decide +kernel
theorem dX7_undo_10 : decode cX7_undo 10 = .ok (.aload_n 0, 1) := by decide +kernel
theorem dX7_undo_11 : decode cX7_undo 11 = .ok (.getfield 25, 3) := by decide +kernel
theorem dX7_undo_14 : decode cX7_undo 14 = .ok (.iload_n 1, 1) := by decide +kernel
theorem dX7_undo_15 : decode cX7_undo 15 = .ok (.iaload, 1) := by decide +kernel
theorem dX7_undo_16 : decode cX7_undo 16 = .ok (.ifCond .ne 6, 3) := by decide +kernel
theorem dX7_undo_19 : decode cX7_undo 19 = .ok (.bipush (-3), 2) := by decide +kernel
theorem dX7_undo_21 : decode cX7_undo 21 = .ok (.ireturn, 1) := by decide +kernel
theorem dX7_undo_22 : decode cX7_undo 22 = .ok (.aload_n 0, 1) := by decide +kernel
theorem dX7_undo_23 : decode cX7_undo 23 = .ok (.getfield 25, 3) := by decide +kernel
theorem dX7_undo_26 : decode cX7_undo 26 = .ok (.iload_n 1, 1) := by decide +kernel
theorem dX7_undo_27 : decode cX7_undo 27 = .ok (.dup2, 1) := by decide +kernel
theorem dX7_undo_28 : decode cX7_undo 28 = .ok (.iaload, 1) := by decide +kernel
theorem dX7_undo_29 : decode cX7_undo 29 = .ok (.iconst 1, 1) := by decide +kernel
theorem dX7_undo_30 : decode cX7_undo 30 = .ok (.isub, 1) := by decide +kernel
theorem dX7_undo_31 : decode cX7_undo 31 = .ok (.iastore, 1) := by decide +kernel
theorem dX7_undo_32 : decode cX7_undo 32 = .ok (.aload_n 0, 1) := by decide +kernel
theorem dX7_undo_33 : decode cX7_undo 33 = .ok (.getfield 25, 3) := by decide +kernel
theorem dX7_undo_36 : decode cX7_undo 36 = .ok (.iload_n 1, 1) := by decide +kernel
theorem dX7_undo_37 : decode cX7_undo 37 = .ok (.iaload, 1) := by decide +kernel
theorem dX7_undo_38 : decode cX7_undo 38 = .ok (.ireturn, 1) := by decide +kernel
theorem dX7_playerOf_0 : decode cX7_playerOf 0 = .ok (.iload_n 0, 1) := by decide +kernel
theorem dX7_playerOf_1 : decode cX7_playerOf 1 = .ok (.ifCond .ne 36, 3) := by decide +kernel
theorem dX7_playerOf_4 : decode cX7_playerOf 4 = .ok (.iload_n 1, 1) := by decide +kernel
theorem dX7_playerOf_5 : decode cX7_playerOf 5 = .ok (.bipush 116, 2) := by decide +kernel
theorem dX7_playerOf_7 : decode cX7_playerOf 7 = .ok (.if_icmp .ne 7, 3) := by decide +kernel
theorem dX7_playerOf_10 : decode cX7_playerOf 10 = .ok (.iconst 0, 1) := by decide +kernel
theorem dX7_playerOf_11 : decode cX7_playerOf 11 = .ok (.goto 25, 3) := by decide +kernel
theorem dX7_playerOf_14 : decode cX7_playerOf 14 = .ok (.iload_n 1, 1) := by decide +kernel
theorem dX7_playerOf_15 : decode cX7_playerOf 15 = .ok (.bipush 104, 2) := by decide +kernel
theorem dX7_playerOf_17 : decode cX7_playerOf 17 = .ok (.if_icmp .ne 7, 3) := by decide +kernel
theorem dX7_playerOf_20 : decode cX7_playerOf 20 = .ok (.iconst 1, 1) := by decide +kernel
theorem dX7_playerOf_21 : decode cX7_playerOf 21 = .ok (.goto 15, 3) := by decide +kernel
theorem dX7_playerOf_24 : decode cX7_playerOf 24 = .ok (.iload_n 1, 1) := by decide +kernel
theorem dX7_playerOf_25 : decode cX7_playerOf 25 = .ok (.bipush 99, 2) := by decide +kernel
theorem dX7_playerOf_27 : decode cX7_playerOf 27 = .ok (.if_icmp .ne 7, 3) := by decide +kernel
theorem dX7_playerOf_30 : decode cX7_playerOf 30 = .ok (.iconst 2, 1) := by decide +kernel
theorem dX7_playerOf_31 : decode cX7_playerOf 31 = .ok (.goto 5, 3) := by decide +kernel
theorem dX7_playerOf_34 : decode cX7_playerOf 34 = .ok (.bipush (-9), 2) := by decide +kernel
theorem dX7_playerOf_36 : decode cX7_playerOf 36 = .ok (.ireturn, 1) := by decide +kernel
theorem dX7_playerOf_37 : decode cX7_playerOf 37 = .ok (.iload_n 0, 1) := by decide +kernel
theorem dX7_playerOf_38 : decode cX7_playerOf 38 = .ok (.iconst 1, 1) := by decide +kernel
theorem dX7_playerOf_39 : decode cX7_playerOf 39 = .ok (.if_icmp .ne 29, 3) := by decide +kernel
theorem dX7_playerOf_42 : decode cX7_playerOf 42 = .ok (.iload_n 1, 1) := by decide +kernel
theorem dX7_playerOf_43 : decode cX7_playerOf 43 = .ok (.i2l, 1) := by decide +kernel
theorem dX7_playerOf_44 : decode cX7_playerOf 44 = .ok (.ldc2_w 109, 3) := by decide +kernel
theorem dX7_playerOf_47 : decode cX7_playerOf 47 = .ok (.ldc2_w 111, 3) := by decide +kernel
theorem dX7_playerOf_50 : decode cX7_playerOf 50 = .ok (.invokestatic 76, 3) := by decide +kernel
theorem dX7_playerOf_53 : decode cX7_playerOf 53 = .ok (.ifCond .eq 10, 3) := by decide +kernel
theorem dX7_playerOf_56 : decode cX7_playerOf 56 = .ok (.iload_n 1, 1) := by decide +kernel
theorem dX7_playerOf_57 : decode cX7_playerOf 57 = .ok (.bipush 48, 2) := by decide +kernel
theorem dX7_playerOf_59 : decode cX7_playerOf 59 = .ok (.isub, 1) := by decide +kernel
theorem dX7_playerOf_60 : decode cX7_playerOf 60 = .ok (.goto 20, 3) := by decide +kernel
theorem dX7_playerOf_63 : decode cX7_playerOf 63 = .ok (.bipush (-9), 2) := by decide +kernel
theorem dX7_playerOf_65 : decode cX7_playerOf 65 = .ok (.goto 15, 3) := by decide +kernel
theorem dX7_playerOf_68 : decode cX7_playerOf 68 = .ok (.iload_n 1, 1) := by decide +kernel
theorem dX7_playerOf_69 : decode cX7_playerOf 69 = .ok (.bipush 59, 2) := by decide +kernel
theorem dX7_playerOf_71 : decode cX7_playerOf 71 = .ok (.if_icmp .ne 7, 3) := by decide +kernel
theorem dX7_playerOf_74 : decode cX7_playerOf 74 = .ok (.iconst 0, 1) := by decide +kernel
theorem dX7_playerOf_75 : decode cX7_playerOf 75 = .ok (.goto 5, 3) := by decide +kernel
theorem dX7_playerOf_78 : decode cX7_playerOf 78 = .ok (.bipush (-9), 2) := by decide +kernel
theorem dX7_playerOf_80 : decode cX7_playerOf 80 = .ok (.ireturn, 1) := by decide +kernel
theorem dX7_readsPlayers_0 : decode cX7_readsPlayers 0 = .ok (.aload_n 0, 1) := by decide +kernel
theorem dX7_readsPlayers_1 : decode cX7_readsPlayers 1 = .ok (.iconst 0, 1) := by decide +kernel
theorem dX7_readsPlayers_2 : decode cX7_readsPlayers 2 = .ok (.putfield 113, 3) := by decide +kernel
theorem dX7_readsPlayers_5 : decode cX7_readsPlayers 5 = .ok (.aload_n 0, 1) := by decide +kernel
theorem dX7_readsPlayers_6 : decode cX7_readsPlayers 6 = .ok (.getfield 25, 3) := by decide +kernel
theorem dX7_readsPlayers_9 : decode cX7_readsPlayers 9 = .ok (.iconst 0, 1) := by decide +kernel
theorem dX7_readsPlayers_10 : decode cX7_readsPlayers 10 = .ok (.iaload, 1) := by decide +kernel
theorem dX7_readsPlayers_11 : decode cX7_readsPlayers 11 = .ok (.istore_n 1, 1) := by decide +kernel
theorem dX7_readsPlayers_12 : decode cX7_readsPlayers 12 = .ok (.iconst 0, 1) := by decide +kernel
theorem dX7_readsPlayers_13 : decode cX7_readsPlayers 13 = .ok (.istore_n 2, 1) := by decide +kernel
theorem dX7_readsPlayers_14 : decode cX7_readsPlayers 14 = .ok (.iload_n 2, 1) := by decide +kernel
theorem dX7_readsPlayers_15 : decode cX7_readsPlayers 15 = .ok (.iload_n 1, 1) := by decide +kernel
theorem dX7_readsPlayers_16 : decode cX7_readsPlayers 16 = .ok (.if_icmp .ge 77, 3) := by decide +kernel
theorem dX7_readsPlayers_19 : decode cX7_readsPlayers 19 = .ok (.iload_n 2, 1) := by decide +kernel
theorem dX7_readsPlayers_20 : decode cX7_readsPlayers 20 = .ok (.iconst 3, 1) := by decide +kernel
theorem dX7_readsPlayers_21 : decode cX7_readsPlayers 21 = .ok (.irem, 1) := by decide +kernel
theorem dX7_readsPlayers_22 : decode cX7_readsPlayers 22 = .ok (.istore_n 3, 1) := by decide +kernel
theorem dX7_readsPlayers_23 : decode cX7_readsPlayers 23 = .ok (.iload_n 3, 1) := by decide +kernel
theorem dX7_readsPlayers_24 : decode cX7_readsPlayers 24 = .ok (.aload_n 0, 1) := by decide +kernel
theorem dX7_readsPlayers_25 : decode cX7_readsPlayers 25 = .ok (.getfield 22, 3) := by decide +kernel
theorem dX7_readsPlayers_28 : decode cX7_readsPlayers 28 = .ok (.iload_n 2, 1) := by decide +kernel
theorem dX7_readsPlayers_29 : decode cX7_readsPlayers 29 = .ok (.iaload, 1) := by decide +kernel
theorem dX7_readsPlayers_30 : decode cX7_readsPlayers 30 = .ok (.invokestatic 116, 3) := by decide +kernel
theorem dX7_readsPlayers_33 : decode cX7_readsPlayers 33 = .ok (.istore 4, 2) := by decide +kernel
theorem dX7_readsPlayers_35 : decode cX7_readsPlayers 35 = .ok (.iload 4, 2) := by decide +kernel
theorem dX7_readsPlayers_37 : decode cX7_readsPlayers 37 = .ok (.bipush (-9), 2) := by decide +kernel
theorem dX7_readsPlayers_39 : decode cX7_readsPlayers 39 = .ok (.if_icmp .ne 10, 3) := by decide +kernel
theorem dX7_readsPlayers_42 : decode cX7_readsPlayers 42 = .ok (.aload_n 0, 1) := by decide +kernel
theorem dX7_readsPlayers_43 : decode cX7_readsPlayers 43 = .ok (.iconst 0, 1) := by decide +kernel
theorem dX7_readsPlayers_44 : decode cX7_readsPlayers 44 = .ok (.putfield 113, 3) := by decide +kernel
theorem dX7_readsPlayers_47 : decode cX7_readsPlayers 47 = .ok (.iload_n 2, 1) := by decide +kernel
theorem dX7_readsPlayers_48 : decode cX7_readsPlayers 48 = .ok (.ireturn, 1) := by decide +kernel
theorem dX7_readsPlayers_49 : decode cX7_readsPlayers 49 = .ok (.iload_n 3, 1) := by decide +kernel
theorem dX7_readsPlayers_50 : decode cX7_readsPlayers 50 = .ok (.iconst 2, 1) := by decide +kernel
theorem dX7_readsPlayers_51 : decode cX7_readsPlayers 51 = .ok (.if_icmp .ge 17, 3) := by decide +kernel
theorem dX7_readsPlayers_54 : decode cX7_readsPlayers 54 = .ok (.aload_n 0, 1) := by decide +kernel
theorem dX7_readsPlayers_55 : decode cX7_readsPlayers 55 = .ok (.getfield 28, 3) := by decide +kernel
theorem dX7_readsPlayers_58 : decode cX7_readsPlayers 58 = .ok (.iconst 2, 1) := by decide +kernel
theorem dX7_readsPlayers_59 : decode cX7_readsPlayers 59 = .ok (.iload_n 2, 1) := by decide +kernel
theorem dX7_readsPlayers_60 : decode cX7_readsPlayers 60 = .ok (.iconst 3, 1) := by decide +kernel
theorem dX7_readsPlayers_61 : decode cX7_readsPlayers 61 = .ok (.idiv, 1) := by decide +kernel
theorem dX7_readsPlayers_62 : decode cX7_readsPlayers 62 = .ok (.imul, 1) := by decide +kernel
theorem dX7_readsPlayers_63 : decode cX7_readsPlayers 63 = .ok (.iload_n 3, 1) := by decide +kernel
theorem dX7_readsPlayers_64 : decode cX7_readsPlayers 64 = .ok (.iadd, 1) := by decide +kernel
theorem dX7_readsPlayers_65 : decode cX7_readsPlayers 65 = .ok (.iload 4, 2) := by decide +kernel
theorem dX7_readsPlayers_67 : decode cX7_readsPlayers 67 = .ok (.iastore, 1) := by decide +kernel
theorem dX7_readsPlayers_68 : decode cX7_readsPlayers 68 = .ok (.aload_n 0, 1) := by decide +kernel
theorem dX7_readsPlayers_69 : decode cX7_readsPlayers 69 = .ok (.dup, 1) := by decide +kernel
theorem dX7_readsPlayers_70 : decode cX7_readsPlayers 70 = .ok (.getfield 113, 3) := by decide +kernel
theorem dX7_readsPlayers_73 : decode cX7_readsPlayers 73 = .ok (.iload_n 3, 1) := by decide +kernel
theorem dX7_readsPlayers_74 : decode cX7_readsPlayers 74 = .ok (.iconst 1, 1) := by decide +kernel
theorem dX7_readsPlayers_75 : decode cX7_readsPlayers 75 = .ok (.if_icmp .ne 7, 3) := by decide +kernel
theorem dX7_readsPlayers_78 : decode cX7_readsPlayers 78 = .ok (.iconst 1, 1) := by decide +kernel
theorem dX7_readsPlayers_79 : decode cX7_readsPlayers 79 = .ok (.goto 4, 3) := by decide +kernel
theorem dX7_readsPlayers_82 : decode cX7_readsPlayers 82 = .ok (.iconst 0, 1) := by decide +kernel
theorem dX7_readsPlayers_83 : decode cX7_readsPlayers 83 = .ok (.iadd, 1) := by decide +kernel
theorem dX7_readsPlayers_84 : decode cX7_readsPlayers 84 = .ok (.putfield 113, 3) := by decide +kernel
theorem dX7_readsPlayers_87 : decode cX7_readsPlayers 87 = .ok (.iinc 2 1, 3) := by decide +kernel
theorem dX7_readsPlayers_90 : decode cX7_readsPlayers 90 = .ok (.goto (-76), 3) := by decide +kernel
theorem dX7_readsPlayers_93 : decode cX7_readsPlayers 93 = .ok (.iload_n 1, 1) := by decide +kernel
theorem dX7_readsPlayers_94 : decode cX7_readsPlayers 94 = .ok (.ifCond .le 17, 3) := by decide +kernel
theorem dX7_readsPlayers_97 : decode cX7_readsPlayers 97 = .ok (.iload_n 1, 1) := by decide +kernel
theorem dX7_readsPlayers_98 : decode cX7_readsPlayers 98 = .ok (.iconst 3, 1) := by decide +kernel
theorem dX7_readsPlayers_99 : decode cX7_readsPlayers 99 = .ok (.irem, 1) := by decide +kernel
theorem dX7_readsPlayers_100 : decode cX7_readsPlayers 100 = .ok (.iconst 2, 1) := by decide +kernel
theorem dX7_readsPlayers_101 : decode cX7_readsPlayers 101 = .ok (.if_icmp .eq 10, 3) := by decide +kernel
theorem dX7_readsPlayers_104 : decode cX7_readsPlayers 104 = .ok (.aload_n 0, 1) := by decide +kernel
theorem dX7_readsPlayers_105 : decode cX7_readsPlayers 105 = .ok (.iconst 0, 1) := by decide +kernel
theorem dX7_readsPlayers_106 : decode cX7_readsPlayers 106 = .ok (.putfield 113, 3) := by decide +kernel
theorem dX7_readsPlayers_109 : decode cX7_readsPlayers 109 = .ok (.iload_n 1, 1) := by decide +kernel
theorem dX7_readsPlayers_110 : decode cX7_readsPlayers 110 = .ok (.ireturn, 1) := by decide +kernel
theorem dX7_readsPlayers_111 : decode cX7_readsPlayers 111 = .ok (.iconst (-1), 1) := by decide +kernel
theorem dX7_readsPlayers_112 : decode cX7_readsPlayers 112 = .ok (.ireturn, 1) := by decide +kernel
theorem dX7_letterOf_0 : decode cX7_letterOf 0 = .ok (.iload_n 0, 1) := by decide +kernel
theorem dX7_letterOf_1 : decode cX7_letterOf 1 = .ok (.i2l, 1) := by decide +kernel
theorem dX7_letterOf_2 : decode cX7_letterOf 2 = .ok (.ldc2_w 119, 3) := by decide +kernel
theorem dX7_letterOf_5 : decode cX7_letterOf 5 = .ok (.iload_n 1, 1) := by decide +kernel
theorem dX7_letterOf_6 : decode cX7_letterOf 6 = .ok (.i2l, 1) := by decide +kernel
theorem dX7_letterOf_7 : decode cX7_letterOf 7 = .ok (.invokestatic 76, 3) := by decide +kernel
theorem dX7_letterOf_10 : decode cX7_letterOf 10 = .ok (.ifCond .eq 10, 3) := by decide +kernel
theorem dX7_letterOf_13 : decode cX7_letterOf 13 = .ok (.iload_n 0, 1) := by decide +kernel
theorem dX7_letterOf_14 : decode cX7_letterOf 14 = .ok (.bipush 97, 2) := by decide +kernel
theorem dX7_letterOf_16 : decode cX7_letterOf 16 = .ok (.isub, 1) := by decide +kernel
theorem dX7_letterOf_17 : decode cX7_letterOf 17 = .ok (.goto 5, 3) := by decide +kernel
theorem dX7_letterOf_20 : decode cX7_letterOf 20 = .ok (.bipush (-9), 2) := by decide +kernel
theorem dX7_letterOf_22 : decode cX7_letterOf 22 = .ok (.ireturn, 1) := by decide +kernel
theorem dX7_noteOf_0 : decode cX7_noteOf 0 = .ok (.iload_n 0, 1) := by decide +kernel
theorem dX7_noteOf_1 : decode cX7_noteOf 1 = .ok (.ifCond .ne 12, 3) := by decide +kernel
theorem dX7_noteOf_4 : decode cX7_noteOf 4 = .ok (.iload_n 1, 1) := by decide +kernel
theorem dX7_noteOf_5 : decode cX7_noteOf 5 = .ok (.bipush 120, 2) := by decide +kernel
theorem dX7_noteOf_7 : decode cX7_noteOf 7 = .ok (.invokestatic 121, 3) := by decide +kernel
theorem dX7_noteOf_10 : decode cX7_noteOf 10 = .ok (.goto 29, 3) := by decide +kernel
theorem dX7_noteOf_13 : decode cX7_noteOf 13 = .ok (.iload_n 0, 1) := by decide +kernel
theorem dX7_noteOf_14 : decode cX7_noteOf 14 = .ok (.iconst 1, 1) := by decide +kernel
theorem dX7_noteOf_15 : decode cX7_noteOf 15 = .ok (.if_icmp .ne 12, 3) := by decide +kernel
theorem dX7_noteOf_18 : decode cX7_noteOf 18 = .ok (.iload_n 1, 1) := by decide +kernel
theorem dX7_noteOf_19 : decode cX7_noteOf 19 = .ok (.bipush 107, 2) := by decide +kernel
theorem dX7_noteOf_21 : decode cX7_noteOf 21 = .ok (.invokestatic 121, 3) := by decide +kernel
theorem dX7_noteOf_24 : decode cX7_noteOf 24 = .ok (.goto 15, 3) := by decide +kernel
theorem dX7_noteOf_27 : decode cX7_noteOf 27 = .ok (.iload_n 1, 1) := by decide +kernel
theorem dX7_noteOf_28 : decode cX7_noteOf 28 = .ok (.bipush 59, 2) := by decide +kernel
theorem dX7_noteOf_30 : decode cX7_noteOf 30 = .ok (.if_icmp .ne 7, 3) := by decide +kernel
theorem dX7_noteOf_33 : decode cX7_noteOf 33 = .ok (.iconst 0, 1) := by decide +kernel
theorem dX7_noteOf_34 : decode cX7_noteOf 34 = .ok (.goto 5, 3) := by decide +kernel
theorem dX7_noteOf_37 : decode cX7_noteOf 37 = .ok (.bipush (-9), 2) := by decide +kernel
theorem dX7_noteOf_39 : decode cX7_noteOf 39 = .ok (.ireturn, 1) := by decide +kernel
theorem dX7_readsNotes_0 : decode cX7_readsNotes 0 = .ok (.aload_n 0, 1) := by decide +kernel
theorem dX7_readsNotes_1 : decode cX7_readsNotes 1 = .ok (.iconst 0, 1) := by decide +kernel
theorem dX7_readsNotes_2 : decode cX7_readsNotes 2 = .ok (.putfield 124, 3) := by decide +kernel
theorem dX7_readsNotes_5 : decode cX7_readsNotes 5 = .ok (.aload_n 0, 1) := by decide +kernel
theorem dX7_readsNotes_6 : decode cX7_readsNotes 6 = .ok (.getfield 25, 3) := by decide +kernel
theorem dX7_readsNotes_9 : decode cX7_readsNotes 9 = .ok (.iconst 1, 1) := by decide +kernel
theorem dX7_readsNotes_10 : decode cX7_readsNotes 10 = .ok (.iaload, 1) := by decide +kernel
theorem dX7_readsNotes_11 : decode cX7_readsNotes 11 = .ok (.istore_n 1, 1) := by decide +kernel
theorem dX7_readsNotes_12 : decode cX7_readsNotes 12 = .ok (.iconst 0, 1) := by decide +kernel
theorem dX7_readsNotes_13 : decode cX7_readsNotes 13 = .ok (.istore_n 2, 1) := by decide +kernel
theorem dX7_readsNotes_14 : decode cX7_readsNotes 14 = .ok (.iload_n 2, 1) := by decide +kernel
theorem dX7_readsNotes_15 : decode cX7_readsNotes 15 = .ok (.iload_n 1, 1) := by decide +kernel
theorem dX7_readsNotes_16 : decode cX7_readsNotes 16 = .ok (.if_icmp .ge 80, 3) := by decide +kernel
theorem dX7_readsNotes_19 : decode cX7_readsNotes 19 = .ok (.iload_n 2, 1) := by decide +kernel
theorem dX7_readsNotes_20 : decode cX7_readsNotes 20 = .ok (.iconst 3, 1) := by decide +kernel
theorem dX7_readsNotes_21 : decode cX7_readsNotes 21 = .ok (.irem, 1) := by decide +kernel
theorem dX7_readsNotes_22 : decode cX7_readsNotes 22 = .ok (.istore_n 3, 1) := by decide +kernel
theorem dX7_readsNotes_23 : decode cX7_readsNotes 23 = .ok (.iload_n 3, 1) := by decide +kernel
theorem dX7_readsNotes_24 : decode cX7_readsNotes 24 = .ok (.aload_n 0, 1) := by decide +kernel
theorem dX7_readsNotes_25 : decode cX7_readsNotes 25 = .ok (.getfield 22, 3) := by decide +kernel
theorem dX7_readsNotes_28 : decode cX7_readsNotes 28 = .ok (.bipush 48, 2) := by decide +kernel
theorem dX7_readsNotes_30 : decode cX7_readsNotes 30 = .ok (.iload_n 2, 1) := by decide +kernel
theorem dX7_readsNotes_31 : decode cX7_readsNotes 31 = .ok (.iadd, 1) := by decide +kernel
theorem dX7_readsNotes_32 : decode cX7_readsNotes 32 = .ok (.iaload, 1) := by decide +kernel
theorem dX7_readsNotes_33 : decode cX7_readsNotes 33 = .ok (.invokestatic 127, 3) := by decide +kernel
theorem dX7_readsNotes_36 : decode cX7_readsNotes 36 = .ok (.istore 4, 2) := by decide +kernel
theorem dX7_readsNotes_38 : decode cX7_readsNotes 38 = .ok (.iload 4, 2) := by decide +kernel
theorem dX7_readsNotes_40 : decode cX7_readsNotes 40 = .ok (.bipush (-9), 2) := by decide +kernel
theorem dX7_readsNotes_42 : decode cX7_readsNotes 42 = .ok (.if_icmp .ne 10, 3) := by decide +kernel
theorem dX7_readsNotes_45 : decode cX7_readsNotes 45 = .ok (.aload_n 0, 1) := by decide +kernel
theorem dX7_readsNotes_46 : decode cX7_readsNotes 46 = .ok (.iconst 0, 1) := by decide +kernel
theorem dX7_readsNotes_47 : decode cX7_readsNotes 47 = .ok (.putfield 124, 3) := by decide +kernel
theorem dX7_readsNotes_50 : decode cX7_readsNotes 50 = .ok (.iload_n 2, 1) := by decide +kernel
theorem dX7_readsNotes_51 : decode cX7_readsNotes 51 = .ok (.ireturn, 1) := by decide +kernel
theorem dX7_readsNotes_52 : decode cX7_readsNotes 52 = .ok (.iload_n 3, 1) := by decide +kernel
theorem dX7_readsNotes_53 : decode cX7_readsNotes 53 = .ok (.iconst 2, 1) := by decide +kernel
theorem dX7_readsNotes_54 : decode cX7_readsNotes 54 = .ok (.if_icmp .ge 17, 3) := by decide +kernel
theorem dX7_readsNotes_57 : decode cX7_readsNotes 57 = .ok (.aload_n 0, 1) := by decide +kernel
theorem dX7_readsNotes_58 : decode cX7_readsNotes 58 = .ok (.getfield 31, 3) := by decide +kernel
theorem dX7_readsNotes_61 : decode cX7_readsNotes 61 = .ok (.iconst 2, 1) := by decide +kernel
theorem dX7_readsNotes_62 : decode cX7_readsNotes 62 = .ok (.iload_n 2, 1) := by decide +kernel
theorem dX7_readsNotes_63 : decode cX7_readsNotes 63 = .ok (.iconst 3, 1) := by decide +kernel
theorem dX7_readsNotes_64 : decode cX7_readsNotes 64 = .ok (.idiv, 1) := by decide +kernel
theorem dX7_readsNotes_65 : decode cX7_readsNotes 65 = .ok (.imul, 1) := by decide +kernel
theorem dX7_readsNotes_66 : decode cX7_readsNotes 66 = .ok (.iload_n 3, 1) := by decide +kernel
theorem dX7_readsNotes_67 : decode cX7_readsNotes 67 = .ok (.iadd, 1) := by decide +kernel
theorem dX7_readsNotes_68 : decode cX7_readsNotes 68 = .ok (.iload 4, 2) := by decide +kernel
theorem dX7_readsNotes_70 : decode cX7_readsNotes 70 = .ok (.iastore, 1) := by decide +kernel
theorem dX7_readsNotes_71 : decode cX7_readsNotes 71 = .ok (.aload_n 0, 1) := by decide +kernel
theorem dX7_readsNotes_72 : decode cX7_readsNotes 72 = .ok (.dup, 1) := by decide +kernel
theorem dX7_readsNotes_73 : decode cX7_readsNotes 73 = .ok (.getfield 124, 3) := by decide +kernel
theorem dX7_readsNotes_76 : decode cX7_readsNotes 76 = .ok (.iload_n 3, 1) := by decide +kernel
theorem dX7_readsNotes_77 : decode cX7_readsNotes 77 = .ok (.iconst 1, 1) := by decide +kernel
theorem dX7_readsNotes_78 : decode cX7_readsNotes 78 = .ok (.if_icmp .ne 7, 3) := by decide +kernel
theorem dX7_readsNotes_81 : decode cX7_readsNotes 81 = .ok (.iconst 1, 1) := by decide +kernel
theorem dX7_readsNotes_82 : decode cX7_readsNotes 82 = .ok (.goto 4, 3) := by decide +kernel
theorem dX7_readsNotes_85 : decode cX7_readsNotes 85 = .ok (.iconst 0, 1) := by decide +kernel
theorem dX7_readsNotes_86 : decode cX7_readsNotes 86 = .ok (.iadd, 1) := by decide +kernel
theorem dX7_readsNotes_87 : decode cX7_readsNotes 87 = .ok (.putfield 124, 3) := by decide +kernel
theorem dX7_readsNotes_90 : decode cX7_readsNotes 90 = .ok (.iinc 2 1, 3) := by decide +kernel
theorem dX7_readsNotes_93 : decode cX7_readsNotes 93 = .ok (.goto (-79), 3) := by decide +kernel
theorem dX7_readsNotes_96 : decode cX7_readsNotes 96 = .ok (.iload_n 1, 1) := by decide +kernel
theorem dX7_readsNotes_97 : decode cX7_readsNotes 97 = .ok (.ifCond .le 17, 3) := by decide +kernel
theorem dX7_readsNotes_100 : decode cX7_readsNotes 100 = .ok (.iload_n 1, 1) := by decide +kernel
theorem dX7_readsNotes_101 : decode cX7_readsNotes 101 = .ok (.iconst 3, 1) := by decide +kernel
theorem dX7_readsNotes_102 : decode cX7_readsNotes 102 = .ok (.irem, 1) := by decide +kernel
theorem dX7_readsNotes_103 : decode cX7_readsNotes 103 = .ok (.iconst 2, 1) := by decide +kernel
theorem dX7_readsNotes_104 : decode cX7_readsNotes 104 = .ok (.if_icmp .eq 10, 3) := by decide +kernel
theorem dX7_readsNotes_107 : decode cX7_readsNotes 107 = .ok (.aload_n 0, 1) := by decide +kernel
theorem dX7_readsNotes_108 : decode cX7_readsNotes 108 = .ok (.iconst 0, 1) := by decide +kernel
theorem dX7_readsNotes_109 : decode cX7_readsNotes 109 = .ok (.putfield 124, 3) := by decide +kernel
theorem dX7_readsNotes_112 : decode cX7_readsNotes 112 = .ok (.iload_n 1, 1) := by decide +kernel
theorem dX7_readsNotes_113 : decode cX7_readsNotes 113 = .ok (.ireturn, 1) := by decide +kernel
theorem dX7_readsNotes_114 : decode cX7_readsNotes 114 = .ok (.iconst (-1), 1) := by decide +kernel
theorem dX7_readsNotes_115 : decode cX7_readsNotes 115 = .ok (.ireturn, 1) := by decide +kernel
theorem dX7_readsText_0 : decode cX7_readsText 0 = .ok (.iload_n 1, 1) := by decide +kernel
theorem dX7_readsText_1 : decode cX7_readsText 1 = .ok (.ifCond .ne 10, 3) := by decide +kernel
theorem dX7_readsText_4 : decode cX7_readsText 4 = .ok (.aload_n 0, 1) := by decide +kernel
theorem dX7_readsText_5 : decode cX7_readsText 5 = .ok (.invokevirtual 130, 3) := by decide +kernel
theorem dX7_readsText_8 : decode cX7_readsText 8 = .ok (.goto 7, 3) := by decide +kernel
theorem dX7_readsText_11 : decode cX7_readsText 11 = .ok (.aload_n 0, 1) := by decide +kernel
theorem dX7_readsText_12 : decode cX7_readsText 12 = .ok (.invokevirtual 134, 3) := by decide +kernel
theorem dX7_readsText_15 : decode cX7_readsText 15 = .ok (.ireturn, 1) := by decide +kernel
theorem dX7_fault_0 : decode cX7_fault 0 = .ok (.iload_n 1, 1) := by decide +kernel
theorem dX7_fault_1 : decode cX7_fault 1 = .ok (.invokestatic 104, 3) := by decide +kernel
theorem dX7_fault_4 : decode cX7_fault 4 = .ok (.ifCond .eq 11, 3) := by decide +kernel
theorem dX7_fault_7 : decode cX7_fault 7 = .ok (.aload_n 0, 1) := by decide +kernel
theorem dX7_fault_8 : decode cX7_fault 8 = .ok (.iload_n 1, 1) := by decide +kernel
theorem dX7_fault_9 : decode cX7_fault 9 = .ok (.invokevirtual 137, 3) := by decide +kernel
theorem dX7_fault_12 : decode cX7_fault 12 = .ok (.goto 5, 3) := by decide +kernel
theorem dX7_fault_15 : decode cX7_fault 15 = .ok (.bipush (-2), 2) := by decide +kernel
theorem dX7_fault_17 : decode cX7_fault 17 = .ok (.ireturn, 1) := by decide +kernel
theorem dX7_isPlayer_0 : decode cX7_isPlayer 0 = .ok (.iload_n 1, 1) := by decide +kernel
theorem dX7_isPlayer_1 : decode cX7_isPlayer 1 = .ok (.i2l, 1) := by decide +kernel
theorem dX7_isPlayer_2 : decode cX7_isPlayer 2 = .ok (.lconst 0, 1) := by decide +kernel
theorem dX7_isPlayer_3 : decode cX7_isPlayer 3 = .ok (.aload_n 0, 1) := by decide +kernel
theorem dX7_isPlayer_4 : decode cX7_isPlayer 4 = .ok (.getfield 113, 3) := by decide +kernel
theorem dX7_isPlayer_7 : decode cX7_isPlayer 7 = .ok (.iconst 1, 1) := by decide +kernel
theorem dX7_isPlayer_8 : decode cX7_isPlayer 8 = .ok (.isub, 1) := by decide +kernel
theorem dX7_isPlayer_9 : decode cX7_isPlayer 9 = .ok (.i2l, 1) := by decide +kernel
theorem dX7_isPlayer_10 : decode cX7_isPlayer 10 = .ok (.invokestatic 76, 3) := by decide +kernel
theorem dX7_isPlayer_13 : decode cX7_isPlayer 13 = .ok (.ireturn, 1) := by decide +kernel
theorem dX7_isNote_0 : decode cX7_isNote 0 = .ok (.iload_n 1, 1) := by decide +kernel
theorem dX7_isNote_1 : decode cX7_isNote 1 = .ok (.i2l, 1) := by decide +kernel
theorem dX7_isNote_2 : decode cX7_isNote 2 = .ok (.lconst 0, 1) := by decide +kernel
theorem dX7_isNote_3 : decode cX7_isNote 3 = .ok (.aload_n 0, 1) := by decide +kernel
theorem dX7_isNote_4 : decode cX7_isNote 4 = .ok (.getfield 124, 3) := by decide +kernel
theorem dX7_isNote_7 : decode cX7_isNote 7 = .ok (.iconst 1, 1) := by decide +kernel
theorem dX7_isNote_8 : decode cX7_isNote 8 = .ok (.isub, 1) := by decide +kernel
theorem dX7_isNote_9 : decode cX7_isNote 9 = .ok (.i2l, 1) := by decide +kernel
theorem dX7_isNote_10 : decode cX7_isNote 10 = .ok (.invokestatic 76, 3) := by decide +kernel
theorem dX7_isNote_13 : decode cX7_isNote 13 = .ok (.ireturn, 1) := by decide +kernel
theorem dX7_isBeat_0 : decode cX7_isBeat 0 = .ok (.iload_n 0, 1) := by decide +kernel
theorem dX7_isBeat_1 : decode cX7_isBeat 1 = .ok (.i2l, 1) := by decide +kernel
theorem dX7_isBeat_2 : decode cX7_isBeat 2 = .ok (.lconst 0, 1) := by decide +kernel
theorem dX7_isBeat_3 : decode cX7_isBeat 3 = .ok (.ldc2_w 140, 3) := by decide +kernel
theorem dX7_isBeat_6 : decode cX7_isBeat 6 = .ok (.invokestatic 76, 3) := by decide +kernel
theorem dX7_isBeat_9 : decode cX7_isBeat 9 = .ok (.ireturn, 1) := by decide +kernel
theorem dX7_player_0 : decode cX7_player 0 = .ok (.aload_n 0, 1) := by decide +kernel
theorem dX7_player_1 : decode cX7_player 1 = .ok (.invokevirtual 130, 3) := by decide +kernel
theorem dX7_player_4 : decode cX7_player 4 = .ok (.pop, 1) := by decide +kernel
theorem dX7_player_5 : decode cX7_player 5 = .ok (.aload_n 0, 1) := by decide +kernel
theorem dX7_player_6 : decode cX7_player 6 = .ok (.iload_n 1, 1) := by decide +kernel
theorem dX7_player_7 : decode cX7_player 7 = .ok (.invokevirtual 142, 3) := by decide +kernel
theorem dX7_player_10 : decode cX7_player 10 = .ok (.ifCond .eq 23, 3) := by decide +kernel
theorem dX7_player_13 : decode cX7_player 13 = .ok (.iload_n 2, 1) := by decide +kernel
theorem dX7_player_14 : decode cX7_player 14 = .ok (.invokestatic 104, 3) := by decide +kernel
theorem dX7_player_17 : decode cX7_player 17 = .ok (.ifCond .eq 16, 3) := by decide +kernel
theorem dX7_player_20 : decode cX7_player 20 = .ok (.aload_n 0, 1) := by decide +kernel
theorem dX7_player_21 : decode cX7_player 21 = .ok (.getfield 28, 3) := by decide +kernel
theorem dX7_player_24 : decode cX7_player 24 = .ok (.iconst 2, 1) := by decide +kernel
theorem dX7_player_25 : decode cX7_player 25 = .ok (.iload_n 1, 1) := by decide +kernel
theorem dX7_player_26 : decode cX7_player 26 = .ok (.imul, 1) := by decide +kernel
theorem dX7_player_27 : decode cX7_player 27 = .ok (.iload_n 2, 1) := by decide +kernel
theorem dX7_player_28 : decode cX7_player 28 = .ok (.iadd, 1) := by decide +kernel
theorem dX7_player_29 : decode cX7_player 29 = .ok (.iaload, 1) := by decide +kernel
theorem dX7_player_30 : decode cX7_player 30 = .ok (.goto 5, 3) := by decide +kernel
theorem dX7_player_33 : decode cX7_player 33 = .ok (.bipush (-2), 2) := by decide +kernel
theorem dX7_player_35 : decode cX7_player 35 = .ok (.ireturn, 1) := by decide +kernel
theorem dX7_noteBy_0 : decode cX7_noteBy 0 = .ok (.iload_n 1, 1) := by decide +kernel
theorem dX7_noteBy_1 : decode cX7_noteBy 1 = .ok (.aload_n 0, 1) := by decide +kernel
theorem dX7_noteBy_2 : decode cX7_noteBy 2 = .ok (.getfield 124, 3) := by decide +kernel
theorem dX7_noteBy_5 : decode cX7_noteBy 5 = .ok (.if_icmp .ge 16, 3) := by decide +kernel
theorem dX7_noteBy_8 : decode cX7_noteBy 8 = .ok (.aload_n 0, 1) := by decide +kernel
theorem dX7_noteBy_9 : decode cX7_noteBy 9 = .ok (.getfield 31, 3) := by decide +kernel
theorem dX7_noteBy_12 : decode cX7_noteBy 12 = .ok (.iconst 2, 1) := by decide +kernel
theorem dX7_noteBy_13 : decode cX7_noteBy 13 = .ok (.iload_n 1, 1) := by decide +kernel
theorem dX7_noteBy_14 : decode cX7_noteBy 14 = .ok (.imul, 1) := by decide +kernel
theorem dX7_noteBy_15 : decode cX7_noteBy 15 = .ok (.iload_n 2, 1) := by decide +kernel
theorem dX7_noteBy_16 : decode cX7_noteBy 16 = .ok (.iadd, 1) := by decide +kernel
theorem dX7_noteBy_17 : decode cX7_noteBy 17 = .ok (.iaload, 1) := by decide +kernel
theorem dX7_noteBy_18 : decode cX7_noteBy 18 = .ok (.goto 4, 3) := by decide +kernel
theorem dX7_noteBy_21 : decode cX7_noteBy 21 = .ok (.iconst (-1), 1) := by decide +kernel
theorem dX7_noteBy_22 : decode cX7_noteBy 22 = .ok (.ireturn, 1) := by decide +kernel
theorem dX7_note_0 : decode cX7_note 0 = .ok (.aload_n 0, 1) := by decide +kernel
theorem dX7_note_1 : decode cX7_note 1 = .ok (.invokevirtual 134, 3) := by decide +kernel
theorem dX7_note_4 : decode cX7_note 4 = .ok (.pop, 1) := by decide +kernel
theorem dX7_note_5 : decode cX7_note 5 = .ok (.iload_n 1, 1) := by decide +kernel
theorem dX7_note_6 : decode cX7_note 6 = .ok (.i2l, 1) := by decide +kernel
theorem dX7_note_7 : decode cX7_note 7 = .ok (.lconst 0, 1) := by decide +kernel
theorem dX7_note_8 : decode cX7_note 8 = .ok (.ldc2_w 145, 3) := by decide +kernel
theorem dX7_note_11 : decode cX7_note 11 = .ok (.invokestatic 76, 3) := by decide +kernel
theorem dX7_note_14 : decode cX7_note 14 = .ok (.ifCond .eq 19, 3) := by decide +kernel
theorem dX7_note_17 : decode cX7_note 17 = .ok (.iload_n 2, 1) := by decide +kernel
theorem dX7_note_18 : decode cX7_note 18 = .ok (.invokestatic 104, 3) := by decide +kernel
theorem dX7_note_21 : decode cX7_note 21 = .ok (.ifCond .eq 12, 3) := by decide +kernel
theorem dX7_note_24 : decode cX7_note 24 = .ok (.aload_n 0, 1) := by decide +kernel
theorem dX7_note_25 : decode cX7_note 25 = .ok (.iload_n 1, 1) := by decide +kernel
theorem dX7_note_26 : decode cX7_note 26 = .ok (.iload_n 2, 1) := by decide +kernel
theorem dX7_note_27 : decode cX7_note 27 = .ok (.invokevirtual 147, 3) := by decide +kernel
theorem dX7_note_30 : decode cX7_note 30 = .ok (.goto 5, 3) := by decide +kernel
theorem dX7_note_33 : decode cX7_note 33 = .ok (.bipush (-2), 2) := by decide +kernel
theorem dX7_note_35 : decode cX7_note 35 = .ok (.ireturn, 1) := by decide +kernel
theorem dX7_bag_0 : decode cX7_bag 0 = .ok (.iload_n 1, 1) := by decide +kernel
theorem dX7_bag_1 : decode cX7_bag 1 = .ok (.i2l, 1) := by decide +kernel
theorem dX7_bag_2 : decode cX7_bag 2 = .ok (.lconst 1, 1) := by decide +kernel
theorem dX7_bag_3 : decode cX7_bag 3 = .ok (.ldc2_w 150, 3) := by decide +kernel
theorem dX7_bag_6 : decode cX7_bag 6 = .ok (.invokestatic 76, 3) := by decide +kernel
theorem dX7_bag_9 : decode cX7_bag 9 = .ok (.ifCond .ne 6, 3) := by decide +kernel
theorem dX7_bag_12 : decode cX7_bag 12 = .ok (.bipush (-2), 2) := by decide +kernel
theorem dX7_bag_14 : decode cX7_bag 14 = .ok (.ireturn, 1) := by decide +kernel
theorem dX7_bag_15 : decode cX7_bag 15 = .ok (.aload_n 0, 1) := by decide +kernel
theorem dX7_bag_16 : decode cX7_bag 16 = .ok (.getfield 67, 3) := by decide +kernel
theorem dX7_bag_19 : decode cX7_bag 19 = .ok (.istore_n 2, 1) := by decide +kernel
theorem dX7_bag_20 : decode cX7_bag 20 = .ok (.aload_n 0, 1) := by decide +kernel
theorem dX7_bag_21 : decode cX7_bag 21 = .ok (.iload_n 1, 1) := by decide +kernel
theorem dX7_bag_22 : decode cX7_bag 22 = .ok (.putfield 67, 3) := by decide +kernel
theorem dX7_bag_25 : decode cX7_bag 25 = .ok (.iload_n 2, 1) := by decide +kernel
theorem dX7_bag_26 : decode cX7_bag 26 = .ok (.ireturn, 1) := by decide +kernel
theorem dX7_event_0 : decode cX7_event 0 = .ok (.iload_n 1, 1) := by decide +kernel
theorem dX7_event_1 : decode cX7_event 1 = .ok (.i2l, 1) := by decide +kernel
theorem dX7_event_2 : decode cX7_event 2 = .ok (.lconst 0, 1) := by decide +kernel
theorem dX7_event_3 : decode cX7_event 3 = .ok (.ldc2_w 89, 3) := by decide +kernel
theorem dX7_event_6 : decode cX7_event 6 = .ok (.invokestatic 76, 3) := by decide +kernel
theorem dX7_event_9 : decode cX7_event 9 = .ok (.ifCond .eq 10, 3) := by decide +kernel
theorem dX7_event_12 : decode cX7_event 12 = .ok (.iload_n 2, 1) := by decide +kernel
theorem dX7_event_13 : decode cX7_event 13 = .ok (.invokestatic 152, 3) := by decide +kernel
theorem dX7_event_16 : decode cX7_event 16 = .ok (.ifCond .ne 6, 3) := by decide +kernel
theorem dX7_event_19 : decode cX7_event 19 = .ok (.bipush (-2), 2) := by decide +kernel
theorem dX7_event_21 : decode cX7_event 21 = .ok (.ireturn, 1) := by decide +kernel
theorem dX7_event_22 : decode cX7_event 22 = .ok (.aload_n 0, 1) := by decide +kernel
theorem dX7_event_23 : decode cX7_event 23 = .ok (.getfield 155, 3) := by decide +kernel
theorem dX7_event_26 : decode cX7_event 26 = .ok (.bipush 8, 2) := by decide +kernel
theorem dX7_event_28 : decode cX7_event 28 = .ok (.if_icmp .ne 6, 3) := by decide +kernel
theorem dX7_event_31 : decode cX7_event 31 = .ok (.bipush (-4), 2) := by decide +kernel
theorem dX7_event_33 : decode cX7_event 33 = .ok (.ireturn, 1) := by decide +kernel
theorem dX7_event_34 : decode cX7_event 34 = .ok (.aload_n 0, 1) := by decide +kernel
theorem dX7_event_35 : decode cX7_event 35 = .ok (.getfield 34, 3) := by decide +kernel
theorem dX7_event_38 : decode cX7_event 38 = .ok (.iconst 2, 1) := by decide +kernel
theorem dX7_event_39 : decode cX7_event 39 = .ok (.aload_n 0, 1) := by decide +kernel
theorem dX7_event_40 : decode cX7_event 40 = .ok (.getfield 155, 3) := by decide +kernel
theorem dX7_event_43 : decode cX7_event 43 = .ok (.imul, 1) := by decide +kernel
theorem dX7_event_44 : decode cX7_event 44 = .ok (.iload_n 1, 1) := by decide +kernel
theorem dX7_event_45 : decode cX7_event 45 = .ok (.iastore, 1) := by decide +kernel
theorem dX7_event_46 : decode cX7_event 46 = .ok (.aload_n 0, 1) := by decide +kernel
theorem dX7_event_47 : decode cX7_event 47 = .ok (.getfield 34, 3) := by decide +kernel
theorem dX7_event_50 : decode cX7_event 50 = .ok (.iconst 2, 1) := by decide +kernel
theorem dX7_event_51 : decode cX7_event 51 = .ok (.aload_n 0, 1) := by decide +kernel
theorem dX7_event_52 : decode cX7_event 52 = .ok (.getfield 155, 3) := by decide +kernel
theorem dX7_event_55 : decode cX7_event 55 = .ok (.imul, 1) := by decide +kernel
theorem dX7_event_56 : decode cX7_event 56 = .ok (.iconst 1, 1) := by decide +kernel
theorem dX7_event_57 : decode cX7_event 57 = .ok (.iadd, 1) := by decide +kernel
theorem dX7_event_58 : decode cX7_event 58 = .ok (.iload_n 2, 1) := by decide +kernel
theorem dX7_event_59 : decode cX7_event 59 = .ok (.iastore, 1) := by decide +kernel
theorem dX7_event_60 : decode cX7_event 60 = .ok (.aload_n 0, 1) := by decide +kernel
theorem dX7_event_61 : decode cX7_event 61 = .ok (.dup, 1) := by decide +kernel
theorem dX7_event_62 : decode cX7_event 62 = .ok (.getfield 155, 3) := by decide +kernel
theorem dX7_event_65 : decode cX7_event 65 = .ok (.iconst 1, 1) := by decide +kernel
theorem dX7_event_66 : decode cX7_event 66 = .ok (.iadd, 1) := by decide +kernel
theorem dX7_event_67 : decode cX7_event 67 = .ok (.putfield 155, 3) := by decide +kernel
theorem dX7_event_70 : decode cX7_event 70 = .ok (.aload_n 0, 1) := by decide +kernel
theorem dX7_event_71 : decode cX7_event 71 = .ok (.getfield 155, 3) := by decide +kernel
theorem dX7_event_74 : decode cX7_event 74 = .ok (.ireturn, 1) := by decide +kernel
theorem dX7_back_0 : decode cX7_back 0 = .ok (.aload_n 0, 1) := by decide +kernel
theorem dX7_back_1 : decode cX7_back 1 = .ok (.getfield 155, 3) := by decide +kernel
theorem dX7_back_4 : decode cX7_back 4 = .ok (.ifCond .ne 6, 3) := by decide +kernel
theorem dX7_back_7 : decode cX7_back 7 = .ok (.bipush (-3), 2) := by decide +kernel
theorem dX7_back_9 : decode cX7_back 9 = .ok (.ireturn, 1) := by decide +kernel
theorem dX7_back_10 : decode cX7_back 10 = .ok (.aload_n 0, 1) := by decide +kernel
theorem dX7_back_11 : decode cX7_back 11 = .ok (.dup, 1) := by decide +kernel
theorem dX7_back_12 : decode cX7_back 12 = .ok (.getfield 155, 3) := by decide +kernel
theorem dX7_back_15 : decode cX7_back 15 = .ok (.iconst 1, 1) := by decide +kernel
theorem dX7_back_16 : decode cX7_back 16 = .ok (.isub, 1) := by decide +kernel
theorem dX7_back_17 : decode cX7_back 17 = .ok (.putfield 155, 3) := by decide +kernel
theorem dX7_back_20 : decode cX7_back 20 = .ok (.aload_n 0, 1) := by decide +kernel
theorem dX7_back_21 : decode cX7_back 21 = .ok (.getfield 155, 3) := by decide +kernel
theorem dX7_back_24 : decode cX7_back 24 = .ok (.ireturn, 1) := by decide +kernel
theorem dX7_read_0 : decode cX7_read 0 = .ok (.iload_n 1, 1) := by decide +kernel
theorem dX7_read_1 : decode cX7_read 1 = .ok (.invokestatic 85, 3) := by decide +kernel
theorem dX7_read_4 : decode cX7_read 4 = .ok (.ifCond .ne 6, 3) := by decide +kernel
theorem dX7_read_7 : decode cX7_read 7 = .ok (.bipush (-2), 2) := by decide +kernel
theorem dX7_read_9 : decode cX7_read 9 = .ok (.ireturn, 1) := by decide +kernel
theorem dX7_read_10 : decode cX7_read 10 = .ok (.aload_n 0, 1) := by decide +kernel
theorem dX7_read_11 : decode cX7_read 11 = .ok (.getfield 7, 3) := by decide +kernel
theorem dX7_read_14 : decode cX7_read 14 = .ok (.iload_n 1, 1) := by decide +kernel
theorem dX7_read_15 : decode cX7_read 15 = .ok (.iaload, 1) := by decide +kernel
theorem dX7_read_16 : decode cX7_read 16 = .ok (.ifCond .ge 9, 3) := by decide +kernel
theorem dX7_read_19 : decode cX7_read 19 = .ok (.aload_n 0, 1) := by decide +kernel
theorem dX7_read_20 : decode cX7_read 20 = .ok (.iconst 1, 1) := by decide +kernel
theorem dX7_read_21 : decode cX7_read 21 = .ok (.invokevirtual 91, 3) := by decide +kernel
theorem dX7_read_24 : decode cX7_read 24 = .ok (.ireturn, 1) := by decide +kernel
theorem dX7_read_25 : decode cX7_read 25 = .ok (.iconst 0, 1) := by decide +kernel
theorem dX7_read_26 : decode cX7_read 26 = .ok (.istore_n 2, 1) := by decide +kernel
theorem dX7_read_27 : decode cX7_read 27 = .ok (.iconst 1, 1) := by decide +kernel
theorem dX7_read_28 : decode cX7_read 28 = .ok (.istore_n 3, 1) := by decide +kernel
theorem dX7_read_29 : decode cX7_read 29 = .ok (.iload_n 3, 1) := by decide +kernel
theorem dX7_read_30 : decode cX7_read 30 = .ok (.ifCond .eq 73, 3) := by decide +kernel
theorem dX7_read_33 : decode cX7_read 33 = .ok (.iconst 2, 1) := by decide +kernel
theorem dX7_read_34 : decode cX7_read 34 = .ok (.iload_n 2, 1) := by decide +kernel
theorem dX7_read_35 : decode cX7_read 35 = .ok (.imul, 1) := by decide +kernel
theorem dX7_read_36 : decode cX7_read 36 = .ok (.iconst 2, 1) := by decide +kernel
theorem dX7_read_37 : decode cX7_read 37 = .ok (.iadd, 1) := by decide +kernel
theorem dX7_read_38 : decode cX7_read 38 = .ok (.aload_n 0, 1) := by decide +kernel
theorem dX7_read_39 : decode cX7_read 39 = .ok (.getfield 13, 3) := by decide +kernel
theorem dX7_read_42 : decode cX7_read 42 = .ok (.iload_n 1, 1) := by decide +kernel
theorem dX7_read_43 : decode cX7_read 43 = .ok (.iaload, 1) := by decide +kernel
theorem dX7_read_44 : decode cX7_read 44 = .ok (.if_icmp .gt 59, 3) := by decide +kernel
theorem dX7_read_47 : decode cX7_read 47 = .ok (.aload_n 0, 1) := by decide +kernel
theorem dX7_read_48 : decode cX7_read 48 = .ok (.aload_n 0, 1) := by decide +kernel
theorem dX7_read_49 : decode cX7_read 49 = .ok (.getfield 16, 3) := by decide +kernel
theorem dX7_read_52 : decode cX7_read 52 = .ok (.bipush 60, 2) := by decide +kernel
theorem dX7_read_54 : decode cX7_read 54 = .ok (.iload_n 1, 1) := by decide +kernel
theorem dX7_read_55 : decode cX7_read 55 = .ok (.imul, 1) := by decide +kernel
theorem dX7_read_56 : decode cX7_read 56 = .ok (.iconst 2, 1) := by decide +kernel
theorem dX7_read_57 : decode cX7_read 57 = .ok (.iload_n 2, 1) := by decide +kernel
theorem dX7_read_58 : decode cX7_read 58 = .ok (.imul, 1) := by decide +kernel
theorem dX7_read_59 : decode cX7_read 59 = .ok (.iadd, 1) := by decide +kernel
theorem dX7_read_60 : decode cX7_read 60 = .ok (.iaload, 1) := by decide +kernel
theorem dX7_read_61 : decode cX7_read 61 = .ok (.aload_n 0, 1) := by decide +kernel
theorem dX7_read_62 : decode cX7_read 62 = .ok (.getfield 16, 3) := by decide +kernel
theorem dX7_read_65 : decode cX7_read 65 = .ok (.bipush 60, 2) := by decide +kernel
theorem dX7_read_67 : decode cX7_read 67 = .ok (.iload_n 1, 1) := by decide +kernel
theorem dX7_read_68 : decode cX7_read 68 = .ok (.imul, 1) := by decide +kernel
theorem dX7_read_69 : decode cX7_read 69 = .ok (.iconst 2, 1) := by decide +kernel
theorem dX7_read_70 : decode cX7_read 70 = .ok (.iload_n 2, 1) := by decide +kernel
theorem dX7_read_71 : decode cX7_read 71 = .ok (.imul, 1) := by decide +kernel
theorem dX7_read_72 : decode cX7_read 72 = .ok (.iadd, 1) := by decide +kernel
theorem dX7_read_73 : decode cX7_read 73 = .ok (.iconst 1, 1) := by decide +kernel
theorem dX7_read_74 : decode cX7_read 74 = .ok (.iadd, 1) := by decide +kernel
theorem dX7_read_75 : decode cX7_read 75 = .ok (.iaload, 1) := by decide +kernel
theorem dX7_read_76 : decode cX7_read 76 = .ok (.invokevirtual 158, 3) := by decide +kernel
theorem dX7_read_79 : decode cX7_read 79 = .ok (.ifCond .lt 7, 3) := by decide +kernel
theorem dX7_read_82 : decode cX7_read 82 = .ok (.iconst 1, 1) := by decide +kernel
theorem dX7_read_83 : decode cX7_read 83 = .ok (.goto 4, 3) := by decide +kernel
theorem dX7_read_86 : decode cX7_read 86 = .ok (.iconst 0, 1) := by decide +kernel
theorem dX7_read_87 : decode cX7_read 87 = .ok (.istore_n 3, 1) := by decide +kernel
theorem dX7_read_88 : decode cX7_read 88 = .ok (.iload_n 2, 1) := by decide +kernel
theorem dX7_read_89 : decode cX7_read 89 = .ok (.iload_n 3, 1) := by decide +kernel
theorem dX7_read_90 : decode cX7_read 90 = .ok (.ifCond .eq 7, 3) := by decide +kernel
theorem dX7_read_93 : decode cX7_read 93 = .ok (.iconst 1, 1) := by decide +kernel
theorem dX7_read_94 : decode cX7_read 94 = .ok (.goto 4, 3) := by decide +kernel
theorem dX7_read_97 : decode cX7_read 97 = .ok (.iconst 0, 1) := by decide +kernel
theorem dX7_read_98 : decode cX7_read 98 = .ok (.iadd, 1) := by decide +kernel
theorem dX7_read_99 : decode cX7_read 99 = .ok (.istore_n 2, 1) := by decide +kernel
theorem dX7_read_100 : decode cX7_read 100 = .ok (.goto (-71), 3) := by decide +kernel
theorem dX7_read_103 : decode cX7_read 103 = .ok (.iload_n 2, 1) := by decide +kernel
theorem dX7_read_104 : decode cX7_read 104 = .ok (.ireturn, 1) := by decide +kernel
theorem dX7_many_0 : decode cX7_many 0 = .ok (.iconst 0, 1) := by decide +kernel
theorem dX7_many_1 : decode cX7_many 1 = .ok (.istore_n 3, 1) := by decide +kernel
theorem dX7_many_2 : decode cX7_many 2 = .ok (.iconst 0, 1) := by decide +kernel
theorem dX7_many_3 : decode cX7_many 3 = .ok (.istore 4, 2) := by decide +kernel
theorem dX7_many_5 : decode cX7_many 5 = .ok (.iload 4, 2) := by decide +kernel
theorem dX7_many_7 : decode cX7_many 7 = .ok (.aload_n 0, 1) := by decide +kernel
theorem dX7_many_8 : decode cX7_many 8 = .ok (.getfield 155, 3) := by decide +kernel
theorem dX7_many_11 : decode cX7_many 11 = .ok (.if_icmp .ge 57, 3) := by decide +kernel
theorem dX7_many_14 : decode cX7_many 14 = .ok (.iload_n 3, 1) := by decide +kernel
theorem dX7_many_15 : decode cX7_many 15 = .ok (.aload_n 0, 1) := by decide +kernel
theorem dX7_many_16 : decode cX7_many 16 = .ok (.getfield 34, 3) := by decide +kernel
theorem dX7_many_19 : decode cX7_many 19 = .ok (.iconst 2, 1) := by decide +kernel
theorem dX7_many_20 : decode cX7_many 20 = .ok (.iload 4, 2) := by decide +kernel
theorem dX7_many_22 : decode cX7_many 22 = .ok (.imul, 1) := by decide +kernel
theorem dX7_many_23 : decode cX7_many 23 = .ok (.iaload, 1) := by decide +kernel
theorem dX7_many_24 : decode cX7_many 24 = .ok (.iload_n 1, 1) := by decide +kernel
theorem dX7_many_25 : decode cX7_many 25 = .ok (.if_icmp .ne 34, 3) := by decide +kernel
theorem dX7_many_28 : decode cX7_many 28 = .ok (.aload_n 0, 1) := by decide +kernel
theorem dX7_many_29 : decode cX7_many 29 = .ok (.getfield 34, 3) := by decide +kernel
theorem dX7_many_32 : decode cX7_many 32 = .ok (.iconst 2, 1) := by decide +kernel
theorem dX7_many_33 : decode cX7_many 33 = .ok (.iload 4, 2) := by decide +kernel
theorem dX7_many_35 : decode cX7_many 35 = .ok (.imul, 1) := by decide +kernel
theorem dX7_many_36 : decode cX7_many 36 = .ok (.iconst 1, 1) := by decide +kernel
theorem dX7_many_37 : decode cX7_many 37 = .ok (.iadd, 1) := by decide +kernel
theorem dX7_many_38 : decode cX7_many 38 = .ok (.iaload, 1) := by decide +kernel
theorem dX7_many_39 : decode cX7_many 39 = .ok (.iload_n 2, 1) := by decide +kernel
theorem dX7_many_40 : decode cX7_many 40 = .ok (.if_icmp .ne 19, 3) := by decide +kernel
theorem dX7_many_43 : decode cX7_many 43 = .ok (.aload_n 0, 1) := by decide +kernel
theorem dX7_many_44 : decode cX7_many 44 = .ok (.getfield 160, 3) := by decide +kernel
theorem dX7_many_47 : decode cX7_many 47 = .ok (.iload 4, 2) := by decide +kernel
theorem dX7_many_49 : decode cX7_many 49 = .ok (.invokestatic 163, 3) := by decide +kernel
theorem dX7_many_52 : decode cX7_many 52 = .ok (.ifCond .ne 7, 3) := by decide +kernel
theorem dX7_many_55 : decode cX7_many 55 = .ok (.iconst 1, 1) := by decide +kernel
theorem dX7_many_56 : decode cX7_many 56 = .ok (.goto 4, 3) := by decide +kernel
theorem dX7_many_59 : decode cX7_many 59 = .ok (.iconst 0, 1) := by decide +kernel
theorem dX7_many_60 : decode cX7_many 60 = .ok (.iadd, 1) := by decide +kernel
theorem dX7_many_61 : decode cX7_many 61 = .ok (.istore_n 3, 1) := by decide +kernel
theorem dX7_many_62 : decode cX7_many 62 = .ok (.iinc 4 1, 3) := by decide +kernel
theorem dX7_many_65 : decode cX7_many 65 = .ok (.goto (-60), 3) := by decide +kernel
theorem dX7_many_68 : decode cX7_many 68 = .ok (.iload_n 3, 1) := by decide +kernel
theorem dX7_many_69 : decode cX7_many 69 = .ok (.ireturn, 1) := by decide +kernel
theorem dX7_whoIn_0 : decode cX7_whoIn 0 = .ok (.iconst (-1), 1) := by decide +kernel
theorem dX7_whoIn_1 : decode cX7_whoIn 1 = .ok (.istore_n 2, 1) := by decide +kernel
theorem dX7_whoIn_2 : decode cX7_whoIn 2 = .ok (.iconst 0, 1) := by decide +kernel
theorem dX7_whoIn_3 : decode cX7_whoIn 3 = .ok (.istore_n 3, 1) := by decide +kernel
theorem dX7_whoIn_4 : decode cX7_whoIn 4 = .ok (.iload_n 3, 1) := by decide +kernel
theorem dX7_whoIn_5 : decode cX7_whoIn 5 = .ok (.aload_n 0, 1) := by decide +kernel
theorem dX7_whoIn_6 : decode cX7_whoIn 6 = .ok (.getfield 113, 3) := by decide +kernel
theorem dX7_whoIn_9 : decode cX7_whoIn 9 = .ok (.if_icmp .ge 25, 3) := by decide +kernel
theorem dX7_whoIn_12 : decode cX7_whoIn 12 = .ok (.aload_n 0, 1) := by decide +kernel
theorem dX7_whoIn_13 : decode cX7_whoIn 13 = .ok (.getfield 58, 3) := by decide +kernel
theorem dX7_whoIn_16 : decode cX7_whoIn 16 = .ok (.iload_n 3, 1) := by decide +kernel
theorem dX7_whoIn_17 : decode cX7_whoIn 17 = .ok (.iaload, 1) := by decide +kernel
theorem dX7_whoIn_18 : decode cX7_whoIn 18 = .ok (.iload_n 1, 1) := by decide +kernel
theorem dX7_whoIn_19 : decode cX7_whoIn 19 = .ok (.if_icmp .ne 7, 3) := by decide +kernel
theorem dX7_whoIn_22 : decode cX7_whoIn 22 = .ok (.iload_n 3, 1) := by decide +kernel
theorem dX7_whoIn_23 : decode cX7_whoIn 23 = .ok (.goto 4, 3) := by decide +kernel
theorem dX7_whoIn_26 : decode cX7_whoIn 26 = .ok (.iload_n 2, 1) := by decide +kernel
theorem dX7_whoIn_27 : decode cX7_whoIn 27 = .ok (.istore_n 2, 1) := by decide +kernel
theorem dX7_whoIn_28 : decode cX7_whoIn 28 = .ok (.iinc 3 1, 3) := by decide +kernel
theorem dX7_whoIn_31 : decode cX7_whoIn 31 = .ok (.goto (-27), 3) := by decide +kernel
theorem dX7_whoIn_34 : decode cX7_whoIn 34 = .ok (.iload_n 2, 1) := by decide +kernel
theorem dX7_whoIn_35 : decode cX7_whoIn 35 = .ok (.ireturn, 1) := by decide +kernel
theorem dX7_blows_0 : decode cX7_blows 0 = .ok (.aload_n 0, 1) := by decide +kernel
theorem dX7_blows_1 : decode cX7_blows 1 = .ok (.getfield 31, 3) := by decide +kernel
theorem dX7_blows_4 : decode cX7_blows 4 = .ok (.iconst 2, 1) := by decide +kernel
theorem dX7_blows_5 : decode cX7_blows 5 = .ok (.iload_n 1, 1) := by decide +kernel
theorem dX7_blows_6 : decode cX7_blows 6 = .ok (.imul, 1) := by decide +kernel
theorem dX7_blows_7 : decode cX7_blows 7 = .ok (.iconst 1, 1) := by decide +kernel
theorem dX7_blows_8 : decode cX7_blows 8 = .ok (.iadd, 1) := by decide +kernel
theorem dX7_blows_9 : decode cX7_blows 9 = .ok (.iaload, 1) := by decide +kernel
theorem dX7_blows_10 : decode cX7_blows 10 = .ok (.istore_n 2, 1) := by decide +kernel
theorem dX7_blows_11 : decode cX7_blows 11 = .ok (.aload_n 0, 1) := by decide +kernel
theorem dX7_blows_12 : decode cX7_blows 12 = .ok (.getfield 46, 3) := by decide +kernel
theorem dX7_blows_15 : decode cX7_blows 15 = .ok (.iload_n 1, 1) := by decide +kernel
theorem dX7_blows_16 : decode cX7_blows 16 = .ok (.iconst 0, 1) := by decide +kernel
theorem dX7_blows_17 : decode cX7_blows 17 = .ok (.iastore, 1) := by decide +kernel
theorem dX7_blows_18 : decode cX7_blows 18 = .ok (.aload_n 0, 1) := by decide +kernel
theorem dX7_blows_19 : decode cX7_blows 19 = .ok (.iload_n 2, 1) := by decide +kernel
theorem dX7_blows_20 : decode cX7_blows 20 = .ok (.invokevirtual 142, 3) := by decide +kernel
theorem dX7_blows_23 : decode cX7_blows 23 = .ok (.ifCond .ne 4, 3) := by decide +kernel
theorem dX7_blows_26 : decode cX7_blows 26 = .ok (.return_, 1) := by decide +kernel
theorem dX7_blows_27 : decode cX7_blows 27 = .ok (.aload_n 0, 1) := by decide +kernel
theorem dX7_blows_28 : decode cX7_blows 28 = .ok (.getfield 28, 3) := by decide +kernel
theorem dX7_blows_31 : decode cX7_blows 31 = .ok (.iconst 2, 1) := by decide +kernel
theorem dX7_blows_32 : decode cX7_blows 32 = .ok (.iload_n 2, 1) := by decide +kernel
theorem dX7_blows_33 : decode cX7_blows 33 = .ok (.imul, 1) := by decide +kernel
theorem dX7_blows_34 : decode cX7_blows 34 = .ok (.iaload, 1) := by decide +kernel
theorem dX7_blows_35 : decode cX7_blows 35 = .ok (.istore_n 3, 1) := by decide +kernel
theorem dX7_blows_36 : decode cX7_blows 36 = .ok (.iload_n 3, 1) := by decide +kernel
theorem dX7_blows_37 : decode cX7_blows 37 = .ok (.ifCond .ne 7, 3) := by decide +kernel
theorem dX7_blows_40 : decode cX7_blows 40 = .ok (.iconst 4, 1) := by decide +kernel
theorem dX7_blows_41 : decode cX7_blows 41 = .ok (.goto 13, 3) := by decide +kernel
theorem dX7_blows_44 : decode cX7_blows 44 = .ok (.iload_n 3, 1) := by decide +kernel
theorem dX7_blows_45 : decode cX7_blows 45 = .ok (.iconst 1, 1) := by decide +kernel
theorem dX7_blows_46 : decode cX7_blows 46 = .ok (.if_icmp .ne 7, 3) := by decide +kernel
theorem dX7_blows_49 : decode cX7_blows 49 = .ok (.iconst 2, 1) := by decide +kernel
theorem dX7_blows_50 : decode cX7_blows 50 = .ok (.goto 4, 3) := by decide +kernel
theorem dX7_blows_53 : decode cX7_blows 53 = .ok (.iconst 1, 1) := by decide +kernel
theorem dX7_blows_54 : decode cX7_blows 54 = .ok (.istore 4, 2) := by decide +kernel
theorem dX7_blows_56 : decode cX7_blows 56 = .ok (.aload_n 0, 1) := by decide +kernel
theorem dX7_blows_57 : decode cX7_blows 57 = .ok (.getfield 58, 3) := by decide +kernel
theorem dX7_blows_60 : decode cX7_blows 60 = .ok (.iload_n 2, 1) := by decide +kernel
theorem dX7_blows_61 : decode cX7_blows 61 = .ok (.iaload, 1) := by decide +kernel
theorem dX7_blows_62 : decode cX7_blows 62 = .ok (.aload_n 0, 1) := by decide +kernel
theorem dX7_blows_63 : decode cX7_blows 63 = .ok (.getfield 167, 3) := by decide +kernel
theorem dX7_blows_66 : decode cX7_blows 66 = .ok (.if_icmp .eq 25, 3) := by decide +kernel
theorem dX7_blows_69 : decode cX7_blows 69 = .ok (.iload_n 3, 1) := by decide +kernel
theorem dX7_blows_70 : decode cX7_blows 70 = .ok (.iconst 2, 1) := by decide +kernel
theorem dX7_blows_71 : decode cX7_blows 71 = .ok (.if_icmp .ne 24, 3) := by decide +kernel
theorem dX7_blows_74 : decode cX7_blows 74 = .ok (.aload_n 0, 1) := by decide +kernel
theorem dX7_blows_75 : decode cX7_blows 75 = .ok (.getfield 58, 3) := by decide +kernel
theorem dX7_blows_78 : decode cX7_blows 78 = .ok (.iload_n 2, 1) := by decide +kernel
theorem dX7_blows_79 : decode cX7_blows 79 = .ok (.iaload, 1) := by decide +kernel
theorem dX7_blows_80 : decode cX7_blows 80 = .ok (.aload_n 0, 1) := by decide +kernel
theorem dX7_blows_81 : decode cX7_blows 81 = .ok (.getfield 167, 3) := by decide +kernel
theorem dX7_blows_84 : decode cX7_blows 84 = .ok (.invokestatic 170, 3) := by decide +kernel
theorem dX7_blows_87 : decode cX7_blows 87 = .ok (.iconst 1, 1) := by decide +kernel
theorem dX7_blows_88 : decode cX7_blows 88 = .ok (.if_icmp .ne 7, 3) := by decide +kernel
theorem dX7_blows_91 : decode cX7_blows 91 = .ok (.iconst 1, 1) := by decide +kernel
theorem dX7_blows_92 : decode cX7_blows 92 = .ok (.goto 4, 3) := by decide +kernel
theorem dX7_blows_95 : decode cX7_blows 95 = .ok (.iconst 0, 1) := by decide +kernel
theorem dX7_blows_96 : decode cX7_blows 96 = .ok (.istore 5, 2) := by decide +kernel
theorem dX7_blows_98 : decode cX7_blows 98 = .ok (.iload 5, 2) := by decide +kernel
theorem dX7_blows_100 : decode cX7_blows 100 = .ok (.ifCond .eq 73, 3) := by decide +kernel
theorem dX7_blows_103 : decode cX7_blows 103 = .ok (.aload_n 0, 1) := by decide +kernel
theorem dX7_blows_104 : decode cX7_blows 104 = .ok (.getfield 173, 3) := by decide +kernel
theorem dX7_blows_107 : decode cX7_blows 107 = .ok (.iload 4, 2) := by decide +kernel
theorem dX7_blows_109 : decode cX7_blows 109 = .ok (.if_icmp .lt 64, 3) := by decide +kernel
theorem dX7_blows_112 : decode cX7_blows 112 = .ok (.iload 4, 2) := by decide +kernel
theorem dX7_blows_114 : decode cX7_blows 114 = .ok (.iload 4, 2) := by decide +kernel
theorem dX7_blows_116 : decode cX7_blows 116 = .ok (.iconst 2, 1) := by decide +kernel
theorem dX7_blows_117 : decode cX7_blows 117 = .ok (.idiv, 1) := by decide +kernel
theorem dX7_blows_118 : decode cX7_blows 118 = .ok (.isub, 1) := by decide +kernel
theorem dX7_blows_119 : decode cX7_blows 119 = .ok (.istore 6, 2) := by decide +kernel
theorem dX7_blows_121 : decode cX7_blows 121 = .ok (.aload_n 0, 1) := by decide +kernel
theorem dX7_blows_122 : decode cX7_blows 122 = .ok (.dup, 1) := by decide +kernel
theorem dX7_blows_123 : decode cX7_blows 123 = .ok (.getfield 173, 3) := by decide +kernel
theorem dX7_blows_126 : decode cX7_blows 126 = .ok (.iload 6, 2) := by decide +kernel
theorem dX7_blows_128 : decode cX7_blows 128 = .ok (.isub, 1) := by decide +kernel
theorem dX7_blows_129 : decode cX7_blows 129 = .ok (.putfield 173, 3) := by decide +kernel
theorem dX7_blows_132 : decode cX7_blows 132 = .ok (.aload_n 0, 1) := by decide +kernel
theorem dX7_blows_133 : decode cX7_blows 133 = .ok (.getfield 52, 3) := by decide +kernel
theorem dX7_blows_136 : decode cX7_blows 136 = .ok (.iload_n 2, 1) := by decide +kernel
theorem dX7_blows_137 : decode cX7_blows 137 = .ok (.dup2, 1) := by decide +kernel
theorem dX7_blows_138 : decode cX7_blows 138 = .ok (.iaload, 1) := by decide +kernel
theorem dX7_blows_139 : decode cX7_blows 139 = .ok (.iload 6, 2) := by decide +kernel
theorem dX7_blows_141 : decode cX7_blows 141 = .ok (.iadd, 1) := by decide +kernel
theorem dX7_blows_142 : decode cX7_blows 142 = .ok (.iastore, 1) := by decide +kernel
theorem dX7_blows_143 : decode cX7_blows 143 = .ok (.aload_n 0, 1) := by decide +kernel
theorem dX7_blows_144 : decode cX7_blows 144 = .ok (.getfield 49, 3) := by decide +kernel
theorem dX7_blows_147 : decode cX7_blows 147 = .ok (.iload_n 2, 1) := by decide +kernel
theorem dX7_blows_148 : decode cX7_blows 148 = .ok (.dup2, 1) := by decide +kernel
theorem dX7_blows_149 : decode cX7_blows 149 = .ok (.iaload, 1) := by decide +kernel
theorem dX7_blows_150 : decode cX7_blows 150 = .ok (.iconst 1, 1) := by decide +kernel
theorem dX7_blows_151 : decode cX7_blows 151 = .ok (.iadd, 1) := by decide +kernel
theorem dX7_blows_152 : decode cX7_blows 152 = .ok (.iastore, 1) := by decide +kernel
theorem dX7_blows_153 : decode cX7_blows 153 = .ok (.aload_n 0, 1) := by decide +kernel
theorem dX7_blows_154 : decode cX7_blows 154 = .ok (.getfield 46, 3) := by decide +kernel
theorem dX7_blows_157 : decode cX7_blows 157 = .ok (.iload_n 1, 1) := by decide +kernel
theorem dX7_blows_158 : decode cX7_blows 158 = .ok (.aload_n 0, 1) := by decide +kernel
theorem dX7_blows_159 : decode cX7_blows 159 = .ok (.getfield 173, 3) := by decide +kernel
theorem dX7_blows_162 : decode cX7_blows 162 = .ok (.bipush 10, 2) := by decide +kernel
theorem dX7_blows_164 : decode cX7_blows 164 = .ok (.if_icmp .ge 7, 3) := by decide +kernel
theorem dX7_blows_167 : decode cX7_blows 167 = .ok (.iconst 1, 1) := by decide +kernel
theorem dX7_blows_168 : decode cX7_blows 168 = .ok (.goto 4, 3) := by decide +kernel
theorem dX7_blows_171 : decode cX7_blows 171 = .ok (.iconst 2, 1) := by decide +kernel
theorem dX7_blows_172 : decode cX7_blows 172 = .ok (.iastore, 1) := by decide +kernel
theorem dX7_blows_173 : decode cX7_blows 173 = .ok (.return_, 1) := by decide +kernel
theorem dX7_passes_0 : decode cX7_passes 0 = .ok (.iconst 3, 1) := by decide +kernel
theorem dX7_passes_1 : decode cX7_passes 1 = .ok (.aload_n 0, 1) := by decide +kernel
theorem dX7_passes_2 : decode cX7_passes 2 = .ok (.iconst 0, 1) := by decide +kernel
theorem dX7_passes_3 : decode cX7_passes 3 = .ok (.iload_n 1, 1) := by decide +kernel
theorem dX7_passes_4 : decode cX7_passes 4 = .ok (.invokevirtual 176, 3) := by decide +kernel
theorem dX7_passes_7 : decode cX7_passes 7 = .ok (.imul, 1) := by decide +kernel
theorem dX7_passes_8 : decode cX7_passes 8 = .ok (.aload_n 0, 1) := by decide +kernel
theorem dX7_passes_9 : decode cX7_passes 9 = .ok (.getfield 173, 3) := by decide +kernel
theorem dX7_passes_12 : decode cX7_passes 12 = .ok (.invokestatic 179, 3) := by decide +kernel
theorem dX7_passes_15 : decode cX7_passes 15 = .ok (.istore_n 2, 1) := by decide +kernel
theorem dX7_passes_16 : decode cX7_passes 16 = .ok (.aload_n 0, 1) := by decide +kernel
theorem dX7_passes_17 : decode cX7_passes 17 = .ok (.dup, 1) := by decide +kernel
theorem dX7_passes_18 : decode cX7_passes 18 = .ok (.getfield 173, 3) := by decide +kernel
theorem dX7_passes_21 : decode cX7_passes 21 = .ok (.iload_n 2, 1) := by decide +kernel
theorem dX7_passes_22 : decode cX7_passes 22 = .ok (.isub, 1) := by decide +kernel
theorem dX7_passes_23 : decode cX7_passes 23 = .ok (.putfield 173, 3) := by decide +kernel
theorem dX7_passes_26 : decode cX7_passes 26 = .ok (.aload_n 0, 1) := by decide +kernel
theorem dX7_passes_27 : decode cX7_passes 27 = .ok (.dup, 1) := by decide +kernel
theorem dX7_passes_28 : decode cX7_passes 28 = .ok (.getfield 182, 3) := by decide +kernel
theorem dX7_passes_31 : decode cX7_passes 31 = .ok (.iload_n 2, 1) := by decide +kernel
theorem dX7_passes_32 : decode cX7_passes 32 = .ok (.iadd, 1) := by decide +kernel
theorem dX7_passes_33 : decode cX7_passes 33 = .ok (.putfield 182, 3) := by decide +kernel
theorem dX7_passes_36 : decode cX7_passes 36 = .ok (.iconst 0, 1) := by decide +kernel
theorem dX7_passes_37 : decode cX7_passes 37 = .ok (.istore_n 3, 1) := by decide +kernel
theorem dX7_passes_38 : decode cX7_passes 38 = .ok (.iload_n 3, 1) := by decide +kernel
theorem dX7_passes_39 : decode cX7_passes 39 = .ok (.aload_n 0, 1) := by decide +kernel
theorem dX7_passes_40 : decode cX7_passes 40 = .ok (.getfield 124, 3) := by decide +kernel
theorem dX7_passes_43 : decode cX7_passes 43 = .ok (.if_icmp .ge 26, 3) := by decide +kernel
theorem dX7_passes_46 : decode cX7_passes 46 = .ok (.aload_n 0, 1) := by decide +kernel
theorem dX7_passes_47 : decode cX7_passes 47 = .ok (.getfield 31, 3) := by decide +kernel
theorem dX7_passes_50 : decode cX7_passes 50 = .ok (.iconst 2, 1) := by decide +kernel
theorem dX7_passes_51 : decode cX7_passes 51 = .ok (.iload_n 3, 1) := by decide +kernel
theorem dX7_passes_52 : decode cX7_passes 52 = .ok (.imul, 1) := by decide +kernel
theorem dX7_passes_53 : decode cX7_passes 53 = .ok (.iaload, 1) := by decide +kernel
theorem dX7_passes_54 : decode cX7_passes 54 = .ok (.iload_n 1, 1) := by decide +kernel
theorem dX7_passes_55 : decode cX7_passes 55 = .ok (.if_icmp .ne 8, 3) := by decide +kernel
theorem dX7_passes_58 : decode cX7_passes 58 = .ok (.aload_n 0, 1) := by decide +kernel
theorem dX7_passes_59 : decode cX7_passes 59 = .ok (.iload_n 3, 1) := by decide +kernel
theorem dX7_passes_60 : decode cX7_passes 60 = .ok (.invokevirtual 185, 3) := by decide +kernel
theorem dX7_passes_63 : decode cX7_passes 63 = .ok (.iinc 3 1, 3) := by decide +kernel
theorem dX7_passes_66 : decode cX7_passes 66 = .ok (.goto (-28), 3) := by decide +kernel
theorem dX7_passes_69 : decode cX7_passes 69 = .ok (.iconst 0, 1) := by decide +kernel
theorem dX7_passes_70 : decode cX7_passes 70 = .ok (.istore_n 3, 1) := by decide +kernel
theorem dX7_passes_71 : decode cX7_passes 71 = .ok (.aload_n 0, 1) := by decide +kernel
theorem dX7_passes_72 : decode cX7_passes 72 = .ok (.getfield 113, 3) := by decide +kernel
theorem dX7_passes_75 : decode cX7_passes 75 = .ok (.ifCond .le 127, 3) := by decide +kernel
theorem dX7_passes_78 : decode cX7_passes 78 = .ok (.aload_n 0, 1) := by decide +kernel
theorem dX7_passes_79 : decode cX7_passes 79 = .ok (.iconst 2, 1) := by decide +kernel
theorem dX7_passes_80 : decode cX7_passes 80 = .ok (.iload_n 1, 1) := by decide +kernel
theorem dX7_passes_81 : decode cX7_passes 81 = .ok (.invokevirtual 176, 3) := by decide +kernel
theorem dX7_passes_84 : decode cX7_passes 84 = .ok (.ifCond .ne 118, 3) := by decide +kernel
theorem dX7_passes_87 : decode cX7_passes 87 = .ok (.aload_n 0, 1) := by decide +kernel
theorem dX7_passes_88 : decode cX7_passes 88 = .ok (.getfield 71, 3) := by decide +kernel
theorem dX7_passes_91 : decode cX7_passes 91 = .ok (.iload_n 1, 1) := by decide +kernel
theorem dX7_passes_92 : decode cX7_passes 92 = .ok (.if_icmp .eq 110, 3) := by decide +kernel
theorem dX7_passes_95 : decode cX7_passes 95 = .ok (.aload_n 0, 1) := by decide +kernel
theorem dX7_passes_96 : decode cX7_passes 96 = .ok (.aload_n 0, 1) := by decide +kernel
theorem dX7_passes_97 : decode cX7_passes 97 = .ok (.getfield 167, 3) := by decide +kernel
theorem dX7_passes_100 : decode cX7_passes 100 = .ok (.invokevirtual 189, 3) := by decide +kernel
theorem dX7_passes_103 : decode cX7_passes 103 = .ok (.istore 4, 2) := by decide +kernel
theorem dX7_passes_105 : decode cX7_passes 105 = .ok (.aload_n 0, 1) := by decide +kernel
theorem dX7_passes_106 : decode cX7_passes 106 = .ok (.getfield 167, 3) := by decide +kernel
theorem dX7_passes_109 : decode cX7_passes 109 = .ok (.aload_n 0, 1) := by decide +kernel
theorem dX7_passes_110 : decode cX7_passes 110 = .ok (.getfield 113, 3) := by decide +kernel
theorem dX7_passes_113 : decode cX7_passes 113 = .ok (.iconst 1, 1) := by decide +kernel
theorem dX7_passes_114 : decode cX7_passes 114 = .ok (.isub, 1) := by decide +kernel
theorem dX7_passes_115 : decode cX7_passes 115 = .ok (.if_icmp .ne 7, 3) := by decide +kernel
theorem dX7_passes_118 : decode cX7_passes 118 = .ok (.iconst 1, 1) := by decide +kernel
theorem dX7_passes_119 : decode cX7_passes 119 = .ok (.goto 4, 3) := by decide +kernel
theorem dX7_passes_122 : decode cX7_passes 122 = .ok (.iconst 0, 1) := by decide +kernel
theorem dX7_passes_123 : decode cX7_passes 123 = .ok (.istore 5, 2) := by decide +kernel
theorem dX7_passes_125 : decode cX7_passes 125 = .ok (.aload_n 0, 1) := by decide +kernel
theorem dX7_passes_126 : decode cX7_passes 126 = .ok (.getfield 28, 3) := by decide +kernel
theorem dX7_passes_129 : decode cX7_passes 129 = .ok (.iconst 2, 1) := by decide +kernel
theorem dX7_passes_130 : decode cX7_passes 130 = .ok (.iload 4, 2) := by decide +kernel
theorem dX7_passes_132 : decode cX7_passes 132 = .ok (.imul, 1) := by decide +kernel
theorem dX7_passes_133 : decode cX7_passes 133 = .ok (.iconst 1, 1) := by decide +kernel
theorem dX7_passes_134 : decode cX7_passes 134 = .ok (.iadd, 1) := by decide +kernel
theorem dX7_passes_135 : decode cX7_passes 135 = .ok (.iaload, 1) := by decide +kernel
theorem dX7_passes_136 : decode cX7_passes 136 = .ok (.iload 5, 2) := by decide +kernel
theorem dX7_passes_138 : decode cX7_passes 138 = .ok (.ifCond .eq 7, 3) := by decide +kernel
theorem dX7_passes_141 : decode cX7_passes 141 = .ok (.iconst 2, 1) := by decide +kernel
theorem dX7_passes_142 : decode cX7_passes 142 = .ok (.goto 4, 3) := by decide +kernel
theorem dX7_passes_145 : decode cX7_passes 145 = .ok (.iconst 0, 1) := by decide +kernel
theorem dX7_passes_146 : decode cX7_passes 146 = .ok (.iadd, 1) := by decide +kernel
theorem dX7_passes_147 : decode cX7_passes 147 = .ok (.istore_n 3, 1) := by decide +kernel
theorem dX7_passes_148 : decode cX7_passes 148 = .ok (.aload_n 0, 1) := by decide +kernel
theorem dX7_passes_149 : decode cX7_passes 149 = .ok (.iconst 1, 1) := by decide +kernel
theorem dX7_passes_150 : decode cX7_passes 150 = .ok (.iload_n 1, 1) := by decide +kernel
theorem dX7_passes_151 : decode cX7_passes 151 = .ok (.invokevirtual 176, 3) := by decide +kernel
theorem dX7_passes_154 : decode cX7_passes 154 = .ok (.ifCond .le 9, 3) := by decide +kernel
theorem dX7_passes_157 : decode cX7_passes 157 = .ok (.iconst 2, 1) := by decide +kernel
theorem dX7_passes_158 : decode cX7_passes 158 = .ok (.iload_n 3, 1) := by decide +kernel
theorem dX7_passes_159 : decode cX7_passes 159 = .ok (.imul, 1) := by decide +kernel
theorem dX7_passes_160 : decode cX7_passes 160 = .ok (.goto 4, 3) := by decide +kernel
theorem dX7_passes_163 : decode cX7_passes 163 = .ok (.iload_n 3, 1) := by decide +kernel
theorem dX7_passes_164 : decode cX7_passes 164 = .ok (.aload_n 0, 1) := by decide +kernel
theorem dX7_passes_165 : decode cX7_passes 165 = .ok (.getfield 173, 3) := by decide +kernel
theorem dX7_passes_168 : decode cX7_passes 168 = .ok (.invokestatic 179, 3) := by decide +kernel
theorem dX7_passes_171 : decode cX7_passes 171 = .ok (.istore_n 3, 1) := by decide +kernel
theorem dX7_passes_172 : decode cX7_passes 172 = .ok (.aload_n 0, 1) := by decide +kernel
theorem dX7_passes_173 : decode cX7_passes 173 = .ok (.iload 5, 2) := by decide +kernel
theorem dX7_passes_175 : decode cX7_passes 175 = .ok (.ifCond .eq 7, 3) := by decide +kernel
theorem dX7_passes_178 : decode cX7_passes 178 = .ok (.iconst 0, 1) := by decide +kernel
theorem dX7_passes_179 : decode cX7_passes 179 = .ok (.goto 9, 3) := by decide +kernel
theorem dX7_passes_182 : decode cX7_passes 182 = .ok (.aload_n 0, 1) := by decide +kernel
theorem dX7_passes_183 : decode cX7_passes 183 = .ok (.getfield 167, 3) := by decide +kernel
theorem dX7_passes_186 : decode cX7_passes 186 = .ok (.iconst 1, 1) := by decide +kernel
theorem dX7_passes_187 : decode cX7_passes 187 = .ok (.iadd, 1) := by decide +kernel
theorem dX7_passes_188 : decode cX7_passes 188 = .ok (.putfield 167, 3) := by decide +kernel
theorem dX7_passes_191 : decode cX7_passes 191 = .ok (.aload_n 0, 1) := by decide +kernel
theorem dX7_passes_192 : decode cX7_passes 192 = .ok (.getfield 55, 3) := by decide +kernel
theorem dX7_passes_195 : decode cX7_passes 195 = .ok (.iload 4, 2) := by decide +kernel
theorem dX7_passes_197 : decode cX7_passes 197 = .ok (.dup2, 1) := by decide +kernel
theorem dX7_passes_198 : decode cX7_passes 198 = .ok (.iaload, 1) := by decide +kernel
theorem dX7_passes_199 : decode cX7_passes 199 = .ok (.iload_n 3, 1) := by decide +kernel
theorem dX7_passes_200 : decode cX7_passes 200 = .ok (.iadd, 1) := by decide +kernel
theorem dX7_passes_201 : decode cX7_passes 201 = .ok (.iastore, 1) := by decide +kernel
theorem dX7_passes_202 : decode cX7_passes 202 = .ok (.aload_n 0, 1) := by decide +kernel
theorem dX7_passes_203 : decode cX7_passes 203 = .ok (.dup, 1) := by decide +kernel
theorem dX7_passes_204 : decode cX7_passes 204 = .ok (.getfield 173, 3) := by decide +kernel
theorem dX7_passes_207 : decode cX7_passes 207 = .ok (.iload_n 3, 1) := by decide +kernel
theorem dX7_passes_208 : decode cX7_passes 208 = .ok (.isub, 1) := by decide +kernel
theorem dX7_passes_209 : decode cX7_passes 209 = .ok (.putfield 173, 3) := by decide +kernel
theorem dX7_passes_212 : decode cX7_passes 212 = .ok (.aload_n 0, 1) := by decide +kernel
theorem dX7_passes_213 : decode cX7_passes 213 = .ok (.dup, 1) := by decide +kernel
theorem dX7_passes_214 : decode cX7_passes 214 = .ok (.getfield 192, 3) := by decide +kernel
theorem dX7_passes_217 : decode cX7_passes 217 = .ok (.iload_n 3, 1) := by decide +kernel
theorem dX7_passes_218 : decode cX7_passes 218 = .ok (.iadd, 1) := by decide +kernel
theorem dX7_passes_219 : decode cX7_passes 219 = .ok (.putfield 192, 3) := by decide +kernel
theorem dX7_passes_222 : decode cX7_passes 222 = .ok (.aload_n 0, 1) := by decide +kernel
theorem dX7_passes_223 : decode cX7_passes 223 = .ok (.getfield 37, 3) := by decide +kernel
theorem dX7_passes_226 : decode cX7_passes 226 = .ok (.iload_n 1, 1) := by decide +kernel
theorem dX7_passes_227 : decode cX7_passes 227 = .ok (.aload_n 0, 1) := by decide +kernel
theorem dX7_passes_228 : decode cX7_passes 228 = .ok (.getfield 167, 3) := by decide +kernel
theorem dX7_passes_231 : decode cX7_passes 231 = .ok (.iastore, 1) := by decide +kernel
theorem dX7_passes_232 : decode cX7_passes 232 = .ok (.aload_n 0, 1) := by decide +kernel
theorem dX7_passes_233 : decode cX7_passes 233 = .ok (.getfield 40, 3) := by decide +kernel
theorem dX7_passes_236 : decode cX7_passes 236 = .ok (.iload_n 1, 1) := by decide +kernel
theorem dX7_passes_237 : decode cX7_passes 237 = .ok (.aload_n 0, 1) := by decide +kernel
theorem dX7_passes_238 : decode cX7_passes 238 = .ok (.getfield 173, 3) := by decide +kernel
theorem dX7_passes_241 : decode cX7_passes 241 = .ok (.iastore, 1) := by decide +kernel
theorem dX7_passes_242 : decode cX7_passes 242 = .ok (.aload_n 0, 1) := by decide +kernel
theorem dX7_passes_243 : decode cX7_passes 243 = .ok (.getfield 43, 3) := by decide +kernel
theorem dX7_passes_246 : decode cX7_passes 246 = .ok (.iload_n 1, 1) := by decide +kernel
theorem dX7_passes_247 : decode cX7_passes 247 = .ok (.iload_n 3, 1) := by decide +kernel
theorem dX7_passes_248 : decode cX7_passes 248 = .ok (.iastore, 1) := by decide +kernel
theorem dX7_passes_249 : decode cX7_passes 249 = .ok (.return_, 1) := by decide +kernel
theorem dX7_lives_0 : decode cX7_lives 0 = .ok (.iconst 0, 1) := by decide +kernel
theorem dX7_lives_1 : decode cX7_lives 1 = .ok (.istore_n 1, 1) := by decide +kernel
theorem dX7_lives_2 : decode cX7_lives 2 = .ok (.iload_n 1, 1) := by decide +kernel
theorem dX7_lives_3 : decode cX7_lives 3 = .ok (.bipush 11, 2) := by decide +kernel
theorem dX7_lives_5 : decode cX7_lives 5 = .ok (.if_icmp .ge 30, 3) := by decide +kernel
theorem dX7_lives_8 : decode cX7_lives 8 = .ok (.aload_n 0, 1) := by decide +kernel
theorem dX7_lives_9 : decode cX7_lives 9 = .ok (.getfield 49, 3) := by decide +kernel
theorem dX7_lives_12 : decode cX7_lives 12 = .ok (.iload_n 1, 1) := by decide +kernel
theorem dX7_lives_13 : decode cX7_lives 13 = .ok (.iconst 0, 1) := by decide +kernel
theorem dX7_lives_14 : decode cX7_lives 14 = .ok (.iastore, 1) := by decide +kernel
theorem dX7_lives_15 : decode cX7_lives 15 = .ok (.aload_n 0, 1) := by decide +kernel
theorem dX7_lives_16 : decode cX7_lives 16 = .ok (.getfield 52, 3) := by decide +kernel
theorem dX7_lives_19 : decode cX7_lives 19 = .ok (.iload_n 1, 1) := by decide +kernel
theorem dX7_lives_20 : decode cX7_lives 20 = .ok (.iconst 0, 1) := by decide +kernel
theorem dX7_lives_21 : decode cX7_lives 21 = .ok (.iastore, 1) := by decide +kernel
theorem dX7_lives_22 : decode cX7_lives 22 = .ok (.aload_n 0, 1) := by decide +kernel
theorem dX7_lives_23 : decode cX7_lives 23 = .ok (.getfield 55, 3) := by decide +kernel
theorem dX7_lives_26 : decode cX7_lives 26 = .ok (.iload_n 1, 1) := by decide +kernel
theorem dX7_lives_27 : decode cX7_lives 27 = .ok (.iconst 0, 1) := by decide +kernel
theorem dX7_lives_28 : decode cX7_lives 28 = .ok (.iastore, 1) := by decide +kernel
theorem dX7_lives_29 : decode cX7_lives 29 = .ok (.iinc 1 1, 3) := by decide +kernel
theorem dX7_lives_32 : decode cX7_lives 32 = .ok (.goto (-30), 3) := by decide +kernel
theorem dX7_lives_35 : decode cX7_lives 35 = .ok (.aload_n 0, 1) := by decide +kernel
theorem dX7_lives_36 : decode cX7_lives 36 = .ok (.iconst 0, 1) := by decide +kernel
theorem dX7_lives_37 : decode cX7_lives 37 = .ok (.putfield 167, 3) := by decide +kernel
theorem dX7_lives_40 : decode cX7_lives 40 = .ok (.aload_n 0, 1) := by decide +kernel
theorem dX7_lives_41 : decode cX7_lives 41 = .ok (.aload_n 0, 1) := by decide +kernel
theorem dX7_lives_42 : decode cX7_lives 42 = .ok (.getfield 67, 3) := by decide +kernel
theorem dX7_lives_45 : decode cX7_lives 45 = .ok (.putfield 173, 3) := by decide +kernel
theorem dX7_lives_48 : decode cX7_lives 48 = .ok (.aload_n 0, 1) := by decide +kernel
theorem dX7_lives_49 : decode cX7_lives 49 = .ok (.iconst 0, 1) := by decide +kernel
theorem dX7_lives_50 : decode cX7_lives 50 = .ok (.putfield 182, 3) := by decide +kernel
theorem dX7_lives_53 : decode cX7_lives 53 = .ok (.aload_n 0, 1) := by decide +kernel
theorem dX7_lives_54 : decode cX7_lives 54 = .ok (.iconst 0, 1) := by decide +kernel
theorem dX7_lives_55 : decode cX7_lives 55 = .ok (.putfield 192, 3) := by decide +kernel
theorem dX7_lives_58 : decode cX7_lives 58 = .ok (.iconst 0, 1) := by decide +kernel
theorem dX7_lives_59 : decode cX7_lives 59 = .ok (.istore_n 1, 1) := by decide +kernel
theorem dX7_lives_60 : decode cX7_lives 60 = .ok (.iload_n 1, 1) := by decide +kernel
theorem dX7_lives_61 : decode cX7_lives 61 = .ok (.bipush 24, 2) := by decide +kernel
theorem dX7_lives_63 : decode cX7_lives 63 = .ok (.if_icmp .ge 14, 3) := by decide +kernel
theorem dX7_lives_66 : decode cX7_lives 66 = .ok (.aload_n 0, 1) := by decide +kernel
theorem dX7_lives_67 : decode cX7_lives 67 = .ok (.iload_n 1, 1) := by decide +kernel
theorem dX7_lives_68 : decode cX7_lives 68 = .ok (.invokevirtual 195, 3) := by decide +kernel
theorem dX7_lives_71 : decode cX7_lives 71 = .ok (.iinc 1 1, 3) := by decide +kernel
theorem dX7_lives_74 : decode cX7_lives 74 = .ok (.goto (-14), 3) := by decide +kernel
theorem dX7_lives_77 : decode cX7_lives 77 = .ok (.return_, 1) := by decide +kernel
theorem dX7_seats_0 : decode cX7_seats 0 = .ok (.iconst 0, 1) := by decide +kernel
theorem dX7_seats_1 : decode cX7_seats 1 = .ok (.istore_n 1, 1) := by decide +kernel
theorem dX7_seats_2 : decode cX7_seats 2 = .ok (.iload_n 1, 1) := by decide +kernel
theorem dX7_seats_3 : decode cX7_seats 3 = .ok (.bipush 11, 2) := by decide +kernel
theorem dX7_seats_5 : decode cX7_seats 5 = .ok (.if_icmp .ge 16, 3) := by decide +kernel
theorem dX7_seats_8 : decode cX7_seats 8 = .ok (.aload_n 0, 1) := by decide +kernel
theorem dX7_seats_9 : decode cX7_seats 9 = .ok (.getfield 58, 3) := by decide +kernel
theorem dX7_seats_12 : decode cX7_seats 12 = .ok (.iload_n 1, 1) := by decide +kernel
theorem dX7_seats_13 : decode cX7_seats 13 = .ok (.iload_n 1, 1) := by decide +kernel
theorem dX7_seats_14 : decode cX7_seats 14 = .ok (.iastore, 1) := by decide +kernel
theorem dX7_seats_15 : decode cX7_seats 15 = .ok (.iinc 1 1, 3) := by decide +kernel
theorem dX7_seats_18 : decode cX7_seats 18 = .ok (.goto (-16), 3) := by decide +kernel
theorem dX7_seats_21 : decode cX7_seats 21 = .ok (.return_, 1) := by decide +kernel
theorem dX7_find_0 : decode cX7_find 0 = .ok (.aload_n 0, 1) := by decide +kernel
theorem dX7_find_1 : decode cX7_find 1 = .ok (.invokevirtual 130, 3) := by decide +kernel
theorem dX7_find_4 : decode cX7_find 4 = .ok (.pop, 1) := by decide +kernel
theorem dX7_find_5 : decode cX7_find 5 = .ok (.aload_n 0, 1) := by decide +kernel
theorem dX7_find_6 : decode cX7_find 6 = .ok (.invokevirtual 134, 3) := by decide +kernel
theorem dX7_find_9 : decode cX7_find 9 = .ok (.pop, 1) := by decide +kernel
theorem dX7_find_10 : decode cX7_find 10 = .ok (.aload_n 0, 1) := by decide +kernel
theorem dX7_find_11 : decode cX7_find 11 = .ok (.invokevirtual 198, 3) := by decide +kernel
theorem dX7_find_14 : decode cX7_find 14 = .ok (.aload_n 0, 1) := by decide +kernel
theorem dX7_find_15 : decode cX7_find 15 = .ok (.invokevirtual 201, 3) := by decide +kernel
theorem dX7_find_18 : decode cX7_find 18 = .ok (.return_, 1) := by decide +kernel
theorem dX7_atBy_0 : decode cX7_atBy 0 = .ok (.iload_n 2, 1) := by decide +kernel
theorem dX7_atBy_1 : decode cX7_atBy 1 = .ok (.ifCond .ne 12, 3) := by decide +kernel
theorem dX7_atBy_4 : decode cX7_atBy 4 = .ok (.aload_n 0, 1) := by decide +kernel
theorem dX7_atBy_5 : decode cX7_atBy 5 = .ok (.getfield 37, 3) := by decide +kernel
theorem dX7_atBy_8 : decode cX7_atBy 8 = .ok (.iload_n 1, 1) := by decide +kernel
theorem dX7_atBy_9 : decode cX7_atBy 9 = .ok (.iaload, 1) := by decide +kernel
theorem dX7_atBy_10 : decode cX7_atBy 10 = .ok (.goto 23, 3) := by decide +kernel
theorem dX7_atBy_13 : decode cX7_atBy 13 = .ok (.iload_n 2, 1) := by decide +kernel
theorem dX7_atBy_14 : decode cX7_atBy 14 = .ok (.iconst 1, 1) := by decide +kernel
theorem dX7_atBy_15 : decode cX7_atBy 15 = .ok (.if_icmp .ne 12, 3) := by decide +kernel
theorem dX7_atBy_18 : decode cX7_atBy 18 = .ok (.aload_n 0, 1) := by decide +kernel
theorem dX7_atBy_19 : decode cX7_atBy 19 = .ok (.getfield 40, 3) := by decide +kernel
theorem dX7_atBy_22 : decode cX7_atBy 22 = .ok (.iload_n 1, 1) := by decide +kernel
theorem dX7_atBy_23 : decode cX7_atBy 23 = .ok (.iaload, 1) := by decide +kernel
theorem dX7_atBy_24 : decode cX7_atBy 24 = .ok (.goto 9, 3) := by decide +kernel
theorem dX7_atBy_27 : decode cX7_atBy 27 = .ok (.aload_n 0, 1) := by decide +kernel
theorem dX7_atBy_28 : decode cX7_atBy 28 = .ok (.getfield 43, 3) := by decide +kernel
theorem dX7_atBy_31 : decode cX7_atBy 31 = .ok (.iload_n 1, 1) := by decide +kernel
theorem dX7_atBy_32 : decode cX7_atBy 32 = .ok (.iaload, 1) := by decide +kernel
theorem dX7_atBy_33 : decode cX7_atBy 33 = .ok (.ireturn, 1) := by decide +kernel
theorem dX7_at_0 : decode cX7_at 0 = .ok (.aload_n 0, 1) := by decide +kernel
theorem dX7_at_1 : decode cX7_at 1 = .ok (.invokevirtual 204, 3) := by decide +kernel
theorem dX7_at_4 : decode cX7_at 4 = .ok (.iload_n 1, 1) := by decide +kernel
theorem dX7_at_5 : decode cX7_at 5 = .ok (.invokestatic 152, 3) := by decide +kernel
theorem dX7_at_8 : decode cX7_at 8 = .ok (.ifCond .eq 24, 3) := by decide +kernel
theorem dX7_at_11 : decode cX7_at 11 = .ok (.iload_n 2, 1) := by decide +kernel
theorem dX7_at_12 : decode cX7_at 12 = .ok (.i2l, 1) := by decide +kernel
theorem dX7_at_13 : decode cX7_at 13 = .ok (.lconst 0, 1) := by decide +kernel
theorem dX7_at_14 : decode cX7_at 14 = .ok (.ldc2_w 89, 3) := by decide +kernel
theorem dX7_at_17 : decode cX7_at 17 = .ok (.invokestatic 76, 3) := by decide +kernel
theorem dX7_at_20 : decode cX7_at 20 = .ok (.ifCond .eq 12, 3) := by decide +kernel
theorem dX7_at_23 : decode cX7_at 23 = .ok (.aload_n 0, 1) := by decide +kernel
theorem dX7_at_24 : decode cX7_at 24 = .ok (.iload_n 1, 1) := by decide +kernel
theorem dX7_at_25 : decode cX7_at 25 = .ok (.iload_n 2, 1) := by decide +kernel
theorem dX7_at_26 : decode cX7_at 26 = .ok (.invokevirtual 207, 3) := by decide +kernel
theorem dX7_at_29 : decode cX7_at 29 = .ok (.goto 5, 3) := by decide +kernel
theorem dX7_at_32 : decode cX7_at 32 = .ok (.bipush (-2), 2) := by decide +kernel
theorem dX7_at_34 : decode cX7_at 34 = .ok (.ireturn, 1) := by decide +kernel
theorem dX7_heard_0 : decode cX7_heard 0 = .ok (.aload_n 0, 1) := by decide +kernel
theorem dX7_heard_1 : decode cX7_heard 1 = .ok (.invokevirtual 204, 3) := by decide +kernel
theorem dX7_heard_4 : decode cX7_heard 4 = .ok (.aload_n 0, 1) := by decide +kernel
theorem dX7_heard_5 : decode cX7_heard 5 = .ok (.iload_n 1, 1) := by decide +kernel
theorem dX7_heard_6 : decode cX7_heard 6 = .ok (.invokevirtual 210, 3) := by decide +kernel
theorem dX7_heard_9 : decode cX7_heard 9 = .ok (.ifCond .eq 12, 3) := by decide +kernel
theorem dX7_heard_12 : decode cX7_heard 12 = .ok (.aload_n 0, 1) := by decide +kernel
theorem dX7_heard_13 : decode cX7_heard 13 = .ok (.getfield 46, 3) := by decide +kernel
theorem dX7_heard_16 : decode cX7_heard 16 = .ok (.iload_n 1, 1) := by decide +kernel
theorem dX7_heard_17 : decode cX7_heard 17 = .ok (.iaload, 1) := by decide +kernel
theorem dX7_heard_18 : decode cX7_heard 18 = .ok (.goto 5, 3) := by decide +kernel
theorem dX7_heard_21 : decode cX7_heard 21 = .ok (.bipush (-2), 2) := by decide +kernel
theorem dX7_heard_23 : decode cX7_heard 23 = .ok (.ireturn, 1) := by decide +kernel
theorem dX7_takesBy_0 : decode cX7_takesBy 0 = .ok (.iload_n 2, 1) := by decide +kernel
theorem dX7_takesBy_1 : decode cX7_takesBy 1 = .ok (.ifCond .ne 12, 3) := by decide +kernel
theorem dX7_takesBy_4 : decode cX7_takesBy 4 = .ok (.aload_n 0, 1) := by decide +kernel
theorem dX7_takesBy_5 : decode cX7_takesBy 5 = .ok (.getfield 49, 3) := by decide +kernel
theorem dX7_takesBy_8 : decode cX7_takesBy 8 = .ok (.iload_n 1, 1) := by decide +kernel
theorem dX7_takesBy_9 : decode cX7_takesBy 9 = .ok (.iaload, 1) := by decide +kernel
theorem dX7_takesBy_10 : decode cX7_takesBy 10 = .ok (.goto 23, 3) := by decide +kernel
theorem dX7_takesBy_13 : decode cX7_takesBy 13 = .ok (.iload_n 2, 1) := by decide +kernel
theorem dX7_takesBy_14 : decode cX7_takesBy 14 = .ok (.iconst 1, 1) := by decide +kernel
theorem dX7_takesBy_15 : decode cX7_takesBy 15 = .ok (.if_icmp .ne 12, 3) := by decide +kernel
theorem dX7_takesBy_18 : decode cX7_takesBy 18 = .ok (.aload_n 0, 1) := by decide +kernel
theorem dX7_takesBy_19 : decode cX7_takesBy 19 = .ok (.getfield 52, 3) := by decide +kernel
theorem dX7_takesBy_22 : decode cX7_takesBy 22 = .ok (.iload_n 1, 1) := by decide +kernel
theorem dX7_takesBy_23 : decode cX7_takesBy 23 = .ok (.iaload, 1) := by decide +kernel
theorem dX7_takesBy_24 : decode cX7_takesBy 24 = .ok (.goto 9, 3) := by decide +kernel
theorem dX7_takesBy_27 : decode cX7_takesBy 27 = .ok (.aload_n 0, 1) := by decide +kernel
theorem dX7_takesBy_28 : decode cX7_takesBy 28 = .ok (.getfield 55, 3) := by decide +kernel
theorem dX7_takesBy_31 : decode cX7_takesBy 31 = .ok (.iload_n 1, 1) := by decide +kernel
theorem dX7_takesBy_32 : decode cX7_takesBy 32 = .ok (.iaload, 1) := by decide +kernel
theorem dX7_takesBy_33 : decode cX7_takesBy 33 = .ok (.ireturn, 1) := by decide +kernel
theorem dX7_takes_0 : decode cX7_takes 0 = .ok (.aload_n 0, 1) := by decide +kernel
theorem dX7_takes_1 : decode cX7_takes 1 = .ok (.invokevirtual 204, 3) := by decide +kernel
theorem dX7_takes_4 : decode cX7_takes 4 = .ok (.aload_n 0, 1) := by decide +kernel
theorem dX7_takes_5 : decode cX7_takes 5 = .ok (.iload_n 1, 1) := by decide +kernel
theorem dX7_takes_6 : decode cX7_takes 6 = .ok (.invokevirtual 142, 3) := by decide +kernel
theorem dX7_takes_9 : decode cX7_takes 9 = .ok (.ifCond .eq 24, 3) := by decide +kernel
theorem dX7_takes_12 : decode cX7_takes 12 = .ok (.iload_n 2, 1) := by decide +kernel
theorem dX7_takes_13 : decode cX7_takes 13 = .ok (.i2l, 1) := by decide +kernel
theorem dX7_takes_14 : decode cX7_takes 14 = .ok (.lconst 0, 1) := by decide +kernel
theorem dX7_takes_15 : decode cX7_takes 15 = .ok (.ldc2_w 89, 3) := by decide +kernel
theorem dX7_takes_18 : decode cX7_takes 18 = .ok (.invokestatic 76, 3) := by decide +kernel
theorem dX7_takes_21 : decode cX7_takes 21 = .ok (.ifCond .eq 12, 3) := by decide +kernel
theorem dX7_takes_24 : decode cX7_takes 24 = .ok (.aload_n 0, 1) := by decide +kernel
theorem dX7_takes_25 : decode cX7_takes 25 = .ok (.iload_n 1, 1) := by decide +kernel
theorem dX7_takes_26 : decode cX7_takes 26 = .ok (.iload_n 2, 1) := by decide +kernel
theorem dX7_takes_27 : decode cX7_takes 27 = .ok (.invokevirtual 213, 3) := by decide +kernel
theorem dX7_takes_30 : decode cX7_takes 30 = .ok (.goto 5, 3) := by decide +kernel
theorem dX7_takes_33 : decode cX7_takes 33 = .ok (.bipush (-2), 2) := by decide +kernel
theorem dX7_takes_35 : decode cX7_takes 35 = .ok (.ireturn, 1) := by decide +kernel
theorem dX7_soundNow_0 : decode cX7_soundNow 0 = .ok (.iconst 0, 1) := by decide +kernel
theorem dX7_soundNow_1 : decode cX7_soundNow 1 = .ok (.istore_n 1, 1) := by decide +kernel
theorem dX7_soundNow_2 : decode cX7_soundNow 2 = .ok (.iconst 0, 1) := by decide +kernel
theorem dX7_soundNow_3 : decode cX7_soundNow 3 = .ok (.istore_n 2, 1) := by decide +kernel
theorem dX7_soundNow_4 : decode cX7_soundNow 4 = .ok (.iload_n 2, 1) := by decide +kernel
theorem dX7_soundNow_5 : decode cX7_soundNow 5 = .ok (.aload_n 0, 1) := by decide +kernel
theorem dX7_soundNow_6 : decode cX7_soundNow 6 = .ok (.getfield 124, 3) := by decide +kernel
theorem dX7_soundNow_9 : decode cX7_soundNow 9 = .ok (.if_icmp .ge 26, 3) := by decide +kernel
theorem dX7_soundNow_12 : decode cX7_soundNow 12 = .ok (.iload_n 1, 1) := by decide +kernel
theorem dX7_soundNow_13 : decode cX7_soundNow 13 = .ok (.aload_n 0, 1) := by decide +kernel
theorem dX7_soundNow_14 : decode cX7_soundNow 14 = .ok (.getfield 46, 3) := by decide +kernel
theorem dX7_soundNow_17 : decode cX7_soundNow 17 = .ok (.iload_n 2, 1) := by decide +kernel
theorem dX7_soundNow_18 : decode cX7_soundNow 18 = .ok (.iaload, 1) := by decide +kernel
theorem dX7_soundNow_19 : decode cX7_soundNow 19 = .ok (.ifCond .le 7, 3) := by decide +kernel
theorem dX7_soundNow_22 : decode cX7_soundNow 22 = .ok (.iconst 1, 1) := by decide +kernel
theorem dX7_soundNow_23 : decode cX7_soundNow 23 = .ok (.goto 4, 3) := by decide +kernel
theorem dX7_soundNow_26 : decode cX7_soundNow 26 = .ok (.iconst 0, 1) := by decide +kernel
theorem dX7_soundNow_27 : decode cX7_soundNow 27 = .ok (.iadd, 1) := by decide +kernel
theorem dX7_soundNow_28 : decode cX7_soundNow 28 = .ok (.istore_n 1, 1) := by decide +kernel
theorem dX7_soundNow_29 : decode cX7_soundNow 29 = .ok (.iinc 2 1, 3) := by decide +kernel
theorem dX7_soundNow_32 : decode cX7_soundNow 32 = .ok (.goto (-28), 3) := by decide +kernel
theorem dX7_soundNow_35 : decode cX7_soundNow 35 = .ok (.iload_n 1, 1) := by decide +kernel
theorem dX7_soundNow_36 : decode cX7_soundNow 36 = .ok (.ireturn, 1) := by decide +kernel
theorem dX7_sumBy_0 : decode cX7_sumBy 0 = .ok (.iload_n 1, 1) := by decide +kernel
theorem dX7_sumBy_1 : decode cX7_sumBy 1 = .ok (.ifCond .ne 10, 3) := by decide +kernel
theorem dX7_sumBy_4 : decode cX7_sumBy 4 = .ok (.aload_n 0, 1) := by decide +kernel
theorem dX7_sumBy_5 : decode cX7_sumBy 5 = .ok (.invokevirtual 216, 3) := by decide +kernel
theorem dX7_sumBy_8 : decode cX7_sumBy 8 = .ok (.goto 19, 3) := by decide +kernel
theorem dX7_sumBy_11 : decode cX7_sumBy 11 = .ok (.iload_n 1, 1) := by decide +kernel
theorem dX7_sumBy_12 : decode cX7_sumBy 12 = .ok (.iconst 1, 1) := by decide +kernel
theorem dX7_sumBy_13 : decode cX7_sumBy 13 = .ok (.if_icmp .ne 10, 3) := by decide +kernel
theorem dX7_sumBy_16 : decode cX7_sumBy 16 = .ok (.aload_n 0, 1) := by decide +kernel
theorem dX7_sumBy_17 : decode cX7_sumBy 17 = .ok (.getfield 192, 3) := by decide +kernel
theorem dX7_sumBy_20 : decode cX7_sumBy 20 = .ok (.goto 7, 3) := by decide +kernel
theorem dX7_sumBy_23 : decode cX7_sumBy 23 = .ok (.aload_n 0, 1) := by decide +kernel
theorem dX7_sumBy_24 : decode cX7_sumBy 24 = .ok (.getfield 182, 3) := by decide +kernel
theorem dX7_sumBy_27 : decode cX7_sumBy 27 = .ok (.ireturn, 1) := by decide +kernel
theorem dX7_sum_0 : decode cX7_sum 0 = .ok (.aload_n 0, 1) := by decide +kernel
theorem dX7_sum_1 : decode cX7_sum 1 = .ok (.invokevirtual 204, 3) := by decide +kernel
theorem dX7_sum_4 : decode cX7_sum 4 = .ok (.iload_n 1, 1) := by decide +kernel
theorem dX7_sum_5 : decode cX7_sum 5 = .ok (.i2l, 1) := by decide +kernel
theorem dX7_sum_6 : decode cX7_sum 6 = .ok (.lconst 0, 1) := by decide +kernel
theorem dX7_sum_7 : decode cX7_sum 7 = .ok (.ldc2_w 89, 3) := by decide +kernel
theorem dX7_sum_10 : decode cX7_sum 10 = .ok (.invokestatic 76, 3) := by decide +kernel
theorem dX7_sum_13 : decode cX7_sum 13 = .ok (.ifCond .eq 11, 3) := by decide +kernel
theorem dX7_sum_16 : decode cX7_sum 16 = .ok (.aload_n 0, 1) := by decide +kernel
theorem dX7_sum_17 : decode cX7_sum 17 = .ok (.iload_n 1, 1) := by decide +kernel
theorem dX7_sum_18 : decode cX7_sum 18 = .ok (.invokevirtual 219, 3) := by decide +kernel
theorem dX7_sum_21 : decode cX7_sum 21 = .ok (.goto 5, 3) := by decide +kernel
theorem dX7_sum_24 : decode cX7_sum 24 = .ok (.bipush (-2), 2) := by decide +kernel
theorem dX7_sum_26 : decode cX7_sum 26 = .ok (.ireturn, 1) := by decide +kernel
theorem dX7_flatNow_0 : decode cX7_flatNow 0 = .ok (.iconst (-1), 1) := by decide +kernel
theorem dX7_flatNow_1 : decode cX7_flatNow 1 = .ok (.istore_n 1, 1) := by decide +kernel
theorem dX7_flatNow_2 : decode cX7_flatNow 2 = .ok (.bipush 23, 2) := by decide +kernel
theorem dX7_flatNow_4 : decode cX7_flatNow 4 = .ok (.istore_n 2, 1) := by decide +kernel
theorem dX7_flatNow_5 : decode cX7_flatNow 5 = .ok (.iload_n 2, 1) := by decide +kernel
theorem dX7_flatNow_6 : decode cX7_flatNow 6 = .ok (.ifCond .lt 24, 3) := by decide +kernel
theorem dX7_flatNow_9 : decode cX7_flatNow 9 = .ok (.aload_n 0, 1) := by decide +kernel
theorem dX7_flatNow_10 : decode cX7_flatNow 10 = .ok (.getfield 40, 3) := by decide +kernel
theorem dX7_flatNow_13 : decode cX7_flatNow 13 = .ok (.iload_n 2, 1) := by decide +kernel
theorem dX7_flatNow_14 : decode cX7_flatNow 14 = .ok (.iaload, 1) := by decide +kernel
theorem dX7_flatNow_15 : decode cX7_flatNow 15 = .ok (.ifCond .ne 7, 3) := by decide +kernel
theorem dX7_flatNow_18 : decode cX7_flatNow 18 = .ok (.iload_n 2, 1) := by decide +kernel
theorem dX7_flatNow_19 : decode cX7_flatNow 19 = .ok (.goto 4, 3) := by decide +kernel
theorem dX7_flatNow_22 : decode cX7_flatNow 22 = .ok (.iload_n 1, 1) := by decide +kernel
theorem dX7_flatNow_23 : decode cX7_flatNow 23 = .ok (.istore_n 1, 1) := by decide +kernel
theorem dX7_flatNow_24 : decode cX7_flatNow 24 = .ok (.iinc 2 (-1), 3) := by decide +kernel
theorem dX7_flatNow_27 : decode cX7_flatNow 27 = .ok (.goto (-22), 3) := by decide +kernel
theorem dX7_flatNow_30 : decode cX7_flatNow 30 = .ok (.iload_n 1, 1) := by decide +kernel
theorem dX7_flatNow_31 : decode cX7_flatNow 31 = .ok (.ireturn, 1) := by decide +kernel
theorem dX7_flat_0 : decode cX7_flat 0 = .ok (.aload_n 0, 1) := by decide +kernel
theorem dX7_flat_1 : decode cX7_flat 1 = .ok (.invokevirtual 204, 3) := by decide +kernel
theorem dX7_flat_4 : decode cX7_flat 4 = .ok (.aload_n 0, 1) := by decide +kernel
theorem dX7_flat_5 : decode cX7_flat 5 = .ok (.invokevirtual 222, 3) := by decide +kernel
theorem dX7_flat_8 : decode cX7_flat 8 = .ok (.ireturn, 1) := by decide +kernel
theorem dX7_silentNow_0 : decode cX7_silentNow 0 = .ok (.iconst 0, 1) := by decide +kernel
theorem dX7_silentNow_1 : decode cX7_silentNow 1 = .ok (.istore_n 1, 1) := by decide +kernel
theorem dX7_silentNow_2 : decode cX7_silentNow 2 = .ok (.iconst 0, 1) := by decide +kernel
theorem dX7_silentNow_3 : decode cX7_silentNow 3 = .ok (.istore_n 2, 1) := by decide +kernel
theorem dX7_silentNow_4 : decode cX7_silentNow 4 = .ok (.iload_n 2, 1) := by decide +kernel
theorem dX7_silentNow_5 : decode cX7_silentNow 5 = .ok (.aload_n 0, 1) := by decide +kernel
theorem dX7_silentNow_6 : decode cX7_silentNow 6 = .ok (.getfield 113, 3) := by decide +kernel
theorem dX7_silentNow_9 : decode cX7_silentNow 9 = .ok (.if_icmp .ge 28, 3) := by decide +kernel
theorem dX7_silentNow_12 : decode cX7_silentNow 12 = .ok (.iload_n 1, 1) := by decide +kernel
theorem dX7_silentNow_13 : decode cX7_silentNow 13 = .ok (.aload_n 0, 1) := by decide +kernel
theorem dX7_silentNow_14 : decode cX7_silentNow 14 = .ok (.getfield 49, 3) := by decide +kernel
theorem dX7_silentNow_17 : decode cX7_silentNow 17 = .ok (.iload_n 2, 1) := by decide +kernel
theorem dX7_silentNow_18 : decode cX7_silentNow 18 = .ok (.iaload, 1) := by decide +kernel
theorem dX7_silentNow_19 : decode cX7_silentNow 19 = .ok (.ifCond .ne 9, 3) := by decide +kernel
theorem dX7_silentNow_22 : decode cX7_silentNow 22 = .ok (.iconst 1, 1) := by decide +kernel
theorem dX7_silentNow_23 : decode cX7_silentNow 23 = .ok (.iload_n 2, 1) := by decide +kernel
theorem dX7_silentNow_24 : decode cX7_silentNow 24 = .ok (.ishl, 1) := by decide +kernel
theorem dX7_silentNow_25 : decode cX7_silentNow 25 = .ok (.goto 4, 3) := by decide +kernel
theorem dX7_silentNow_28 : decode cX7_silentNow 28 = .ok (.iconst 0, 1) := by decide +kernel
theorem dX7_silentNow_29 : decode cX7_silentNow 29 = .ok (.ior, 1) := by decide +kernel
theorem dX7_silentNow_30 : decode cX7_silentNow 30 = .ok (.istore_n 1, 1) := by decide +kernel
theorem dX7_silentNow_31 : decode cX7_silentNow 31 = .ok (.iinc 2 1, 3) := by decide +kernel
theorem dX7_silentNow_34 : decode cX7_silentNow 34 = .ok (.goto (-30), 3) := by decide +kernel
theorem dX7_silentNow_37 : decode cX7_silentNow 37 = .ok (.iload_n 1, 1) := by decide +kernel
theorem dX7_silentNow_38 : decode cX7_silentNow 38 = .ok (.ireturn, 1) := by decide +kernel
theorem dX7_silent_0 : decode cX7_silent 0 = .ok (.aload_n 0, 1) := by decide +kernel
theorem dX7_silent_1 : decode cX7_silent 1 = .ok (.invokevirtual 204, 3) := by decide +kernel
theorem dX7_silent_4 : decode cX7_silent 4 = .ok (.aload_n 0, 1) := by decide +kernel
theorem dX7_silent_5 : decode cX7_silent 5 = .ok (.invokevirtual 225, 3) := by decide +kernel
theorem dX7_silent_8 : decode cX7_silent 8 = .ok (.ireturn, 1) := by decide +kernel
theorem dX7_greedyNow_0 : decode cX7_greedyNow 0 = .ok (.iconst (-1), 1) := by decide +kernel
theorem dX7_greedyNow_1 : decode cX7_greedyNow 1 = .ok (.istore_n 1, 1) := by decide +kernel
theorem dX7_greedyNow_2 : decode cX7_greedyNow 2 = .ok (.iconst 0, 1) := by decide +kernel
theorem dX7_greedyNow_3 : decode cX7_greedyNow 3 = .ok (.istore_n 2, 1) := by decide +kernel
theorem dX7_greedyNow_4 : decode cX7_greedyNow 4 = .ok (.iconst 0, 1) := by decide +kernel
theorem dX7_greedyNow_5 : decode cX7_greedyNow 5 = .ok (.istore_n 3, 1) := by decide +kernel
theorem dX7_greedyNow_6 : decode cX7_greedyNow 6 = .ok (.iload_n 3, 1) := by decide +kernel
theorem dX7_greedyNow_7 : decode cX7_greedyNow 7 = .ok (.aload_n 0, 1) := by decide +kernel
theorem dX7_greedyNow_8 : decode cX7_greedyNow 8 = .ok (.getfield 113, 3) := by decide +kernel
theorem dX7_greedyNow_11 : decode cX7_greedyNow 11 = .ok (.if_icmp .ge 36, 3) := by decide +kernel
theorem dX7_greedyNow_14 : decode cX7_greedyNow 14 = .ok (.aload_n 0, 1) := by decide +kernel
theorem dX7_greedyNow_15 : decode cX7_greedyNow 15 = .ok (.getfield 52, 3) := by decide +kernel
theorem dX7_greedyNow_18 : decode cX7_greedyNow 18 = .ok (.iload_n 3, 1) := by decide +kernel
theorem dX7_greedyNow_19 : decode cX7_greedyNow 19 = .ok (.iaload, 1) := by decide +kernel
theorem dX7_greedyNow_20 : decode cX7_greedyNow 20 = .ok (.iload_n 2, 1) := by decide +kernel
theorem dX7_greedyNow_21 : decode cX7_greedyNow 21 = .ok (.if_icmp .le 7, 3) := by decide +kernel
theorem dX7_greedyNow_24 : decode cX7_greedyNow 24 = .ok (.iload_n 3, 1) := by decide +kernel
theorem dX7_greedyNow_25 : decode cX7_greedyNow 25 = .ok (.goto 4, 3) := by decide +kernel
theorem dX7_greedyNow_28 : decode cX7_greedyNow 28 = .ok (.iload_n 1, 1) := by decide +kernel
theorem dX7_greedyNow_29 : decode cX7_greedyNow 29 = .ok (.istore_n 1, 1) := by decide +kernel
theorem dX7_greedyNow_30 : decode cX7_greedyNow 30 = .ok (.aload_n 0, 1) := by decide +kernel
theorem dX7_greedyNow_31 : decode cX7_greedyNow 31 = .ok (.getfield 52, 3) := by decide +kernel
theorem dX7_greedyNow_34 : decode cX7_greedyNow 34 = .ok (.iload_n 3, 1) := by decide +kernel
theorem dX7_greedyNow_35 : decode cX7_greedyNow 35 = .ok (.iaload, 1) := by decide +kernel
theorem dX7_greedyNow_36 : decode cX7_greedyNow 36 = .ok (.iload_n 2, 1) := by decide +kernel
theorem dX7_greedyNow_37 : decode cX7_greedyNow 37 = .ok (.invokestatic 228, 3) := by decide +kernel
theorem dX7_greedyNow_40 : decode cX7_greedyNow 40 = .ok (.istore_n 2, 1) := by decide +kernel
theorem dX7_greedyNow_41 : decode cX7_greedyNow 41 = .ok (.iinc 3 1, 3) := by decide +kernel
theorem dX7_greedyNow_44 : decode cX7_greedyNow 44 = .ok (.goto (-38), 3) := by decide +kernel
theorem dX7_greedyNow_47 : decode cX7_greedyNow 47 = .ok (.iload_n 1, 1) := by decide +kernel
theorem dX7_greedyNow_48 : decode cX7_greedyNow 48 = .ok (.ireturn, 1) := by decide +kernel
theorem dX7_greedy_0 : decode cX7_greedy 0 = .ok (.aload_n 0, 1) := by decide +kernel
theorem dX7_greedy_1 : decode cX7_greedy 1 = .ok (.invokevirtual 204, 3) := by decide +kernel
theorem dX7_greedy_4 : decode cX7_greedy 4 = .ok (.aload_n 0, 1) := by decide +kernel
theorem dX7_greedy_5 : decode cX7_greedy 5 = .ok (.invokevirtual 231, 3) := by decide +kernel
theorem dX7_greedy_8 : decode cX7_greedy 8 = .ok (.ireturn, 1) := by decide +kernel
theorem dX7_fillBy_0 : decode cX7_fillBy 0 = .ok (.aload_n 0, 1) := by decide +kernel
theorem dX7_fillBy_1 : decode cX7_fillBy 1 = .ok (.getfield 67, 3) := by decide +kernel
theorem dX7_fillBy_4 : decode cX7_fillBy 4 = .ok (.istore_n 2, 1) := by decide +kernel
theorem dX7_fillBy_5 : decode cX7_fillBy 5 = .ok (.iconst (-1), 1) := by decide +kernel
theorem dX7_fillBy_6 : decode cX7_fillBy 6 = .ok (.istore_n 3, 1) := by decide +kernel
theorem dX7_fillBy_7 : decode cX7_fillBy 7 = .ok (.iconst (-1), 1) := by decide +kernel
theorem dX7_fillBy_8 : decode cX7_fillBy 8 = .ok (.istore 4, 2) := by decide +kernel
theorem dX7_fillBy_10 : decode cX7_fillBy 10 = .ok (.iconst 1, 1) := by decide +kernel
theorem dX7_fillBy_11 : decode cX7_fillBy 11 = .ok (.istore 5, 2) := by decide +kernel
theorem dX7_fillBy_13 : decode cX7_fillBy 13 = .ok (.iload 5, 2) := by decide +kernel
theorem dX7_fillBy_15 : decode cX7_fillBy 15 = .ok (.bipush 100, 2) := by decide +kernel
theorem dX7_fillBy_17 : decode cX7_fillBy 17 = .ok (.if_icmp .ge 48, 3) := by decide +kernel
theorem dX7_fillBy_20 : decode cX7_fillBy 20 = .ok (.aload_n 0, 1) := by decide +kernel
theorem dX7_fillBy_21 : decode cX7_fillBy 21 = .ok (.iload 5, 2) := by decide +kernel
theorem dX7_fillBy_23 : decode cX7_fillBy 23 = .ok (.putfield 67, 3) := by decide +kernel
theorem dX7_fillBy_26 : decode cX7_fillBy 26 = .ok (.aload_n 0, 1) := by decide +kernel
theorem dX7_fillBy_27 : decode cX7_fillBy 27 = .ok (.invokevirtual 201, 3) := by decide +kernel
theorem dX7_fillBy_30 : decode cX7_fillBy 30 = .ok (.aload_n 0, 1) := by decide +kernel
theorem dX7_fillBy_31 : decode cX7_fillBy 31 = .ok (.invokevirtual 216, 3) := by decide +kernel
theorem dX7_fillBy_34 : decode cX7_fillBy 34 = .ok (.istore 6, 2) := by decide +kernel
theorem dX7_fillBy_36 : decode cX7_fillBy 36 = .ok (.iload 6, 2) := by decide +kernel
theorem dX7_fillBy_38 : decode cX7_fillBy 38 = .ok (.iload 4, 2) := by decide +kernel
theorem dX7_fillBy_40 : decode cX7_fillBy 40 = .ok (.if_icmp .le 8, 3) := by decide +kernel
theorem dX7_fillBy_43 : decode cX7_fillBy 43 = .ok (.iload 5, 2) := by decide +kernel
theorem dX7_fillBy_45 : decode cX7_fillBy 45 = .ok (.goto 4, 3) := by decide +kernel
theorem dX7_fillBy_48 : decode cX7_fillBy 48 = .ok (.iload_n 3, 1) := by decide +kernel
theorem dX7_fillBy_49 : decode cX7_fillBy 49 = .ok (.istore_n 3, 1) := by decide +kernel
theorem dX7_fillBy_50 : decode cX7_fillBy 50 = .ok (.iload 6, 2) := by decide +kernel
theorem dX7_fillBy_52 : decode cX7_fillBy 52 = .ok (.iload 4, 2) := by decide +kernel
theorem dX7_fillBy_54 : decode cX7_fillBy 54 = .ok (.invokestatic 228, 3) := by decide +kernel
theorem dX7_fillBy_57 : decode cX7_fillBy 57 = .ok (.istore 4, 2) := by decide +kernel
theorem dX7_fillBy_59 : decode cX7_fillBy 59 = .ok (.iinc 5 1, 3) := by decide +kernel
theorem dX7_fillBy_62 : decode cX7_fillBy 62 = .ok (.goto (-49), 3) := by decide +kernel
theorem dX7_fillBy_65 : decode cX7_fillBy 65 = .ok (.aload_n 0, 1) := by decide +kernel
theorem dX7_fillBy_66 : decode cX7_fillBy 66 = .ok (.iload_n 2, 1) := by decide +kernel
theorem dX7_fillBy_67 : decode cX7_fillBy 67 = .ok (.putfield 67, 3) := by decide +kernel
theorem dX7_fillBy_70 : decode cX7_fillBy 70 = .ok (.iload_n 1, 1) := by decide +kernel
theorem dX7_fillBy_71 : decode cX7_fillBy 71 = .ok (.ifCond .ne 7, 3) := by decide +kernel
theorem dX7_fillBy_74 : decode cX7_fillBy 74 = .ok (.iload_n 3, 1) := by decide +kernel
theorem dX7_fillBy_75 : decode cX7_fillBy 75 = .ok (.goto 5, 3) := by decide +kernel
theorem dX7_fillBy_78 : decode cX7_fillBy 78 = .ok (.iload 4, 2) := by decide +kernel
theorem dX7_fillBy_80 : decode cX7_fillBy 80 = .ok (.ireturn, 1) := by decide +kernel
theorem dX7_fill_0 : decode cX7_fill 0 = .ok (.aload_n 0, 1) := by decide +kernel
theorem dX7_fill_1 : decode cX7_fill 1 = .ok (.invokevirtual 204, 3) := by decide +kernel
theorem dX7_fill_4 : decode cX7_fill 4 = .ok (.iload_n 1, 1) := by decide +kernel
theorem dX7_fill_5 : decode cX7_fill 5 = .ok (.invokestatic 104, 3) := by decide +kernel
theorem dX7_fill_8 : decode cX7_fill 8 = .ok (.ifCond .eq 11, 3) := by decide +kernel
theorem dX7_fill_11 : decode cX7_fill 11 = .ok (.aload_n 0, 1) := by decide +kernel
theorem dX7_fill_12 : decode cX7_fill 12 = .ok (.iload_n 1, 1) := by decide +kernel
theorem dX7_fill_13 : decode cX7_fill 13 = .ok (.invokevirtual 234, 3) := by decide +kernel
theorem dX7_fill_16 : decode cX7_fill 16 = .ok (.goto 5, 3) := by decide +kernel
theorem dX7_fill_19 : decode cX7_fill 19 = .ok (.bipush (-2), 2) := by decide +kernel
theorem dX7_fill_21 : decode cX7_fill 21 = .ok (.ireturn, 1) := by decide +kernel
theorem dX7_swapBy_0 : decode cX7_swapBy 0 = .ok (.iconst (-1), 1) := by decide +kernel
theorem dX7_swapBy_1 : decode cX7_swapBy 1 = .ok (.istore_n 2, 1) := by decide +kernel
theorem dX7_swapBy_2 : decode cX7_swapBy 2 = .ok (.iconst (-1), 1) := by decide +kernel
theorem dX7_swapBy_3 : decode cX7_swapBy 3 = .ok (.istore_n 3, 1) := by decide +kernel
theorem dX7_swapBy_4 : decode cX7_swapBy 4 = .ok (.iconst 0, 1) := by decide +kernel
theorem dX7_swapBy_5 : decode cX7_swapBy 5 = .ok (.istore 4, 2) := by decide +kernel
theorem dX7_swapBy_7 : decode cX7_swapBy 7 = .ok (.iload 4, 2) := by decide +kernel
theorem dX7_swapBy_9 : decode cX7_swapBy 9 = .ok (.aload_n 0, 1) := by decide +kernel
theorem dX7_swapBy_10 : decode cX7_swapBy 10 = .ok (.getfield 113, 3) := by decide +kernel
theorem dX7_swapBy_13 : decode cX7_swapBy 13 = .ok (.if_icmp .ge 102, 3) := by decide +kernel
theorem dX7_swapBy_16 : decode cX7_swapBy 16 = .ok (.iload 4, 2) := by decide +kernel
theorem dX7_swapBy_18 : decode cX7_swapBy 18 = .ok (.iconst 1, 1) := by decide +kernel
theorem dX7_swapBy_19 : decode cX7_swapBy 19 = .ok (.iadd, 1) := by decide +kernel
theorem dX7_swapBy_20 : decode cX7_swapBy 20 = .ok (.istore 5, 2) := by decide +kernel
theorem dX7_swapBy_22 : decode cX7_swapBy 22 = .ok (.iload 5, 2) := by decide +kernel
theorem dX7_swapBy_24 : decode cX7_swapBy 24 = .ok (.aload_n 0, 1) := by decide +kernel
theorem dX7_swapBy_25 : decode cX7_swapBy 25 = .ok (.getfield 113, 3) := by decide +kernel
theorem dX7_swapBy_28 : decode cX7_swapBy 28 = .ok (.if_icmp .ge 81, 3) := by decide +kernel
theorem dX7_swapBy_31 : decode cX7_swapBy 31 = .ok (.aload_n 0, 1) := by decide +kernel
theorem dX7_swapBy_32 : decode cX7_swapBy 32 = .ok (.getfield 58, 3) := by decide +kernel
theorem dX7_swapBy_35 : decode cX7_swapBy 35 = .ok (.iload 4, 2) := by decide +kernel
theorem dX7_swapBy_37 : decode cX7_swapBy 37 = .ok (.iload 5, 2) := by decide +kernel
theorem dX7_swapBy_39 : decode cX7_swapBy 39 = .ok (.iastore, 1) := by decide +kernel
theorem dX7_swapBy_40 : decode cX7_swapBy 40 = .ok (.aload_n 0, 1) := by decide +kernel
theorem dX7_swapBy_41 : decode cX7_swapBy 41 = .ok (.getfield 58, 3) := by decide +kernel
theorem dX7_swapBy_44 : decode cX7_swapBy 44 = .ok (.iload 5, 2) := by decide +kernel
theorem dX7_swapBy_46 : decode cX7_swapBy 46 = .ok (.iload 4, 2) := by decide +kernel
theorem dX7_swapBy_48 : decode cX7_swapBy 48 = .ok (.iastore, 1) := by decide +kernel
theorem dX7_swapBy_49 : decode cX7_swapBy 49 = .ok (.aload_n 0, 1) := by decide +kernel
theorem dX7_swapBy_50 : decode cX7_swapBy 50 = .ok (.invokevirtual 201, 3) := by decide +kernel
theorem dX7_swapBy_53 : decode cX7_swapBy 53 = .ok (.aload_n 0, 1) := by decide +kernel
theorem dX7_swapBy_54 : decode cX7_swapBy 54 = .ok (.invokevirtual 216, 3) := by decide +kernel
theorem dX7_swapBy_57 : decode cX7_swapBy 57 = .ok (.istore 6, 2) := by decide +kernel
theorem dX7_swapBy_59 : decode cX7_swapBy 59 = .ok (.iload 6, 2) := by decide +kernel
theorem dX7_swapBy_61 : decode cX7_swapBy 61 = .ok (.iload_n 3, 1) := by decide +kernel
theorem dX7_swapBy_62 : decode cX7_swapBy 62 = .ok (.if_icmp .le 14, 3) := by decide +kernel
theorem dX7_swapBy_65 : decode cX7_swapBy 65 = .ok (.bipush 16, 2) := by decide +kernel
theorem dX7_swapBy_67 : decode cX7_swapBy 67 = .ok (.iload 4, 2) := by decide +kernel
theorem dX7_swapBy_69 : decode cX7_swapBy 69 = .ok (.imul, 1) := by decide +kernel
theorem dX7_swapBy_70 : decode cX7_swapBy 70 = .ok (.iload 5, 2) := by decide +kernel
theorem dX7_swapBy_72 : decode cX7_swapBy 72 = .ok (.iadd, 1) := by decide +kernel
theorem dX7_swapBy_73 : decode cX7_swapBy 73 = .ok (.goto 4, 3) := by decide +kernel
theorem dX7_swapBy_76 : decode cX7_swapBy 76 = .ok (.iload_n 2, 1) := by decide +kernel
theorem dX7_swapBy_77 : decode cX7_swapBy 77 = .ok (.istore_n 2, 1) := by decide +kernel
theorem dX7_swapBy_78 : decode cX7_swapBy 78 = .ok (.iload 6, 2) := by decide +kernel
theorem dX7_swapBy_80 : decode cX7_swapBy 80 = .ok (.iload_n 3, 1) := by decide +kernel
theorem dX7_swapBy_81 : decode cX7_swapBy 81 = .ok (.invokestatic 228, 3) := by decide +kernel
theorem dX7_swapBy_84 : decode cX7_swapBy 84 = .ok (.istore_n 3, 1) := by decide +kernel
theorem dX7_swapBy_85 : decode cX7_swapBy 85 = .ok (.aload_n 0, 1) := by decide +kernel
theorem dX7_swapBy_86 : decode cX7_swapBy 86 = .ok (.getfield 58, 3) := by decide +kernel
theorem dX7_swapBy_89 : decode cX7_swapBy 89 = .ok (.iload 4, 2) := by decide +kernel
theorem dX7_swapBy_91 : decode cX7_swapBy 91 = .ok (.iload 4, 2) := by decide +kernel
theorem dX7_swapBy_93 : decode cX7_swapBy 93 = .ok (.iastore, 1) := by decide +kernel
theorem dX7_swapBy_94 : decode cX7_swapBy 94 = .ok (.aload_n 0, 1) := by decide +kernel
theorem dX7_swapBy_95 : decode cX7_swapBy 95 = .ok (.getfield 58, 3) := by decide +kernel
theorem dX7_swapBy_98 : decode cX7_swapBy 98 = .ok (.iload 5, 2) := by decide +kernel
theorem dX7_swapBy_100 : decode cX7_swapBy 100 = .ok (.iload 5, 2) := by decide +kernel
theorem dX7_swapBy_102 : decode cX7_swapBy 102 = .ok (.iastore, 1) := by decide +kernel
theorem dX7_swapBy_103 : decode cX7_swapBy 103 = .ok (.iinc 5 1, 3) := by decide +kernel
theorem dX7_swapBy_106 : decode cX7_swapBy 106 = .ok (.goto (-84), 3) := by decide +kernel
theorem dX7_swapBy_109 : decode cX7_swapBy 109 = .ok (.iinc 4 1, 3) := by decide +kernel
theorem dX7_swapBy_112 : decode cX7_swapBy 112 = .ok (.goto (-105), 3) := by decide +kernel
theorem dX7_swapBy_115 : decode cX7_swapBy 115 = .ok (.iload_n 2, 1) := by decide +kernel
theorem dX7_swapBy_116 : decode cX7_swapBy 116 = .ok (.iconst (-1), 1) := by decide +kernel
theorem dX7_swapBy_117 : decode cX7_swapBy 117 = .ok (.if_icmp .ne 7, 3) := by decide +kernel
theorem dX7_swapBy_120 : decode cX7_swapBy 120 = .ok (.iconst (-1), 1) := by decide +kernel
theorem dX7_swapBy_121 : decode cX7_swapBy 121 = .ok (.goto 27, 3) := by decide +kernel
theorem dX7_swapBy_124 : decode cX7_swapBy 124 = .ok (.iload_n 1, 1) := by decide +kernel
theorem dX7_swapBy_125 : decode cX7_swapBy 125 = .ok (.ifCond .ne 10, 3) := by decide +kernel
theorem dX7_swapBy_128 : decode cX7_swapBy 128 = .ok (.iload_n 2, 1) := by decide +kernel
theorem dX7_swapBy_129 : decode cX7_swapBy 129 = .ok (.bipush 16, 2) := by decide +kernel
theorem dX7_swapBy_131 : decode cX7_swapBy 131 = .ok (.idiv, 1) := by decide +kernel
theorem dX7_swapBy_132 : decode cX7_swapBy 132 = .ok (.goto 16, 3) := by decide +kernel
theorem dX7_swapBy_135 : decode cX7_swapBy 135 = .ok (.iload_n 1, 1) := by decide +kernel
theorem dX7_swapBy_136 : decode cX7_swapBy 136 = .ok (.iconst 1, 1) := by decide +kernel
theorem dX7_swapBy_137 : decode cX7_swapBy 137 = .ok (.if_icmp .ne 10, 3) := by decide +kernel
theorem dX7_swapBy_140 : decode cX7_swapBy 140 = .ok (.iload_n 2, 1) := by decide +kernel
theorem dX7_swapBy_141 : decode cX7_swapBy 141 = .ok (.bipush 16, 2) := by decide +kernel
theorem dX7_swapBy_143 : decode cX7_swapBy 143 = .ok (.irem, 1) := by decide +kernel
theorem dX7_swapBy_144 : decode cX7_swapBy 144 = .ok (.goto 4, 3) := by decide +kernel
theorem dX7_swapBy_147 : decode cX7_swapBy 147 = .ok (.iload_n 3, 1) := by decide +kernel
theorem dX7_swapBy_148 : decode cX7_swapBy 148 = .ok (.ireturn, 1) := by decide +kernel
theorem dX7_swap_0 : decode cX7_swap 0 = .ok (.aload_n 0, 1) := by decide +kernel
theorem dX7_swap_1 : decode cX7_swap 1 = .ok (.invokevirtual 204, 3) := by decide +kernel
theorem dX7_swap_4 : decode cX7_swap 4 = .ok (.iload_n 1, 1) := by decide +kernel
theorem dX7_swap_5 : decode cX7_swap 5 = .ok (.i2l, 1) := by decide +kernel
theorem dX7_swap_6 : decode cX7_swap 6 = .ok (.lconst 0, 1) := by decide +kernel
theorem dX7_swap_7 : decode cX7_swap 7 = .ok (.ldc2_w 89, 3) := by decide +kernel
theorem dX7_swap_10 : decode cX7_swap 10 = .ok (.invokestatic 76, 3) := by decide +kernel
theorem dX7_swap_13 : decode cX7_swap 13 = .ok (.ifCond .eq 11, 3) := by decide +kernel
theorem dX7_swap_16 : decode cX7_swap 16 = .ok (.aload_n 0, 1) := by decide +kernel
theorem dX7_swap_17 : decode cX7_swap 17 = .ok (.iload_n 1, 1) := by decide +kernel
theorem dX7_swap_18 : decode cX7_swap 18 = .ok (.invokevirtual 237, 3) := by decide +kernel
theorem dX7_swap_21 : decode cX7_swap 21 = .ok (.goto 5, 3) := by decide +kernel
theorem dX7_swap_24 : decode cX7_swap 24 = .ok (.bipush (-2), 2) := by decide +kernel
theorem dX7_swap_26 : decode cX7_swap 26 = .ok (.ireturn, 1) := by decide +kernel
theorem dX7_holdBy_0 : decode cX7_holdBy 0 = .ok (.iconst (-1), 1) := by decide +kernel
theorem dX7_holdBy_1 : decode cX7_holdBy 1 = .ok (.istore_n 2, 1) := by decide +kernel
theorem dX7_holdBy_2 : decode cX7_holdBy 2 = .ok (.iconst (-1), 1) := by decide +kernel
theorem dX7_holdBy_3 : decode cX7_holdBy 3 = .ok (.istore_n 3, 1) := by decide +kernel
theorem dX7_holdBy_4 : decode cX7_holdBy 4 = .ok (.iconst 0, 1) := by decide +kernel
theorem dX7_holdBy_5 : decode cX7_holdBy 5 = .ok (.istore 4, 2) := by decide +kernel
theorem dX7_holdBy_7 : decode cX7_holdBy 7 = .ok (.iload 4, 2) := by decide +kernel
theorem dX7_holdBy_9 : decode cX7_holdBy 9 = .ok (.bipush 24, 2) := by decide +kernel
theorem dX7_holdBy_11 : decode cX7_holdBy 11 = .ok (.if_icmp .ge 45, 3) := by decide +kernel
theorem dX7_holdBy_14 : decode cX7_holdBy 14 = .ok (.aload_n 0, 1) := by decide +kernel
theorem dX7_holdBy_15 : decode cX7_holdBy 15 = .ok (.iload 4, 2) := by decide +kernel
theorem dX7_holdBy_17 : decode cX7_holdBy 17 = .ok (.putfield 71, 3) := by decide +kernel
theorem dX7_holdBy_20 : decode cX7_holdBy 20 = .ok (.aload_n 0, 1) := by decide +kernel
theorem dX7_holdBy_21 : decode cX7_holdBy 21 = .ok (.invokevirtual 201, 3) := by decide +kernel
theorem dX7_holdBy_24 : decode cX7_holdBy 24 = .ok (.aload_n 0, 1) := by decide +kernel
theorem dX7_holdBy_25 : decode cX7_holdBy 25 = .ok (.invokevirtual 216, 3) := by decide +kernel
theorem dX7_holdBy_28 : decode cX7_holdBy 28 = .ok (.istore 5, 2) := by decide +kernel
theorem dX7_holdBy_30 : decode cX7_holdBy 30 = .ok (.iload 5, 2) := by decide +kernel
theorem dX7_holdBy_32 : decode cX7_holdBy 32 = .ok (.iload_n 3, 1) := by decide +kernel
theorem dX7_holdBy_33 : decode cX7_holdBy 33 = .ok (.if_icmp .le 8, 3) := by decide +kernel
theorem dX7_holdBy_36 : decode cX7_holdBy 36 = .ok (.iload 4, 2) := by decide +kernel
theorem dX7_holdBy_38 : decode cX7_holdBy 38 = .ok (.goto 4, 3) := by decide +kernel
theorem dX7_holdBy_41 : decode cX7_holdBy 41 = .ok (.iload_n 2, 1) := by decide +kernel
theorem dX7_holdBy_42 : decode cX7_holdBy 42 = .ok (.istore_n 2, 1) := by decide +kernel
theorem dX7_holdBy_43 : decode cX7_holdBy 43 = .ok (.iload 5, 2) := by decide +kernel
theorem dX7_holdBy_45 : decode cX7_holdBy 45 = .ok (.iload_n 3, 1) := by decide +kernel
theorem dX7_holdBy_46 : decode cX7_holdBy 46 = .ok (.invokestatic 228, 3) := by decide +kernel
theorem dX7_holdBy_49 : decode cX7_holdBy 49 = .ok (.istore_n 3, 1) := by decide +kernel
theorem dX7_holdBy_50 : decode cX7_holdBy 50 = .ok (.iinc 4 1, 3) := by decide +kernel
theorem dX7_holdBy_53 : decode cX7_holdBy 53 = .ok (.goto (-46), 3) := by decide +kernel
theorem dX7_holdBy_56 : decode cX7_holdBy 56 = .ok (.aload_n 0, 1) := by decide +kernel
theorem dX7_holdBy_57 : decode cX7_holdBy 57 = .ok (.iconst (-1), 1) := by decide +kernel
theorem dX7_holdBy_58 : decode cX7_holdBy 58 = .ok (.putfield 71, 3) := by decide +kernel
theorem dX7_holdBy_61 : decode cX7_holdBy 61 = .ok (.iload_n 1, 1) := by decide +kernel
theorem dX7_holdBy_62 : decode cX7_holdBy 62 = .ok (.ifCond .ne 7, 3) := by decide +kernel
theorem dX7_holdBy_65 : decode cX7_holdBy 65 = .ok (.iload_n 2, 1) := by decide +kernel
theorem dX7_holdBy_66 : decode cX7_holdBy 66 = .ok (.goto 4, 3) := by decide +kernel
theorem dX7_holdBy_69 : decode cX7_holdBy 69 = .ok (.iload_n 3, 1) := by decide +kernel
theorem dX7_holdBy_70 : decode cX7_holdBy 70 = .ok (.ireturn, 1) := by decide +kernel
theorem dX7_hold_0 : decode cX7_hold 0 = .ok (.aload_n 0, 1) := by decide +kernel
theorem dX7_hold_1 : decode cX7_hold 1 = .ok (.invokevirtual 204, 3) := by decide +kernel
theorem dX7_hold_4 : decode cX7_hold 4 = .ok (.iload_n 1, 1) := by decide +kernel
theorem dX7_hold_5 : decode cX7_hold 5 = .ok (.invokestatic 104, 3) := by decide +kernel
theorem dX7_hold_8 : decode cX7_hold 8 = .ok (.ifCond .eq 11, 3) := by decide +kernel
theorem dX7_hold_11 : decode cX7_hold 11 = .ok (.aload_n 0, 1) := by decide +kernel
theorem dX7_hold_12 : decode cX7_hold 12 = .ok (.iload_n 1, 1) := by decide +kernel
theorem dX7_hold_13 : decode cX7_hold 13 = .ok (.invokevirtual 240, 3) := by decide +kernel
theorem dX7_hold_16 : decode cX7_hold 16 = .ok (.goto 5, 3) := by decide +kernel
theorem dX7_hold_19 : decode cX7_hold 19 = .ok (.bipush (-2), 2) := by decide +kernel
theorem dX7_hold_21 : decode cX7_hold 21 = .ok (.ireturn, 1) := by decide +kernel
theorem dX7_isSpared_0 : decode cX7_isSpared 0 = .ok (.aload_n 0, 1) := by decide +kernel
theorem dX7_isSpared_1 : decode cX7_isSpared 1 = .ok (.iload_n 1, 1) := by decide +kernel
theorem dX7_isSpared_2 : decode cX7_isSpared 2 = .ok (.putfield 160, 3) := by decide +kernel
theorem dX7_isSpared_5 : decode cX7_isSpared 5 = .ok (.aload_n 0, 1) := by decide +kernel
theorem dX7_isSpared_6 : decode cX7_isSpared 6 = .ok (.invokevirtual 201, 3) := by decide +kernel
theorem dX7_isSpared_9 : decode cX7_isSpared 9 = .ok (.aload_n 0, 1) := by decide +kernel
theorem dX7_isSpared_10 : decode cX7_isSpared 10 = .ok (.iconst 0, 1) := by decide +kernel
theorem dX7_isSpared_11 : decode cX7_isSpared 11 = .ok (.putfield 160, 3) := by decide +kernel
theorem dX7_isSpared_14 : decode cX7_isSpared 14 = .ok (.iconst 1, 1) := by decide +kernel
theorem dX7_isSpared_15 : decode cX7_isSpared 15 = .ok (.istore_n 2, 1) := by decide +kernel
theorem dX7_isSpared_16 : decode cX7_isSpared 16 = .ok (.iconst 0, 1) := by decide +kernel
theorem dX7_isSpared_17 : decode cX7_isSpared 17 = .ok (.istore_n 3, 1) := by decide +kernel
theorem dX7_isSpared_18 : decode cX7_isSpared 18 = .ok (.iload_n 3, 1) := by decide +kernel
theorem dX7_isSpared_19 : decode cX7_isSpared 19 = .ok (.aload_n 0, 1) := by decide +kernel
theorem dX7_isSpared_20 : decode cX7_isSpared 20 = .ok (.getfield 124, 3) := by decide +kernel
theorem dX7_isSpared_23 : decode cX7_isSpared 23 = .ok (.if_icmp .ge 45, 3) := by decide +kernel
theorem dX7_isSpared_26 : decode cX7_isSpared 26 = .ok (.iload_n 2, 1) := by decide +kernel
theorem dX7_isSpared_27 : decode cX7_isSpared 27 = .ok (.ifCond .eq 33, 3) := by decide +kernel
theorem dX7_isSpared_30 : decode cX7_isSpared 30 = .ok (.aload_n 0, 1) := by decide +kernel
theorem dX7_isSpared_31 : decode cX7_isSpared 31 = .ok (.getfield 46, 3) := by decide +kernel
theorem dX7_isSpared_34 : decode cX7_isSpared 34 = .ok (.iload_n 3, 1) := by decide +kernel
theorem dX7_isSpared_35 : decode cX7_isSpared 35 = .ok (.iaload, 1) := by decide +kernel
theorem dX7_isSpared_36 : decode cX7_isSpared 36 = .ok (.ifCond .gt 20, 3) := by decide +kernel
theorem dX7_isSpared_39 : decode cX7_isSpared 39 = .ok (.aload_n 0, 1) := by decide +kernel
theorem dX7_isSpared_40 : decode cX7_isSpared 40 = .ok (.aload_n 0, 1) := by decide +kernel
theorem dX7_isSpared_41 : decode cX7_isSpared 41 = .ok (.getfield 31, 3) := by decide +kernel
theorem dX7_isSpared_44 : decode cX7_isSpared 44 = .ok (.iconst 2, 1) := by decide +kernel
theorem dX7_isSpared_45 : decode cX7_isSpared 45 = .ok (.iload_n 3, 1) := by decide +kernel
theorem dX7_isSpared_46 : decode cX7_isSpared 46 = .ok (.imul, 1) := by decide +kernel
theorem dX7_isSpared_47 : decode cX7_isSpared 47 = .ok (.iconst 1, 1) := by decide +kernel
theorem dX7_isSpared_48 : decode cX7_isSpared 48 = .ok (.iadd, 1) := by decide +kernel
theorem dX7_isSpared_49 : decode cX7_isSpared 49 = .ok (.iaload, 1) := by decide +kernel
theorem dX7_isSpared_50 : decode cX7_isSpared 50 = .ok (.invokevirtual 142, 3) := by decide +kernel
theorem dX7_isSpared_53 : decode cX7_isSpared 53 = .ok (.ifCond .ne 7, 3) := by decide +kernel
theorem dX7_isSpared_56 : decode cX7_isSpared 56 = .ok (.iconst 1, 1) := by decide +kernel
theorem dX7_isSpared_57 : decode cX7_isSpared 57 = .ok (.goto 4, 3) := by decide +kernel
theorem dX7_isSpared_60 : decode cX7_isSpared 60 = .ok (.iconst 0, 1) := by decide +kernel
theorem dX7_isSpared_61 : decode cX7_isSpared 61 = .ok (.istore_n 2, 1) := by decide +kernel
theorem dX7_isSpared_62 : decode cX7_isSpared 62 = .ok (.iinc 3 1, 3) := by decide +kernel
theorem dX7_isSpared_65 : decode cX7_isSpared 65 = .ok (.goto (-47), 3) := by decide +kernel
theorem dX7_isSpared_68 : decode cX7_isSpared 68 = .ok (.iload_n 2, 1) := by decide +kernel
theorem dX7_isSpared_69 : decode cX7_isSpared 69 = .ok (.ireturn, 1) := by decide +kernel
theorem dX7_spareBy_0 : decode cX7_spareBy 0 = .ok (.aload_n 0, 1) := by decide +kernel
theorem dX7_spareBy_1 : decode cX7_spareBy 1 = .ok (.iconst 0, 1) := by decide +kernel
theorem dX7_spareBy_2 : decode cX7_spareBy 2 = .ok (.invokevirtual 243, 3) := by decide +kernel
theorem dX7_spareBy_5 : decode cX7_spareBy 5 = .ok (.ifCond .eq 14, 3) := by decide +kernel
theorem dX7_spareBy_8 : decode cX7_spareBy 8 = .ok (.iload_n 1, 1) := by decide +kernel
theorem dX7_spareBy_9 : decode cX7_spareBy 9 = .ok (.iconst (-1), 1) := by decide +kernel
theorem dX7_spareBy_10 : decode cX7_spareBy 10 = .ok (.if_icmp .ne 7, 3) := by decide +kernel
theorem dX7_spareBy_13 : decode cX7_spareBy 13 = .ok (.iconst 0, 1) := by decide +kernel
theorem dX7_spareBy_14 : decode cX7_spareBy 14 = .ok (.goto 4, 3) := by decide +kernel
theorem dX7_spareBy_17 : decode cX7_spareBy 17 = .ok (.iconst (-1), 1) := by decide +kernel
theorem dX7_spareBy_18 : decode cX7_spareBy 18 = .ok (.ireturn, 1) := by decide +kernel
theorem dX7_spareBy_19 : decode cX7_spareBy 19 = .ok (.iconst 0, 1) := by decide +kernel
theorem dX7_spareBy_20 : decode cX7_spareBy 20 = .ok (.istore_n 2, 1) := by decide +kernel
theorem dX7_spareBy_21 : decode cX7_spareBy 21 = .ok (.iload_n 2, 1) := by decide +kernel
theorem dX7_spareBy_22 : decode cX7_spareBy 22 = .ok (.aload_n 0, 1) := by decide +kernel
theorem dX7_spareBy_23 : decode cX7_spareBy 23 = .ok (.getfield 155, 3) := by decide +kernel
theorem dX7_spareBy_26 : decode cX7_spareBy 26 = .ok (.if_icmp .ge 38, 3) := by decide +kernel
theorem dX7_spareBy_29 : decode cX7_spareBy 29 = .ok (.aload_n 0, 1) := by decide +kernel
theorem dX7_spareBy_30 : decode cX7_spareBy 30 = .ok (.iconst 1, 1) := by decide +kernel
theorem dX7_spareBy_31 : decode cX7_spareBy 31 = .ok (.iload_n 2, 1) := by decide +kernel
theorem dX7_spareBy_32 : decode cX7_spareBy 32 = .ok (.ishl, 1) := by decide +kernel
theorem dX7_spareBy_33 : decode cX7_spareBy 33 = .ok (.invokevirtual 243, 3) := by decide +kernel
theorem dX7_spareBy_36 : decode cX7_spareBy 36 = .ok (.ifCond .eq 22, 3) := by decide +kernel
theorem dX7_spareBy_39 : decode cX7_spareBy 39 = .ok (.iload_n 1, 1) := by decide +kernel
theorem dX7_spareBy_40 : decode cX7_spareBy 40 = .ok (.iconst (-1), 1) := by decide +kernel
theorem dX7_spareBy_41 : decode cX7_spareBy 41 = .ok (.if_icmp .ne 7, 3) := by decide +kernel
theorem dX7_spareBy_44 : decode cX7_spareBy 44 = .ok (.iconst 1, 1) := by decide +kernel
theorem dX7_spareBy_45 : decode cX7_spareBy 45 = .ok (.goto 12, 3) := by decide +kernel
theorem dX7_spareBy_48 : decode cX7_spareBy 48 = .ok (.iload_n 1, 1) := by decide +kernel
theorem dX7_spareBy_49 : decode cX7_spareBy 49 = .ok (.ifCond .ne 7, 3) := by decide +kernel
theorem dX7_spareBy_52 : decode cX7_spareBy 52 = .ok (.iload_n 2, 1) := by decide +kernel
theorem dX7_spareBy_53 : decode cX7_spareBy 53 = .ok (.goto 4, 3) := by decide +kernel
theorem dX7_spareBy_56 : decode cX7_spareBy 56 = .ok (.iconst (-1), 1) := by decide +kernel
theorem dX7_spareBy_57 : decode cX7_spareBy 57 = .ok (.ireturn, 1) := by decide +kernel
theorem dX7_spareBy_58 : decode cX7_spareBy 58 = .ok (.iinc 2 1, 3) := by decide +kernel
theorem dX7_spareBy_61 : decode cX7_spareBy 61 = .ok (.goto (-40), 3) := by decide +kernel
theorem dX7_spareBy_64 : decode cX7_spareBy 64 = .ok (.iconst 0, 1) := by decide +kernel
theorem dX7_spareBy_65 : decode cX7_spareBy 65 = .ok (.istore_n 2, 1) := by decide +kernel
theorem dX7_spareBy_66 : decode cX7_spareBy 66 = .ok (.iload_n 2, 1) := by decide +kernel
theorem dX7_spareBy_67 : decode cX7_spareBy 67 = .ok (.aload_n 0, 1) := by decide +kernel
theorem dX7_spareBy_68 : decode cX7_spareBy 68 = .ok (.getfield 155, 3) := by decide +kernel
theorem dX7_spareBy_71 : decode cX7_spareBy 71 = .ok (.if_icmp .ge 60, 3) := by decide +kernel
theorem dX7_spareBy_74 : decode cX7_spareBy 74 = .ok (.iload_n 2, 1) := by decide +kernel
theorem dX7_spareBy_75 : decode cX7_spareBy 75 = .ok (.iconst 1, 1) := by decide +kernel
theorem dX7_spareBy_76 : decode cX7_spareBy 76 = .ok (.iadd, 1) := by decide +kernel
theorem dX7_spareBy_77 : decode cX7_spareBy 77 = .ok (.istore_n 3, 1) := by decide +kernel
theorem dX7_spareBy_78 : decode cX7_spareBy 78 = .ok (.iload_n 3, 1) := by decide +kernel
theorem dX7_spareBy_79 : decode cX7_spareBy 79 = .ok (.aload_n 0, 1) := by decide +kernel
theorem dX7_spareBy_80 : decode cX7_spareBy 80 = .ok (.getfield 155, 3) := by decide +kernel
theorem dX7_spareBy_83 : decode cX7_spareBy 83 = .ok (.if_icmp .ge 42, 3) := by decide +kernel
theorem dX7_spareBy_86 : decode cX7_spareBy 86 = .ok (.aload_n 0, 1) := by decide +kernel
theorem dX7_spareBy_87 : decode cX7_spareBy 87 = .ok (.iconst 1, 1) := by decide +kernel
theorem dX7_spareBy_88 : decode cX7_spareBy 88 = .ok (.iload_n 2, 1) := by decide +kernel
theorem dX7_spareBy_89 : decode cX7_spareBy 89 = .ok (.ishl, 1) := by decide +kernel
theorem dX7_spareBy_90 : decode cX7_spareBy 90 = .ok (.iconst 1, 1) := by decide +kernel
theorem dX7_spareBy_91 : decode cX7_spareBy 91 = .ok (.iload_n 3, 1) := by decide +kernel
theorem dX7_spareBy_92 : decode cX7_spareBy 92 = .ok (.ishl, 1) := by decide +kernel
theorem dX7_spareBy_93 : decode cX7_spareBy 93 = .ok (.ior, 1) := by decide +kernel
theorem dX7_spareBy_94 : decode cX7_spareBy 94 = .ok (.invokevirtual 243, 3) := by decide +kernel
theorem dX7_spareBy_97 : decode cX7_spareBy 97 = .ok (.ifCond .eq 22, 3) := by decide +kernel
theorem dX7_spareBy_100 : decode cX7_spareBy 100 = .ok (.iload_n 1, 1) := by decide +kernel
theorem dX7_spareBy_101 : decode cX7_spareBy 101 = .ok (.iconst (-1), 1) := by decide +kernel
theorem dX7_spareBy_102 : decode cX7_spareBy 102 = .ok (.if_icmp .ne 7, 3) := by decide +kernel
theorem dX7_spareBy_105 : decode cX7_spareBy 105 = .ok (.iconst 2, 1) := by decide +kernel
theorem dX7_spareBy_106 : decode cX7_spareBy 106 = .ok (.goto 12, 3) := by decide +kernel
theorem dX7_spareBy_109 : decode cX7_spareBy 109 = .ok (.iload_n 1, 1) := by decide +kernel
theorem dX7_spareBy_110 : decode cX7_spareBy 110 = .ok (.ifCond .ne 7, 3) := by decide +kernel
theorem dX7_spareBy_113 : decode cX7_spareBy 113 = .ok (.iload_n 2, 1) := by decide +kernel
theorem dX7_spareBy_114 : decode cX7_spareBy 114 = .ok (.goto 4, 3) := by decide +kernel
theorem dX7_spareBy_117 : decode cX7_spareBy 117 = .ok (.iload_n 3, 1) := by decide +kernel
theorem dX7_spareBy_118 : decode cX7_spareBy 118 = .ok (.ireturn, 1) := by decide +kernel
theorem dX7_spareBy_119 : decode cX7_spareBy 119 = .ok (.iinc 3 1, 3) := by decide +kernel
theorem dX7_spareBy_122 : decode cX7_spareBy 122 = .ok (.goto (-44), 3) := by decide +kernel
theorem dX7_spareBy_125 : decode cX7_spareBy 125 = .ok (.iinc 2 1, 3) := by decide +kernel
theorem dX7_spareBy_128 : decode cX7_spareBy 128 = .ok (.goto (-62), 3) := by decide +kernel
theorem dX7_spareBy_131 : decode cX7_spareBy 131 = .ok (.iconst (-1), 1) := by decide +kernel
theorem dX7_spareBy_132 : decode cX7_spareBy 132 = .ok (.ireturn, 1) := by decide +kernel
theorem dX7_spare_0 : decode cX7_spare 0 = .ok (.aload_n 0, 1) := by decide +kernel
theorem dX7_spare_1 : decode cX7_spare 1 = .ok (.invokevirtual 204, 3) := by decide +kernel
theorem dX7_spare_4 : decode cX7_spare 4 = .ok (.iload_n 1, 1) := by decide +kernel
theorem dX7_spare_5 : decode cX7_spare 5 = .ok (.i2l, 1) := by decide +kernel
theorem dX7_spare_6 : decode cX7_spare 6 = .ok (.ldc2_w 246, 3) := by decide +kernel
theorem dX7_spare_9 : decode cX7_spare 9 = .ok (.lconst 1, 1) := by decide +kernel
theorem dX7_spare_10 : decode cX7_spare 10 = .ok (.invokestatic 76, 3) := by decide +kernel
theorem dX7_spare_13 : decode cX7_spare 13 = .ok (.ifCond .eq 11, 3) := by decide +kernel
theorem dX7_spare_16 : decode cX7_spare 16 = .ok (.aload_n 0, 1) := by decide +kernel
theorem dX7_spare_17 : decode cX7_spare 17 = .ok (.iload_n 1, 1) := by decide +kernel
theorem dX7_spare_18 : decode cX7_spare 18 = .ok (.invokevirtual 248, 3) := by decide +kernel
theorem dX7_spare_21 : decode cX7_spare 21 = .ok (.goto 5, 3) := by decide +kernel
theorem dX7_spare_24 : decode cX7_spare 24 = .ok (.bipush (-2), 2) := by decide +kernel
theorem dX7_spare_26 : decode cX7_spare 26 = .ok (.ireturn, 1) := by decide +kernel
theorem dX7_hear_0 : decode cX7_hear 0 = .ok (.iload_n 1, 1) := by decide +kernel
theorem dX7_hear_1 : decode cX7_hear 1 = .ok (.i2l, 1) := by decide +kernel
theorem dX7_hear_2 : decode cX7_hear 2 = .ok (.lconst 0, 1) := by decide +kernel
theorem dX7_hear_3 : decode cX7_hear 3 = .ok (.ldc2_w 145, 3) := by decide +kernel
theorem dX7_hear_6 : decode cX7_hear 6 = .ok (.invokestatic 76, 3) := by decide +kernel
theorem dX7_hear_9 : decode cX7_hear 9 = .ok (.ifCond .eq 15, 3) := by decide +kernel
theorem dX7_hear_12 : decode cX7_hear 12 = .ok (.iload_n 2, 1) := by decide +kernel
theorem dX7_hear_13 : decode cX7_hear 13 = .ok (.i2l, 1) := by decide +kernel
theorem dX7_hear_14 : decode cX7_hear 14 = .ok (.lconst 0, 1) := by decide +kernel
theorem dX7_hear_15 : decode cX7_hear 15 = .ok (.ldc2_w 89, 3) := by decide +kernel
theorem dX7_hear_18 : decode cX7_hear 18 = .ok (.invokestatic 76, 3) := by decide +kernel
theorem dX7_hear_21 : decode cX7_hear 21 = .ok (.ifCond .ne 6, 3) := by decide +kernel
theorem dX7_hear_24 : decode cX7_hear 24 = .ok (.bipush (-2), 2) := by decide +kernel
theorem dX7_hear_26 : decode cX7_hear 26 = .ok (.ireturn, 1) := by decide +kernel
theorem dX7_hear_27 : decode cX7_hear 27 = .ok (.aload_n 0, 1) := by decide +kernel
theorem dX7_hear_28 : decode cX7_hear 28 = .ok (.getfield 251, 3) := by decide +kernel
theorem dX7_hear_31 : decode cX7_hear 31 = .ok (.bipush 8, 2) := by decide +kernel
theorem dX7_hear_33 : decode cX7_hear 33 = .ok (.if_icmp .ne 6, 3) := by decide +kernel
theorem dX7_hear_36 : decode cX7_hear 36 = .ok (.bipush (-4), 2) := by decide +kernel
theorem dX7_hear_38 : decode cX7_hear 38 = .ok (.ireturn, 1) := by decide +kernel
theorem dX7_hear_39 : decode cX7_hear 39 = .ok (.aload_n 0, 1) := by decide +kernel
theorem dX7_hear_40 : decode cX7_hear 40 = .ok (.getfield 61, 3) := by decide +kernel
theorem dX7_hear_43 : decode cX7_hear 43 = .ok (.iconst 2, 1) := by decide +kernel
theorem dX7_hear_44 : decode cX7_hear 44 = .ok (.aload_n 0, 1) := by decide +kernel
theorem dX7_hear_45 : decode cX7_hear 45 = .ok (.getfield 251, 3) := by decide +kernel
theorem dX7_hear_48 : decode cX7_hear 48 = .ok (.imul, 1) := by decide +kernel
theorem dX7_hear_49 : decode cX7_hear 49 = .ok (.iload_n 1, 1) := by decide +kernel
theorem dX7_hear_50 : decode cX7_hear 50 = .ok (.iastore, 1) := by decide +kernel
theorem dX7_hear_51 : decode cX7_hear 51 = .ok (.aload_n 0, 1) := by decide +kernel
theorem dX7_hear_52 : decode cX7_hear 52 = .ok (.getfield 61, 3) := by decide +kernel
theorem dX7_hear_55 : decode cX7_hear 55 = .ok (.iconst 2, 1) := by decide +kernel
theorem dX7_hear_56 : decode cX7_hear 56 = .ok (.aload_n 0, 1) := by decide +kernel
theorem dX7_hear_57 : decode cX7_hear 57 = .ok (.getfield 251, 3) := by decide +kernel
theorem dX7_hear_60 : decode cX7_hear 60 = .ok (.imul, 1) := by decide +kernel
theorem dX7_hear_61 : decode cX7_hear 61 = .ok (.iconst 1, 1) := by decide +kernel
theorem dX7_hear_62 : decode cX7_hear 62 = .ok (.iadd, 1) := by decide +kernel
theorem dX7_hear_63 : decode cX7_hear 63 = .ok (.iload_n 2, 1) := by decide +kernel
theorem dX7_hear_64 : decode cX7_hear 64 = .ok (.iastore, 1) := by decide +kernel
theorem dX7_hear_65 : decode cX7_hear 65 = .ok (.aload_n 0, 1) := by decide +kernel
theorem dX7_hear_66 : decode cX7_hear 66 = .ok (.dup, 1) := by decide +kernel
theorem dX7_hear_67 : decode cX7_hear 67 = .ok (.getfield 251, 3) := by decide +kernel
theorem dX7_hear_70 : decode cX7_hear 70 = .ok (.iconst 1, 1) := by decide +kernel
theorem dX7_hear_71 : decode cX7_hear 71 = .ok (.iadd, 1) := by decide +kernel
theorem dX7_hear_72 : decode cX7_hear 72 = .ok (.putfield 251, 3) := by decide +kernel
theorem dX7_hear_75 : decode cX7_hear 75 = .ok (.aload_n 0, 1) := by decide +kernel
theorem dX7_hear_76 : decode cX7_hear 76 = .ok (.getfield 251, 3) := by decide +kernel
theorem dX7_hear_79 : decode cX7_hear 79 = .ok (.ireturn, 1) := by decide +kernel
theorem dX7_forget_0 : decode cX7_forget 0 = .ok (.aload_n 0, 1) := by decide +kernel
theorem dX7_forget_1 : decode cX7_forget 1 = .ok (.getfield 251, 3) := by decide +kernel
theorem dX7_forget_4 : decode cX7_forget 4 = .ok (.istore_n 1, 1) := by decide +kernel
theorem dX7_forget_5 : decode cX7_forget 5 = .ok (.aload_n 0, 1) := by decide +kernel
theorem dX7_forget_6 : decode cX7_forget 6 = .ok (.iconst 0, 1) := by decide +kernel
theorem dX7_forget_7 : decode cX7_forget 7 = .ok (.putfield 251, 3) := by decide +kernel
theorem dX7_forget_10 : decode cX7_forget 10 = .ok (.iload_n 1, 1) := by decide +kernel
theorem dX7_forget_11 : decode cX7_forget 11 = .ok (.ireturn, 1) := by decide +kernel
theorem dX7_isHeard_0 : decode cX7_isHeard 0 = .ok (.aload_n 0, 1) := by decide +kernel
theorem dX7_isHeard_1 : decode cX7_isHeard 1 = .ok (.invokevirtual 201, 3) := by decide +kernel
theorem dX7_isHeard_4 : decode cX7_isHeard 4 = .ok (.iconst 1, 1) := by decide +kernel
theorem dX7_isHeard_5 : decode cX7_isHeard 5 = .ok (.istore_n 1, 1) := by decide +kernel
theorem dX7_isHeard_6 : decode cX7_isHeard 6 = .ok (.iconst 0, 1) := by decide +kernel
theorem dX7_isHeard_7 : decode cX7_isHeard 7 = .ok (.istore_n 2, 1) := by decide +kernel
theorem dX7_isHeard_8 : decode cX7_isHeard 8 = .ok (.iload_n 2, 1) := by decide +kernel
theorem dX7_isHeard_9 : decode cX7_isHeard 9 = .ok (.aload_n 0, 1) := by decide +kernel
theorem dX7_isHeard_10 : decode cX7_isHeard 10 = .ok (.getfield 251, 3) := by decide +kernel
theorem dX7_isHeard_13 : decode cX7_isHeard 13 = .ok (.if_icmp .ge 60, 3) := by decide +kernel
theorem dX7_isHeard_16 : decode cX7_isHeard 16 = .ok (.iload_n 1, 1) := by decide +kernel
theorem dX7_isHeard_17 : decode cX7_isHeard 17 = .ok (.ifCond .eq 48, 3) := by decide +kernel
theorem dX7_isHeard_20 : decode cX7_isHeard 20 = .ok (.aload_n 0, 1) := by decide +kernel
theorem dX7_isHeard_21 : decode cX7_isHeard 21 = .ok (.aload_n 0, 1) := by decide +kernel
theorem dX7_isHeard_22 : decode cX7_isHeard 22 = .ok (.getfield 61, 3) := by decide +kernel
theorem dX7_isHeard_25 : decode cX7_isHeard 25 = .ok (.iconst 2, 1) := by decide +kernel
theorem dX7_isHeard_26 : decode cX7_isHeard 26 = .ok (.iload_n 2, 1) := by decide +kernel
theorem dX7_isHeard_27 : decode cX7_isHeard 27 = .ok (.imul, 1) := by decide +kernel
theorem dX7_isHeard_28 : decode cX7_isHeard 28 = .ok (.iaload, 1) := by decide +kernel
theorem dX7_isHeard_29 : decode cX7_isHeard 29 = .ok (.invokevirtual 210, 3) := by decide +kernel
theorem dX7_isHeard_32 : decode cX7_isHeard 32 = .ok (.ifCond .eq 33, 3) := by decide +kernel
theorem dX7_isHeard_35 : decode cX7_isHeard 35 = .ok (.aload_n 0, 1) := by decide +kernel
theorem dX7_isHeard_36 : decode cX7_isHeard 36 = .ok (.getfield 46, 3) := by decide +kernel
theorem dX7_isHeard_39 : decode cX7_isHeard 39 = .ok (.aload_n 0, 1) := by decide +kernel
theorem dX7_isHeard_40 : decode cX7_isHeard 40 = .ok (.getfield 61, 3) := by decide +kernel
theorem dX7_isHeard_43 : decode cX7_isHeard 43 = .ok (.iconst 2, 1) := by decide +kernel
theorem dX7_isHeard_44 : decode cX7_isHeard 44 = .ok (.iload_n 2, 1) := by decide +kernel
theorem dX7_isHeard_45 : decode cX7_isHeard 45 = .ok (.imul, 1) := by decide +kernel
theorem dX7_isHeard_46 : decode cX7_isHeard 46 = .ok (.iaload, 1) := by decide +kernel
theorem dX7_isHeard_47 : decode cX7_isHeard 47 = .ok (.iaload, 1) := by decide +kernel
theorem dX7_isHeard_48 : decode cX7_isHeard 48 = .ok (.aload_n 0, 1) := by decide +kernel
theorem dX7_isHeard_49 : decode cX7_isHeard 49 = .ok (.getfield 61, 3) := by decide +kernel
theorem dX7_isHeard_52 : decode cX7_isHeard 52 = .ok (.iconst 2, 1) := by decide +kernel
theorem dX7_isHeard_53 : decode cX7_isHeard 53 = .ok (.iload_n 2, 1) := by decide +kernel
theorem dX7_isHeard_54 : decode cX7_isHeard 54 = .ok (.imul, 1) := by decide +kernel
theorem dX7_isHeard_55 : decode cX7_isHeard 55 = .ok (.iconst 1, 1) := by decide +kernel
theorem dX7_isHeard_56 : decode cX7_isHeard 56 = .ok (.iadd, 1) := by decide +kernel
theorem dX7_isHeard_57 : decode cX7_isHeard 57 = .ok (.iaload, 1) := by decide +kernel
theorem dX7_isHeard_58 : decode cX7_isHeard 58 = .ok (.if_icmp .ne 7, 3) := by decide +kernel
theorem dX7_isHeard_61 : decode cX7_isHeard 61 = .ok (.iconst 1, 1) := by decide +kernel
theorem dX7_isHeard_62 : decode cX7_isHeard 62 = .ok (.goto 4, 3) := by decide +kernel
theorem dX7_isHeard_65 : decode cX7_isHeard 65 = .ok (.iconst 0, 1) := by decide +kernel
theorem dX7_isHeard_66 : decode cX7_isHeard 66 = .ok (.istore_n 1, 1) := by decide +kernel
theorem dX7_isHeard_67 : decode cX7_isHeard 67 = .ok (.iinc 2 1, 3) := by decide +kernel
theorem dX7_isHeard_70 : decode cX7_isHeard 70 = .ok (.goto (-62), 3) := by decide +kernel
theorem dX7_isHeard_73 : decode cX7_isHeard 73 = .ok (.iload_n 1, 1) := by decide +kernel
theorem dX7_isHeard_74 : decode cX7_isHeard 74 = .ok (.ireturn, 1) := by decide +kernel
theorem dX7_neverNow_0 : decode cX7_neverNow 0 = .ok (.iconst 0, 1) := by decide +kernel
theorem dX7_neverNow_1 : decode cX7_neverNow 1 = .ok (.istore_n 1, 1) := by decide +kernel
theorem dX7_neverNow_2 : decode cX7_neverNow 2 = .ok (.iconst 0, 1) := by decide +kernel
theorem dX7_neverNow_3 : decode cX7_neverNow 3 = .ok (.istore_n 2, 1) := by decide +kernel
theorem dX7_neverNow_4 : decode cX7_neverNow 4 = .ok (.iload_n 2, 1) := by decide +kernel
theorem dX7_neverNow_5 : decode cX7_neverNow 5 = .ok (.aload_n 0, 1) := by decide +kernel
theorem dX7_neverNow_6 : decode cX7_neverNow 6 = .ok (.getfield 155, 3) := by decide +kernel
theorem dX7_neverNow_9 : decode cX7_neverNow 9 = .ok (.if_icmp .ge 33, 3) := by decide +kernel
theorem dX7_neverNow_12 : decode cX7_neverNow 12 = .ok (.aload_n 0, 1) := by decide +kernel
theorem dX7_neverNow_13 : decode cX7_neverNow 13 = .ok (.iconst 1, 1) := by decide +kernel
theorem dX7_neverNow_14 : decode cX7_neverNow 14 = .ok (.iload_n 2, 1) := by decide +kernel
theorem dX7_neverNow_15 : decode cX7_neverNow 15 = .ok (.ishl, 1) := by decide +kernel
theorem dX7_neverNow_16 : decode cX7_neverNow 16 = .ok (.putfield 160, 3) := by decide +kernel
theorem dX7_neverNow_19 : decode cX7_neverNow 19 = .ok (.iload_n 1, 1) := by decide +kernel
theorem dX7_neverNow_20 : decode cX7_neverNow 20 = .ok (.aload_n 0, 1) := by decide +kernel
theorem dX7_neverNow_21 : decode cX7_neverNow 21 = .ok (.invokevirtual 254, 3) := by decide +kernel
theorem dX7_neverNow_24 : decode cX7_neverNow 24 = .ok (.ifCond .eq 9, 3) := by decide +kernel
theorem dX7_neverNow_27 : decode cX7_neverNow 27 = .ok (.iconst 1, 1) := by decide +kernel
theorem dX7_neverNow_28 : decode cX7_neverNow 28 = .ok (.iload_n 2, 1) := by decide +kernel
theorem dX7_neverNow_29 : decode cX7_neverNow 29 = .ok (.ishl, 1) := by decide +kernel
theorem dX7_neverNow_30 : decode cX7_neverNow 30 = .ok (.goto 4, 3) := by decide +kernel
theorem dX7_neverNow_33 : decode cX7_neverNow 33 = .ok (.iconst 0, 1) := by decide +kernel
theorem dX7_neverNow_34 : decode cX7_neverNow 34 = .ok (.ior, 1) := by decide +kernel
theorem dX7_neverNow_35 : decode cX7_neverNow 35 = .ok (.istore_n 1, 1) := by decide +kernel
theorem dX7_neverNow_36 : decode cX7_neverNow 36 = .ok (.iinc 2 1, 3) := by decide +kernel
theorem dX7_neverNow_39 : decode cX7_neverNow 39 = .ok (.goto (-35), 3) := by decide +kernel
theorem dX7_neverNow_42 : decode cX7_neverNow 42 = .ok (.aload_n 0, 1) := by decide +kernel
theorem dX7_neverNow_43 : decode cX7_neverNow 43 = .ok (.iconst 0, 1) := by decide +kernel
theorem dX7_neverNow_44 : decode cX7_neverNow 44 = .ok (.putfield 160, 3) := by decide +kernel
theorem dX7_neverNow_47 : decode cX7_neverNow 47 = .ok (.iload_n 1, 1) := by decide +kernel
theorem dX7_neverNow_48 : decode cX7_neverNow 48 = .ok (.ireturn, 1) := by decide +kernel
theorem dX7_never_0 : decode cX7_never 0 = .ok (.aload_n 0, 1) := by decide +kernel
theorem dX7_never_1 : decode cX7_never 1 = .ok (.invokevirtual 204, 3) := by decide +kernel
theorem dX7_never_4 : decode cX7_never 4 = .ok (.aload_n 0, 1) := by decide +kernel
theorem dX7_never_5 : decode cX7_never 5 = .ok (.invokevirtual 258, 3) := by decide +kernel
theorem dX7_never_8 : decode cX7_never 8 = .ok (.ireturn, 1) := by decide +kernel
theorem dX7_wasteOf_0 : decode cX7_wasteOf 0 = .ok (.aload_n 0, 1) := by decide +kernel
theorem dX7_wasteOf_1 : decode cX7_wasteOf 1 = .ok (.getfield 28, 3) := by decide +kernel
theorem dX7_wasteOf_4 : decode cX7_wasteOf 4 = .ok (.iconst 2, 1) := by decide +kernel
theorem dX7_wasteOf_5 : decode cX7_wasteOf 5 = .ok (.iload_n 1, 1) := by decide +kernel
theorem dX7_wasteOf_6 : decode cX7_wasteOf 6 = .ok (.imul, 1) := by decide +kernel
theorem dX7_wasteOf_7 : decode cX7_wasteOf 7 = .ok (.iconst 1, 1) := by decide +kernel
theorem dX7_wasteOf_8 : decode cX7_wasteOf 8 = .ok (.iadd, 1) := by decide +kernel
theorem dX7_wasteOf_9 : decode cX7_wasteOf 9 = .ok (.iaload, 1) := by decide +kernel
theorem dX7_wasteOf_10 : decode cX7_wasteOf 10 = .ok (.istore_n 2, 1) := by decide +kernel
theorem dX7_wasteOf_11 : decode cX7_wasteOf 11 = .ok (.iconst 0, 1) := by decide +kernel
theorem dX7_wasteOf_12 : decode cX7_wasteOf 12 = .ok (.istore_n 3, 1) := by decide +kernel
theorem dX7_wasteOf_13 : decode cX7_wasteOf 13 = .ok (.iconst 0, 1) := by decide +kernel
theorem dX7_wasteOf_14 : decode cX7_wasteOf 14 = .ok (.istore 4, 2) := by decide +kernel
theorem dX7_wasteOf_16 : decode cX7_wasteOf 16 = .ok (.iload 4, 2) := by decide +kernel
theorem dX7_wasteOf_18 : decode cX7_wasteOf 18 = .ok (.iconst 4, 1) := by decide +kernel
theorem dX7_wasteOf_19 : decode cX7_wasteOf 19 = .ok (.if_icmp .ge 77, 3) := by decide +kernel
theorem dX7_wasteOf_22 : decode cX7_wasteOf 22 = .ok (.aload_n 0, 1) := by decide +kernel
theorem dX7_wasteOf_23 : decode cX7_wasteOf 23 = .ok (.getfield 28, 3) := by decide +kernel
theorem dX7_wasteOf_26 : decode cX7_wasteOf 26 = .ok (.iconst 2, 1) := by decide +kernel
theorem dX7_wasteOf_27 : decode cX7_wasteOf 27 = .ok (.iload_n 1, 1) := by decide +kernel
theorem dX7_wasteOf_28 : decode cX7_wasteOf 28 = .ok (.imul, 1) := by decide +kernel
theorem dX7_wasteOf_29 : decode cX7_wasteOf 29 = .ok (.iconst 1, 1) := by decide +kernel
theorem dX7_wasteOf_30 : decode cX7_wasteOf 30 = .ok (.iadd, 1) := by decide +kernel
theorem dX7_wasteOf_31 : decode cX7_wasteOf 31 = .ok (.iload 4, 2) := by decide +kernel
theorem dX7_wasteOf_33 : decode cX7_wasteOf 33 = .ok (.iastore, 1) := by decide +kernel
theorem dX7_wasteOf_34 : decode cX7_wasteOf 34 = .ok (.iload_n 3, 1) := by decide +kernel
theorem dX7_wasteOf_35 : decode cX7_wasteOf 35 = .ok (.aload_n 0, 1) := by decide +kernel
theorem dX7_wasteOf_36 : decode cX7_wasteOf 36 = .ok (.invokevirtual 254, 3) := by decide +kernel
theorem dX7_wasteOf_39 : decode cX7_wasteOf 39 = .ok (.ifCond .eq 10, 3) := by decide +kernel
theorem dX7_wasteOf_42 : decode cX7_wasteOf 42 = .ok (.iconst 1, 1) := by decide +kernel
theorem dX7_wasteOf_43 : decode cX7_wasteOf 43 = .ok (.iload 4, 2) := by decide +kernel
theorem dX7_wasteOf_45 : decode cX7_wasteOf 45 = .ok (.ishl, 1) := by decide +kernel
theorem dX7_wasteOf_46 : decode cX7_wasteOf 46 = .ok (.goto 4, 3) := by decide +kernel
theorem dX7_wasteOf_49 : decode cX7_wasteOf 49 = .ok (.iconst 0, 1) := by decide +kernel
theorem dX7_wasteOf_50 : decode cX7_wasteOf 50 = .ok (.ior, 1) := by decide +kernel
theorem dX7_wasteOf_51 : decode cX7_wasteOf 51 = .ok (.istore_n 3, 1) := by decide +kernel
theorem dX7_wasteOf_52 : decode cX7_wasteOf 52 = .ok (.iconst 0, 1) := by decide +kernel
theorem dX7_wasteOf_53 : decode cX7_wasteOf 53 = .ok (.istore 5, 2) := by decide +kernel
theorem dX7_wasteOf_55 : decode cX7_wasteOf 55 = .ok (.iload 5, 2) := by decide +kernel
theorem dX7_wasteOf_57 : decode cX7_wasteOf 57 = .ok (.aload_n 0, 1) := by decide +kernel
theorem dX7_wasteOf_58 : decode cX7_wasteOf 58 = .ok (.getfield 124, 3) := by decide +kernel
theorem dX7_wasteOf_61 : decode cX7_wasteOf 61 = .ok (.if_icmp .ge 29, 3) := by decide +kernel
theorem dX7_wasteOf_64 : decode cX7_wasteOf 64 = .ok (.aload_n 0, 1) := by decide +kernel
theorem dX7_wasteOf_65 : decode cX7_wasteOf 65 = .ok (.getfield 64, 3) := by decide +kernel
theorem dX7_wasteOf_68 : decode cX7_wasteOf 68 = .ok (.bipush 16, 2) := by decide +kernel
theorem dX7_wasteOf_70 : decode cX7_wasteOf 70 = .ok (.iload 4, 2) := by decide +kernel
theorem dX7_wasteOf_72 : decode cX7_wasteOf 72 = .ok (.imul, 1) := by decide +kernel
theorem dX7_wasteOf_73 : decode cX7_wasteOf 73 = .ok (.iload 5, 2) := by decide +kernel
theorem dX7_wasteOf_75 : decode cX7_wasteOf 75 = .ok (.iadd, 1) := by decide +kernel
theorem dX7_wasteOf_76 : decode cX7_wasteOf 76 = .ok (.aload_n 0, 1) := by decide +kernel
theorem dX7_wasteOf_77 : decode cX7_wasteOf 77 = .ok (.getfield 46, 3) := by decide +kernel
theorem dX7_wasteOf_80 : decode cX7_wasteOf 80 = .ok (.iload 5, 2) := by decide +kernel
theorem dX7_wasteOf_82 : decode cX7_wasteOf 82 = .ok (.iaload, 1) := by decide +kernel
theorem dX7_wasteOf_83 : decode cX7_wasteOf 83 = .ok (.iastore, 1) := by decide +kernel
theorem dX7_wasteOf_84 : decode cX7_wasteOf 84 = .ok (.iinc 5 1, 3) := by decide +kernel
theorem dX7_wasteOf_87 : decode cX7_wasteOf 87 = .ok (.goto (-32), 3) := by decide +kernel
theorem dX7_wasteOf_90 : decode cX7_wasteOf 90 = .ok (.iinc 4 1, 3) := by decide +kernel
theorem dX7_wasteOf_93 : decode cX7_wasteOf 93 = .ok (.goto (-77), 3) := by decide +kernel
theorem dX7_wasteOf_96 : decode cX7_wasteOf 96 = .ok (.aload_n 0, 1) := by decide +kernel
theorem dX7_wasteOf_97 : decode cX7_wasteOf 97 = .ok (.getfield 28, 3) := by decide +kernel
theorem dX7_wasteOf_100 : decode cX7_wasteOf 100 = .ok (.iconst 2, 1) := by decide +kernel
theorem dX7_wasteOf_101 : decode cX7_wasteOf 101 = .ok (.iload_n 1, 1) := by decide +kernel
theorem dX7_wasteOf_102 : decode cX7_wasteOf 102 = .ok (.imul, 1) := by decide +kernel
theorem dX7_wasteOf_103 : decode cX7_wasteOf 103 = .ok (.iconst 1, 1) := by decide +kernel
theorem dX7_wasteOf_104 : decode cX7_wasteOf 104 = .ok (.iadd, 1) := by decide +kernel
theorem dX7_wasteOf_105 : decode cX7_wasteOf 105 = .ok (.iload_n 2, 1) := by decide +kernel
theorem dX7_wasteOf_106 : decode cX7_wasteOf 106 = .ok (.iastore, 1) := by decide +kernel
theorem dX7_wasteOf_107 : decode cX7_wasteOf 107 = .ok (.iload_n 3, 1) := by decide +kernel
theorem dX7_wasteOf_108 : decode cX7_wasteOf 108 = .ok (.ireturn, 1) := by decide +kernel
theorem dX7_sortOf_0 : decode cX7_sortOf 0 = .ok (.aload_n 0, 1) := by decide +kernel
theorem dX7_sortOf_1 : decode cX7_sortOf 1 = .ok (.getfield 28, 3) := by decide +kernel
theorem dX7_sortOf_4 : decode cX7_sortOf 4 = .ok (.iconst 2, 1) := by decide +kernel
theorem dX7_sortOf_5 : decode cX7_sortOf 5 = .ok (.iload_n 1, 1) := by decide +kernel
theorem dX7_sortOf_6 : decode cX7_sortOf 6 = .ok (.imul, 1) := by decide +kernel
theorem dX7_sortOf_7 : decode cX7_sortOf 7 = .ok (.iaload, 1) := by decide +kernel
theorem dX7_sortOf_8 : decode cX7_sortOf 8 = .ok (.istore_n 2, 1) := by decide +kernel
theorem dX7_sortOf_9 : decode cX7_sortOf 9 = .ok (.iconst 0, 1) := by decide +kernel
theorem dX7_sortOf_10 : decode cX7_sortOf 10 = .ok (.istore_n 3, 1) := by decide +kernel
theorem dX7_sortOf_11 : decode cX7_sortOf 11 = .ok (.iconst 0, 1) := by decide +kernel
theorem dX7_sortOf_12 : decode cX7_sortOf 12 = .ok (.istore 4, 2) := by decide +kernel
theorem dX7_sortOf_14 : decode cX7_sortOf 14 = .ok (.iload 4, 2) := by decide +kernel
theorem dX7_sortOf_16 : decode cX7_sortOf 16 = .ok (.iconst 3, 1) := by decide +kernel
theorem dX7_sortOf_17 : decode cX7_sortOf 17 = .ok (.if_icmp .ge 37, 3) := by decide +kernel
theorem dX7_sortOf_20 : decode cX7_sortOf 20 = .ok (.aload_n 0, 1) := by decide +kernel
theorem dX7_sortOf_21 : decode cX7_sortOf 21 = .ok (.getfield 28, 3) := by decide +kernel
theorem dX7_sortOf_24 : decode cX7_sortOf 24 = .ok (.iconst 2, 1) := by decide +kernel
theorem dX7_sortOf_25 : decode cX7_sortOf 25 = .ok (.iload_n 1, 1) := by decide +kernel
theorem dX7_sortOf_26 : decode cX7_sortOf 26 = .ok (.imul, 1) := by decide +kernel
theorem dX7_sortOf_27 : decode cX7_sortOf 27 = .ok (.iload 4, 2) := by decide +kernel
theorem dX7_sortOf_29 : decode cX7_sortOf 29 = .ok (.iastore, 1) := by decide +kernel
theorem dX7_sortOf_30 : decode cX7_sortOf 30 = .ok (.iload_n 3, 1) := by decide +kernel
theorem dX7_sortOf_31 : decode cX7_sortOf 31 = .ok (.aload_n 0, 1) := by decide +kernel
theorem dX7_sortOf_32 : decode cX7_sortOf 32 = .ok (.invokevirtual 254, 3) := by decide +kernel
theorem dX7_sortOf_35 : decode cX7_sortOf 35 = .ok (.ifCond .eq 10, 3) := by decide +kernel
theorem dX7_sortOf_38 : decode cX7_sortOf 38 = .ok (.iconst 1, 1) := by decide +kernel
theorem dX7_sortOf_39 : decode cX7_sortOf 39 = .ok (.iload 4, 2) := by decide +kernel
theorem dX7_sortOf_41 : decode cX7_sortOf 41 = .ok (.ishl, 1) := by decide +kernel
theorem dX7_sortOf_42 : decode cX7_sortOf 42 = .ok (.goto 4, 3) := by decide +kernel
theorem dX7_sortOf_45 : decode cX7_sortOf 45 = .ok (.iconst 0, 1) := by decide +kernel
theorem dX7_sortOf_46 : decode cX7_sortOf 46 = .ok (.ior, 1) := by decide +kernel
theorem dX7_sortOf_47 : decode cX7_sortOf 47 = .ok (.istore_n 3, 1) := by decide +kernel
theorem dX7_sortOf_48 : decode cX7_sortOf 48 = .ok (.iinc 4 1, 3) := by decide +kernel
theorem dX7_sortOf_51 : decode cX7_sortOf 51 = .ok (.goto (-37), 3) := by decide +kernel
theorem dX7_sortOf_54 : decode cX7_sortOf 54 = .ok (.aload_n 0, 1) := by decide +kernel
theorem dX7_sortOf_55 : decode cX7_sortOf 55 = .ok (.getfield 28, 3) := by decide +kernel
theorem dX7_sortOf_58 : decode cX7_sortOf 58 = .ok (.iconst 2, 1) := by decide +kernel
theorem dX7_sortOf_59 : decode cX7_sortOf 59 = .ok (.iload_n 1, 1) := by decide +kernel
theorem dX7_sortOf_60 : decode cX7_sortOf 60 = .ok (.imul, 1) := by decide +kernel
theorem dX7_sortOf_61 : decode cX7_sortOf 61 = .ok (.iload_n 2, 1) := by decide +kernel
theorem dX7_sortOf_62 : decode cX7_sortOf 62 = .ok (.iastore, 1) := by decide +kernel
theorem dX7_sortOf_63 : decode cX7_sortOf 63 = .ok (.iload_n 3, 1) := by decide +kernel
theorem dX7_sortOf_64 : decode cX7_sortOf 64 = .ok (.ireturn, 1) := by decide +kernel
theorem dX7_wasOf_0 : decode cX7_wasOf 0 = .ok (.iload_n 2, 1) := by decide +kernel
theorem dX7_wasOf_1 : decode cX7_wasOf 1 = .ok (.ifCond .ne 11, 3) := by decide +kernel
theorem dX7_wasOf_4 : decode cX7_wasOf 4 = .ok (.aload_n 0, 1) := by decide +kernel
theorem dX7_wasOf_5 : decode cX7_wasOf 5 = .ok (.iload_n 1, 1) := by decide +kernel
theorem dX7_wasOf_6 : decode cX7_wasOf 6 = .ok (.invokevirtual 261, 3) := by decide +kernel
theorem dX7_wasOf_9 : decode cX7_wasOf 9 = .ok (.goto 8, 3) := by decide +kernel
theorem dX7_wasOf_12 : decode cX7_wasOf 12 = .ok (.aload_n 0, 1) := by decide +kernel
theorem dX7_wasOf_13 : decode cX7_wasOf 13 = .ok (.iload_n 1, 1) := by decide +kernel
theorem dX7_wasOf_14 : decode cX7_wasOf 14 = .ok (.invokevirtual 264, 3) := by decide +kernel
theorem dX7_wasOf_17 : decode cX7_wasOf 17 = .ok (.ireturn, 1) := by decide +kernel
theorem dX7_was_0 : decode cX7_was 0 = .ok (.aload_n 0, 1) := by decide +kernel
theorem dX7_was_1 : decode cX7_was 1 = .ok (.invokevirtual 204, 3) := by decide +kernel
theorem dX7_was_4 : decode cX7_was 4 = .ok (.aload_n 0, 1) := by decide +kernel
theorem dX7_was_5 : decode cX7_was 5 = .ok (.iload_n 1, 1) := by decide +kernel
theorem dX7_was_6 : decode cX7_was 6 = .ok (.invokevirtual 142, 3) := by decide +kernel
theorem dX7_was_9 : decode cX7_was 9 = .ok (.ifCond .eq 19, 3) := by decide +kernel
theorem dX7_was_12 : decode cX7_was 12 = .ok (.iload_n 2, 1) := by decide +kernel
theorem dX7_was_13 : decode cX7_was 13 = .ok (.invokestatic 104, 3) := by decide +kernel
theorem dX7_was_16 : decode cX7_was 16 = .ok (.ifCond .eq 12, 3) := by decide +kernel
theorem dX7_was_19 : decode cX7_was 19 = .ok (.aload_n 0, 1) := by decide +kernel
theorem dX7_was_20 : decode cX7_was 20 = .ok (.iload_n 1, 1) := by decide +kernel
theorem dX7_was_21 : decode cX7_was 21 = .ok (.iload_n 2, 1) := by decide +kernel
theorem dX7_was_22 : decode cX7_was 22 = .ok (.invokevirtual 267, 3) := by decide +kernel
theorem dX7_was_25 : decode cX7_was 25 = .ok (.goto 5, 3) := by decide +kernel
theorem dX7_was_28 : decode cX7_was 28 = .ok (.bipush (-2), 2) := by decide +kernel
theorem dX7_was_30 : decode cX7_was 30 = .ok (.ireturn, 1) := by decide +kernel
theorem dX7_alike_0 : decode cX7_alike 0 = .ok (.iconst 0, 1) := by decide +kernel
theorem dX7_alike_1 : decode cX7_alike 1 = .ok (.istore_n 3, 1) := by decide +kernel
theorem dX7_alike_2 : decode cX7_alike 2 = .ok (.iconst 0, 1) := by decide +kernel
theorem dX7_alike_3 : decode cX7_alike 3 = .ok (.istore 4, 2) := by decide +kernel
theorem dX7_alike_5 : decode cX7_alike 5 = .ok (.iload 4, 2) := by decide +kernel
theorem dX7_alike_7 : decode cX7_alike 7 = .ok (.iconst 4, 1) := by decide +kernel
theorem dX7_alike_8 : decode cX7_alike 8 = .ok (.if_icmp .ge 89, 3) := by decide +kernel
theorem dX7_alike_11 : decode cX7_alike 11 = .ok (.iconst 0, 1) := by decide +kernel
theorem dX7_alike_12 : decode cX7_alike 12 = .ok (.istore 5, 2) := by decide +kernel
theorem dX7_alike_14 : decode cX7_alike 14 = .ok (.iconst 0, 1) := by decide +kernel
theorem dX7_alike_15 : decode cX7_alike 15 = .ok (.istore 6, 2) := by decide +kernel
theorem dX7_alike_17 : decode cX7_alike 17 = .ok (.iload 6, 2) := by decide +kernel
theorem dX7_alike_19 : decode cX7_alike 19 = .ok (.iconst 4, 1) := by decide +kernel
theorem dX7_alike_20 : decode cX7_alike 20 = .ok (.if_icmp .ge 64, 3) := by decide +kernel
theorem dX7_alike_23 : decode cX7_alike 23 = .ok (.iload 5, 2) := by decide +kernel
theorem dX7_alike_25 : decode cX7_alike 25 = .ok (.iload_n 1, 1) := by decide +kernel
theorem dX7_alike_26 : decode cX7_alike 26 = .ok (.iload 4, 2) := by decide +kernel
theorem dX7_alike_28 : decode cX7_alike 28 = .ok (.invokestatic 163, 3) := by decide +kernel
theorem dX7_alike_31 : decode cX7_alike 31 = .ok (.ifCond .eq 43, 3) := by decide +kernel
theorem dX7_alike_34 : decode cX7_alike 34 = .ok (.iload_n 1, 1) := by decide +kernel
theorem dX7_alike_35 : decode cX7_alike 35 = .ok (.iload 6, 2) := by decide +kernel
theorem dX7_alike_37 : decode cX7_alike 37 = .ok (.invokestatic 163, 3) := by decide +kernel
theorem dX7_alike_40 : decode cX7_alike 40 = .ok (.ifCond .eq 34, 3) := by decide +kernel
theorem dX7_alike_43 : decode cX7_alike 43 = .ok (.aload_n 0, 1) := by decide +kernel
theorem dX7_alike_44 : decode cX7_alike 44 = .ok (.getfield 64, 3) := by decide +kernel
theorem dX7_alike_47 : decode cX7_alike 47 = .ok (.bipush 16, 2) := by decide +kernel
theorem dX7_alike_49 : decode cX7_alike 49 = .ok (.iload 4, 2) := by decide +kernel
theorem dX7_alike_51 : decode cX7_alike 51 = .ok (.imul, 1) := by decide +kernel
theorem dX7_alike_52 : decode cX7_alike 52 = .ok (.iload_n 2, 1) := by decide +kernel
theorem dX7_alike_53 : decode cX7_alike 53 = .ok (.iadd, 1) := by decide +kernel
theorem dX7_alike_54 : decode cX7_alike 54 = .ok (.iaload, 1) := by decide +kernel
theorem dX7_alike_55 : decode cX7_alike 55 = .ok (.aload_n 0, 1) := by decide +kernel
theorem dX7_alike_56 : decode cX7_alike 56 = .ok (.getfield 64, 3) := by decide +kernel
theorem dX7_alike_59 : decode cX7_alike 59 = .ok (.bipush 16, 2) := by decide +kernel
theorem dX7_alike_61 : decode cX7_alike 61 = .ok (.iload 6, 2) := by decide +kernel
theorem dX7_alike_63 : decode cX7_alike 63 = .ok (.imul, 1) := by decide +kernel
theorem dX7_alike_64 : decode cX7_alike 64 = .ok (.iload_n 2, 1) := by decide +kernel
theorem dX7_alike_65 : decode cX7_alike 65 = .ok (.iadd, 1) := by decide +kernel
theorem dX7_alike_66 : decode cX7_alike 66 = .ok (.iaload, 1) := by decide +kernel
theorem dX7_alike_67 : decode cX7_alike 67 = .ok (.if_icmp .ne 7, 3) := by decide +kernel
theorem dX7_alike_70 : decode cX7_alike 70 = .ok (.iconst 1, 1) := by decide +kernel
theorem dX7_alike_71 : decode cX7_alike 71 = .ok (.goto 4, 3) := by decide +kernel
theorem dX7_alike_74 : decode cX7_alike 74 = .ok (.iconst 0, 1) := by decide +kernel
theorem dX7_alike_75 : decode cX7_alike 75 = .ok (.iadd, 1) := by decide +kernel
theorem dX7_alike_76 : decode cX7_alike 76 = .ok (.istore 5, 2) := by decide +kernel
theorem dX7_alike_78 : decode cX7_alike 78 = .ok (.iinc 6 1, 3) := by decide +kernel
theorem dX7_alike_81 : decode cX7_alike 81 = .ok (.goto (-64), 3) := by decide +kernel
theorem dX7_alike_84 : decode cX7_alike 84 = .ok (.iload 5, 2) := by decide +kernel
theorem dX7_alike_86 : decode cX7_alike 86 = .ok (.iload_n 3, 1) := by decide +kernel
theorem dX7_alike_87 : decode cX7_alike 87 = .ok (.invokestatic 228, 3) := by decide +kernel
theorem dX7_alike_90 : decode cX7_alike 90 = .ok (.istore_n 3, 1) := by decide +kernel
theorem dX7_alike_91 : decode cX7_alike 91 = .ok (.iinc 4 1, 3) := by decide +kernel
theorem dX7_alike_94 : decode cX7_alike 94 = .ok (.goto (-89), 3) := by decide +kernel
theorem dX7_alike_97 : decode cX7_alike 97 = .ok (.iload_n 3, 1) := by decide +kernel
theorem dX7_alike_98 : decode cX7_alike 98 = .ok (.ireturn, 1) := by decide +kernel
theorem dX7_askOf_0 : decode cX7_askOf 0 = .ok (.aload_n 0, 1) := by decide +kernel
theorem dX7_askOf_1 : decode cX7_askOf 1 = .ok (.iload_n 1, 1) := by decide +kernel
theorem dX7_askOf_2 : decode cX7_askOf 2 = .ok (.invokevirtual 261, 3) := by decide +kernel
theorem dX7_askOf_5 : decode cX7_askOf 5 = .ok (.istore_n 2, 1) := by decide +kernel
theorem dX7_askOf_6 : decode cX7_askOf 6 = .ok (.aload_n 0, 1) := by decide +kernel
theorem dX7_askOf_7 : decode cX7_askOf 7 = .ok (.getfield 124, 3) := by decide +kernel
theorem dX7_askOf_10 : decode cX7_askOf 10 = .ok (.ifCond .le 7, 3) := by decide +kernel
theorem dX7_askOf_13 : decode cX7_askOf 13 = .ok (.iconst 0, 1) := by decide +kernel
theorem dX7_askOf_14 : decode cX7_askOf 14 = .ok (.goto 4, 3) := by decide +kernel
theorem dX7_askOf_17 : decode cX7_askOf 17 = .ok (.iconst (-1), 1) := by decide +kernel
theorem dX7_askOf_18 : decode cX7_askOf 18 = .ok (.istore_n 3, 1) := by decide +kernel
theorem dX7_askOf_19 : decode cX7_askOf 19 = .ok (.iconst 1, 1) := by decide +kernel
theorem dX7_askOf_20 : decode cX7_askOf 20 = .ok (.istore 4, 2) := by decide +kernel
theorem dX7_askOf_22 : decode cX7_askOf 22 = .ok (.iload 4, 2) := by decide +kernel
theorem dX7_askOf_24 : decode cX7_askOf 24 = .ok (.aload_n 0, 1) := by decide +kernel
theorem dX7_askOf_25 : decode cX7_askOf 25 = .ok (.getfield 124, 3) := by decide +kernel
theorem dX7_askOf_28 : decode cX7_askOf 28 = .ok (.if_icmp .ge 32, 3) := by decide +kernel
theorem dX7_askOf_31 : decode cX7_askOf 31 = .ok (.aload_n 0, 1) := by decide +kernel
theorem dX7_askOf_32 : decode cX7_askOf 32 = .ok (.iload_n 2, 1) := by decide +kernel
theorem dX7_askOf_33 : decode cX7_askOf 33 = .ok (.iload 4, 2) := by decide +kernel
theorem dX7_askOf_35 : decode cX7_askOf 35 = .ok (.invokevirtual 270, 3) := by decide +kernel
theorem dX7_askOf_38 : decode cX7_askOf 38 = .ok (.aload_n 0, 1) := by decide +kernel
theorem dX7_askOf_39 : decode cX7_askOf 39 = .ok (.iload_n 2, 1) := by decide +kernel
theorem dX7_askOf_40 : decode cX7_askOf 40 = .ok (.iload_n 3, 1) := by decide +kernel
theorem dX7_askOf_41 : decode cX7_askOf 41 = .ok (.invokevirtual 270, 3) := by decide +kernel
theorem dX7_askOf_44 : decode cX7_askOf 44 = .ok (.if_icmp .ge 8, 3) := by decide +kernel
theorem dX7_askOf_47 : decode cX7_askOf 47 = .ok (.iload 4, 2) := by decide +kernel
theorem dX7_askOf_49 : decode cX7_askOf 49 = .ok (.goto 4, 3) := by decide +kernel
theorem dX7_askOf_52 : decode cX7_askOf 52 = .ok (.iload_n 3, 1) := by decide +kernel
theorem dX7_askOf_53 : decode cX7_askOf 53 = .ok (.istore_n 3, 1) := by decide +kernel
theorem dX7_askOf_54 : decode cX7_askOf 54 = .ok (.iinc 4 1, 3) := by decide +kernel
theorem dX7_askOf_57 : decode cX7_askOf 57 = .ok (.goto (-35), 3) := by decide +kernel
theorem dX7_askOf_60 : decode cX7_askOf 60 = .ok (.iload_n 3, 1) := by decide +kernel
theorem dX7_askOf_61 : decode cX7_askOf 61 = .ok (.ireturn, 1) := by decide +kernel
theorem dX7_ask_0 : decode cX7_ask 0 = .ok (.aload_n 0, 1) := by decide +kernel
theorem dX7_ask_1 : decode cX7_ask 1 = .ok (.invokevirtual 204, 3) := by decide +kernel
theorem dX7_ask_4 : decode cX7_ask 4 = .ok (.aload_n 0, 1) := by decide +kernel
theorem dX7_ask_5 : decode cX7_ask 5 = .ok (.iload_n 1, 1) := by decide +kernel
theorem dX7_ask_6 : decode cX7_ask 6 = .ok (.invokevirtual 142, 3) := by decide +kernel
theorem dX7_ask_9 : decode cX7_ask 9 = .ok (.ifCond .eq 11, 3) := by decide +kernel
theorem dX7_ask_12 : decode cX7_ask 12 = .ok (.aload_n 0, 1) := by decide +kernel
theorem dX7_ask_13 : decode cX7_ask 13 = .ok (.iload_n 1, 1) := by decide +kernel
theorem dX7_ask_14 : decode cX7_ask 14 = .ok (.invokevirtual 273, 3) := by decide +kernel
theorem dX7_ask_17 : decode cX7_ask 17 = .ok (.goto 5, 3) := by decide +kernel
theorem dX7_ask_20 : decode cX7_ask 20 = .ok (.bipush (-2), 2) := by decide +kernel
theorem dX7_ask_22 : decode cX7_ask 22 = .ok (.ireturn, 1) := by decide +kernel
theorem dX7_chanceOf_0 : decode cX7_chanceOf 0 = .ok (.lconst 0, 1) := by decide +kernel
theorem dX7_chanceOf_1 : decode cX7_chanceOf 1 = .ok (.lstore 4, 2) := by decide +kernel
theorem dX7_chanceOf_3 : decode cX7_chanceOf 3 = .ok (.iconst 0, 1) := by decide +kernel
theorem dX7_chanceOf_4 : decode cX7_chanceOf 4 = .ok (.istore 6, 2) := by decide +kernel
theorem dX7_chanceOf_6 : decode cX7_chanceOf 6 = .ok (.iload 6, 2) := by decide +kernel
theorem dX7_chanceOf_8 : decode cX7_chanceOf 8 = .ok (.iconst 1, 1) := by decide +kernel
theorem dX7_chanceOf_9 : decode cX7_chanceOf 9 = .ok (.aload_n 0, 1) := by decide +kernel
theorem dX7_chanceOf_10 : decode cX7_chanceOf 10 = .ok (.getfield 155, 3) := by decide +kernel
theorem dX7_chanceOf_13 : decode cX7_chanceOf 13 = .ok (.ishl, 1) := by decide +kernel
theorem dX7_chanceOf_14 : decode cX7_chanceOf 14 = .ok (.if_icmp .ge 85, 3) := by decide +kernel
theorem dX7_chanceOf_17 : decode cX7_chanceOf 17 = .ok (.aload_n 0, 1) := by decide +kernel
theorem dX7_chanceOf_18 : decode cX7_chanceOf 18 = .ok (.iload 6, 2) := by decide +kernel
theorem dX7_chanceOf_20 : decode cX7_chanceOf 20 = .ok (.putfield 160, 3) := by decide +kernel
theorem dX7_chanceOf_23 : decode cX7_chanceOf 23 = .ok (.aload_n 0, 1) := by decide +kernel
theorem dX7_chanceOf_24 : decode cX7_chanceOf 24 = .ok (.invokevirtual 201, 3) := by decide +kernel
theorem dX7_chanceOf_27 : decode cX7_chanceOf 27 = .ok (.aload_n 0, 1) := by decide +kernel
theorem dX7_chanceOf_28 : decode cX7_chanceOf 28 = .ok (.getfield 46, 3) := by decide +kernel
theorem dX7_chanceOf_31 : decode cX7_chanceOf 31 = .ok (.iload_n 2, 1) := by decide +kernel
theorem dX7_chanceOf_32 : decode cX7_chanceOf 32 = .ok (.iaload, 1) := by decide +kernel
theorem dX7_chanceOf_33 : decode cX7_chanceOf 33 = .ok (.ifCond .le 7, 3) := by decide +kernel
theorem dX7_chanceOf_36 : decode cX7_chanceOf 36 = .ok (.lconst 1, 1) := by decide +kernel
theorem dX7_chanceOf_37 : decode cX7_chanceOf 37 = .ok (.goto 4, 3) := by decide +kernel
theorem dX7_chanceOf_40 : decode cX7_chanceOf 40 = .ok (.lconst 0, 1) := by decide +kernel
theorem dX7_chanceOf_41 : decode cX7_chanceOf 41 = .ok (.lstore 7, 2) := by decide +kernel
theorem dX7_chanceOf_43 : decode cX7_chanceOf 43 = .ok (.iconst 0, 1) := by decide +kernel
theorem dX7_chanceOf_44 : decode cX7_chanceOf 44 = .ok (.istore 9, 2) := by decide +kernel
theorem dX7_chanceOf_46 : decode cX7_chanceOf 46 = .ok (.iload 9, 2) := by decide +kernel
theorem dX7_chanceOf_48 : decode cX7_chanceOf 48 = .ok (.aload_n 0, 1) := by decide +kernel
theorem dX7_chanceOf_49 : decode cX7_chanceOf 49 = .ok (.getfield 155, 3) := by decide +kernel
theorem dX7_chanceOf_52 : decode cX7_chanceOf 52 = .ok (.if_icmp .ge 34, 3) := by decide +kernel
theorem dX7_chanceOf_55 : decode cX7_chanceOf 55 = .ok (.lload 7, 2) := by decide +kernel
theorem dX7_chanceOf_57 : decode cX7_chanceOf 57 = .ok (.iload 6, 2) := by decide +kernel
theorem dX7_chanceOf_59 : decode cX7_chanceOf 59 = .ok (.iload 9, 2) := by decide +kernel
theorem dX7_chanceOf_61 : decode cX7_chanceOf 61 = .ok (.invokestatic 163, 3) := by decide +kernel
theorem dX7_chanceOf_64 : decode cX7_chanceOf 64 = .ok (.ifCond .eq 11, 3) := by decide +kernel
theorem dX7_chanceOf_67 : decode cX7_chanceOf 67 = .ok (.bipush 16, 2) := by decide +kernel
theorem dX7_chanceOf_69 : decode cX7_chanceOf 69 = .ok (.iload_n 1, 1) := by decide +kernel
theorem dX7_chanceOf_70 : decode cX7_chanceOf 70 = .ok (.isub, 1) := by decide +kernel
theorem dX7_chanceOf_71 : decode cX7_chanceOf 71 = .ok (.i2l, 1) := by decide +kernel
theorem dX7_chanceOf_72 : decode cX7_chanceOf 72 = .ok (.goto 5, 3) := by decide +kernel
theorem dX7_chanceOf_75 : decode cX7_chanceOf 75 = .ok (.iload_n 1, 1) := by decide +kernel
theorem dX7_chanceOf_76 : decode cX7_chanceOf 76 = .ok (.i2l, 1) := by decide +kernel
theorem dX7_chanceOf_77 : decode cX7_chanceOf 77 = .ok (.lmul, 1) := by decide +kernel
theorem dX7_chanceOf_78 : decode cX7_chanceOf 78 = .ok (.lstore 7, 2) := by decide +kernel
theorem dX7_chanceOf_80 : decode cX7_chanceOf 80 = .ok (.iinc 9 1, 3) := by decide +kernel
theorem dX7_chanceOf_83 : decode cX7_chanceOf 83 = .ok (.goto (-37), 3) := by decide +kernel
theorem dX7_chanceOf_86 : decode cX7_chanceOf 86 = .ok (.lload 4, 2) := by decide +kernel
theorem dX7_chanceOf_88 : decode cX7_chanceOf 88 = .ok (.lload 7, 2) := by decide +kernel
theorem dX7_chanceOf_90 : decode cX7_chanceOf 90 = .ok (.ladd, 1) := by decide +kernel
theorem dX7_chanceOf_91 : decode cX7_chanceOf 91 = .ok (.lstore 4, 2) := by decide +kernel
theorem dX7_chanceOf_93 : decode cX7_chanceOf 93 = .ok (.iinc 6 1, 3) := by decide +kernel
theorem dX7_chanceOf_96 : decode cX7_chanceOf 96 = .ok (.goto (-90), 3) := by decide +kernel
theorem dX7_chanceOf_99 : decode cX7_chanceOf 99 = .ok (.aload_n 0, 1) := by decide +kernel
theorem dX7_chanceOf_100 : decode cX7_chanceOf 100 = .ok (.iconst 0, 1) := by decide +kernel
theorem dX7_chanceOf_101 : decode cX7_chanceOf 101 = .ok (.putfield 160, 3) := by decide +kernel
theorem dX7_chanceOf_104 : decode cX7_chanceOf 104 = .ok (.lload 4, 2) := by decide +kernel
theorem dX7_chanceOf_106 : decode cX7_chanceOf 106 = .ok (.lconst 1, 1) := by decide +kernel
theorem dX7_chanceOf_107 : decode cX7_chanceOf 107 = .ok (.iconst 4, 1) := by decide +kernel
theorem dX7_chanceOf_108 : decode cX7_chanceOf 108 = .ok (.aload_n 0, 1) := by decide +kernel
theorem dX7_chanceOf_109 : decode cX7_chanceOf 109 = .ok (.getfield 155, 3) := by decide +kernel
theorem dX7_chanceOf_112 : decode cX7_chanceOf 112 = .ok (.imul, 1) := by decide +kernel
theorem dX7_chanceOf_113 : decode cX7_chanceOf 113 = .ok (.lshl, 1) := by decide +kernel
theorem dX7_chanceOf_114 : decode cX7_chanceOf 114 = .ok (.iload_n 3, 1) := by decide +kernel
theorem dX7_chanceOf_115 : decode cX7_chanceOf 115 = .ok (.invokestatic 276, 3) := by decide +kernel
theorem dX7_chanceOf_118 : decode cX7_chanceOf 118 = .ok (.lreturn, 1) := by decide +kernel
theorem dX7_chance_0 : decode cX7_chance 0 = .ok (.aload_n 0, 1) := by decide +kernel
theorem dX7_chance_1 : decode cX7_chance 1 = .ok (.invokevirtual 204, 3) := by decide +kernel
theorem dX7_chance_4 : decode cX7_chance 4 = .ok (.iload_n 1, 1) := by decide +kernel
theorem dX7_chance_5 : decode cX7_chance 5 = .ok (.i2l, 1) := by decide +kernel
theorem dX7_chance_6 : decode cX7_chance 6 = .ok (.lconst 0, 1) := by decide +kernel
theorem dX7_chance_7 : decode cX7_chance 7 = .ok (.ldc2_w 280, 3) := by decide +kernel
theorem dX7_chance_10 : decode cX7_chance 10 = .ok (.invokestatic 76, 3) := by decide +kernel
theorem dX7_chance_13 : decode cX7_chance 13 = .ok (.ifCond .eq 28, 3) := by decide +kernel
theorem dX7_chance_16 : decode cX7_chance 16 = .ok (.aload_n 0, 1) := by decide +kernel
theorem dX7_chance_17 : decode cX7_chance 17 = .ok (.iload_n 2, 1) := by decide +kernel
theorem dX7_chance_18 : decode cX7_chance 18 = .ok (.invokevirtual 210, 3) := by decide +kernel
theorem dX7_chance_21 : decode cX7_chance 21 = .ok (.ifCond .eq 20, 3) := by decide +kernel
theorem dX7_chance_24 : decode cX7_chance 24 = .ok (.iload_n 3, 1) := by decide +kernel
theorem dX7_chance_25 : decode cX7_chance 25 = .ok (.invokestatic 104, 3) := by decide +kernel
theorem dX7_chance_28 : decode cX7_chance 28 = .ok (.ifCond .eq 13, 3) := by decide +kernel
theorem dX7_chance_31 : decode cX7_chance 31 = .ok (.aload_n 0, 1) := by decide +kernel
theorem dX7_chance_32 : decode cX7_chance 32 = .ok (.iload_n 1, 1) := by decide +kernel
theorem dX7_chance_33 : decode cX7_chance 33 = .ok (.iload_n 2, 1) := by decide +kernel
theorem dX7_chance_34 : decode cX7_chance 34 = .ok (.iload_n 3, 1) := by decide +kernel
theorem dX7_chance_35 : decode cX7_chance 35 = .ok (.invokevirtual 282, 3) := by decide +kernel
theorem dX7_chance_38 : decode cX7_chance 38 = .ok (.goto 8, 3) := by decide +kernel
theorem dX7_chance_41 : decode cX7_chance 41 = .ok (.bipush (-2), 2) := by decide +kernel
theorem dX7_chance_43 : decode cX7_chance 43 = .ok (.invokestatic 286, 3) := by decide +kernel
theorem dX7_chance_46 : decode cX7_chance 46 = .ok (.lreturn, 1) := by decide +kernel
theorem dX7_lot_0 : decode cX7_lot 0 = .ok (.aload_n 0, 1) := by decide +kernel
theorem dX7_lot_1 : decode cX7_lot 1 = .ok (.ldc_w 290, 3) := by decide +kernel
theorem dX7_lot_4 : decode cX7_lot 4 = .ok (.aload_n 0, 1) := by decide +kernel
theorem dX7_lot_5 : decode cX7_lot 5 = .ok (.getfield 291, 3) := by decide +kernel
theorem dX7_lot_8 : decode cX7_lot 8 = .ok (.imul, 1) := by decide +kernel
theorem dX7_lot_9 : decode cX7_lot 9 = .ok (.sipush 12345, 3) := by decide +kernel
theorem dX7_lot_12 : decode cX7_lot 12 = .ok (.iadd, 1) := by decide +kernel
theorem dX7_lot_13 : decode cX7_lot 13 = .ok (.putfield 291, 3) := by decide +kernel
theorem dX7_lot_16 : decode cX7_lot 16 = .ok (.aload_n 0, 1) := by decide +kernel
theorem dX7_lot_17 : decode cX7_lot 17 = .ok (.getfield 291, 3) := by decide +kernel
theorem dX7_lot_20 : decode cX7_lot 20 = .ok (.bipush 16, 2) := by decide +kernel
theorem dX7_lot_22 : decode cX7_lot 22 = .ok (.iushr, 1) := by decide +kernel
theorem dX7_lot_23 : decode cX7_lot 23 = .ok (.iload_n 1, 1) := by decide +kernel
theorem dX7_lot_24 : decode cX7_lot 24 = .ok (.irem, 1) := by decide +kernel
theorem dX7_lot_25 : decode cX7_lot 25 = .ok (.ireturn, 1) := by decide +kernel
theorem dX7_yearsOf_0 : decode cX7_yearsOf 0 = .ok (.aload_n 0, 1) := by decide +kernel
theorem dX7_yearsOf_1 : decode cX7_yearsOf 1 = .ok (.iload_n 1, 1) := by decide +kernel
theorem dX7_yearsOf_2 : decode cX7_yearsOf 2 = .ok (.putfield 291, 3) := by decide +kernel
theorem dX7_yearsOf_5 : decode cX7_yearsOf 5 = .ok (.aload_n 0, 1) := by decide +kernel
theorem dX7_yearsOf_6 : decode cX7_yearsOf 6 = .ok (.iconst 0, 1) := by decide +kernel
theorem dX7_yearsOf_7 : decode cX7_yearsOf 7 = .ok (.putfield 124, 3) := by decide +kernel
theorem dX7_yearsOf_10 : decode cX7_yearsOf 10 = .ok (.iconst 0, 1) := by decide +kernel
theorem dX7_yearsOf_11 : decode cX7_yearsOf 11 = .ok (.istore 4, 2) := by decide +kernel
theorem dX7_yearsOf_13 : decode cX7_yearsOf 13 = .ok (.iload 4, 2) := by decide +kernel
theorem dX7_yearsOf_15 : decode cX7_yearsOf 15 = .ok (.iload_n 2, 1) := by decide +kernel
theorem dX7_yearsOf_16 : decode cX7_yearsOf 16 = .ok (.if_icmp .ge 60, 3) := by decide +kernel
theorem dX7_yearsOf_19 : decode cX7_yearsOf 19 = .ok (.aload_n 0, 1) := by decide +kernel
theorem dX7_yearsOf_20 : decode cX7_yearsOf 20 = .ok (.getfield 113, 3) := by decide +kernel
theorem dX7_yearsOf_23 : decode cX7_yearsOf 23 = .ok (.ifCond .le 53, 3) := by decide +kernel
theorem dX7_yearsOf_26 : decode cX7_yearsOf 26 = .ok (.aload_n 0, 1) := by decide +kernel
theorem dX7_yearsOf_27 : decode cX7_yearsOf 27 = .ok (.getfield 31, 3) := by decide +kernel
theorem dX7_yearsOf_30 : decode cX7_yearsOf 30 = .ok (.iconst 2, 1) := by decide +kernel
theorem dX7_yearsOf_31 : decode cX7_yearsOf 31 = .ok (.iload 4, 2) := by decide +kernel
theorem dX7_yearsOf_33 : decode cX7_yearsOf 33 = .ok (.imul, 1) := by decide +kernel
theorem dX7_yearsOf_34 : decode cX7_yearsOf 34 = .ok (.aload_n 0, 1) := by decide +kernel
theorem dX7_yearsOf_35 : decode cX7_yearsOf 35 = .ok (.bipush 24, 2) := by decide +kernel
theorem dX7_yearsOf_37 : decode cX7_yearsOf 37 = .ok (.invokevirtual 294, 3) := by decide +kernel
theorem dX7_yearsOf_40 : decode cX7_yearsOf 40 = .ok (.iastore, 1) := by decide +kernel
theorem dX7_yearsOf_41 : decode cX7_yearsOf 41 = .ok (.aload_n 0, 1) := by decide +kernel
theorem dX7_yearsOf_42 : decode cX7_yearsOf 42 = .ok (.getfield 31, 3) := by decide +kernel
theorem dX7_yearsOf_45 : decode cX7_yearsOf 45 = .ok (.iconst 2, 1) := by decide +kernel
theorem dX7_yearsOf_46 : decode cX7_yearsOf 46 = .ok (.iload 4, 2) := by decide +kernel
theorem dX7_yearsOf_48 : decode cX7_yearsOf 48 = .ok (.imul, 1) := by decide +kernel
theorem dX7_yearsOf_49 : decode cX7_yearsOf 49 = .ok (.iconst 1, 1) := by decide +kernel
theorem dX7_yearsOf_50 : decode cX7_yearsOf 50 = .ok (.iadd, 1) := by decide +kernel
theorem dX7_yearsOf_51 : decode cX7_yearsOf 51 = .ok (.aload_n 0, 1) := by decide +kernel
theorem dX7_yearsOf_52 : decode cX7_yearsOf 52 = .ok (.aload_n 0, 1) := by decide +kernel
theorem dX7_yearsOf_53 : decode cX7_yearsOf 53 = .ok (.getfield 113, 3) := by decide +kernel
theorem dX7_yearsOf_56 : decode cX7_yearsOf 56 = .ok (.invokevirtual 294, 3) := by decide +kernel
theorem dX7_yearsOf_59 : decode cX7_yearsOf 59 = .ok (.iastore, 1) := by decide +kernel
theorem dX7_yearsOf_60 : decode cX7_yearsOf 60 = .ok (.aload_n 0, 1) := by decide +kernel
theorem dX7_yearsOf_61 : decode cX7_yearsOf 61 = .ok (.dup, 1) := by decide +kernel
theorem dX7_yearsOf_62 : decode cX7_yearsOf 62 = .ok (.getfield 124, 3) := by decide +kernel
theorem dX7_yearsOf_65 : decode cX7_yearsOf 65 = .ok (.iconst 1, 1) := by decide +kernel
theorem dX7_yearsOf_66 : decode cX7_yearsOf 66 = .ok (.iadd, 1) := by decide +kernel
theorem dX7_yearsOf_67 : decode cX7_yearsOf 67 = .ok (.putfield 124, 3) := by decide +kernel
theorem dX7_yearsOf_70 : decode cX7_yearsOf 70 = .ok (.iinc 4 1, 3) := by decide +kernel
theorem dX7_yearsOf_73 : decode cX7_yearsOf 73 = .ok (.goto (-60), 3) := by decide +kernel
theorem dX7_yearsOf_76 : decode cX7_yearsOf 76 = .ok (.aload_n 0, 1) := by decide +kernel
theorem dX7_yearsOf_77 : decode cX7_yearsOf 77 = .ok (.invokevirtual 201, 3) := by decide +kernel
theorem dX7_yearsOf_80 : decode cX7_yearsOf 80 = .ok (.aload_n 0, 1) := by decide +kernel
theorem dX7_yearsOf_81 : decode cX7_yearsOf 81 = .ok (.invokevirtual 216, 3) := by decide +kernel
theorem dX7_yearsOf_84 : decode cX7_yearsOf 84 = .ok (.istore 4, 2) := by decide +kernel
theorem dX7_yearsOf_86 : decode cX7_yearsOf 86 = .ok (.aload_n 0, 1) := by decide +kernel
theorem dX7_yearsOf_87 : decode cX7_yearsOf 87 = .ok (.invokevirtual 134, 3) := by decide +kernel
theorem dX7_yearsOf_90 : decode cX7_yearsOf 90 = .ok (.pop, 1) := by decide +kernel
theorem dX7_yearsOf_91 : decode cX7_yearsOf 91 = .ok (.iload_n 3, 1) := by decide +kernel
theorem dX7_yearsOf_92 : decode cX7_yearsOf 92 = .ok (.ifCond .ne 8, 3) := by decide +kernel
theorem dX7_yearsOf_95 : decode cX7_yearsOf 95 = .ok (.iload 4, 2) := by decide +kernel
theorem dX7_yearsOf_97 : decode cX7_yearsOf 97 = .ok (.goto 7, 3) := by decide +kernel
theorem dX7_yearsOf_100 : decode cX7_yearsOf 100 = .ok (.aload_n 0, 1) := by decide +kernel
theorem dX7_yearsOf_101 : decode cX7_yearsOf 101 = .ok (.getfield 173, 3) := by decide +kernel
theorem dX7_yearsOf_104 : decode cX7_yearsOf 104 = .ok (.ireturn, 1) := by decide +kernel
theorem dX7_years_0 : decode cX7_years 0 = .ok (.aload_n 0, 1) := by decide +kernel
theorem dX7_years_1 : decode cX7_years 1 = .ok (.invokevirtual 204, 3) := by decide +kernel
theorem dX7_years_4 : decode cX7_years 4 = .ok (.iload_n 2, 1) := by decide +kernel
theorem dX7_years_5 : decode cX7_years 5 = .ok (.i2l, 1) := by decide +kernel
theorem dX7_years_6 : decode cX7_years 6 = .ok (.lconst 0, 1) := by decide +kernel
theorem dX7_years_7 : decode cX7_years 7 = .ok (.ldc2_w 280, 3) := by decide +kernel
theorem dX7_years_10 : decode cX7_years 10 = .ok (.invokestatic 76, 3) := by decide +kernel
theorem dX7_years_13 : decode cX7_years 13 = .ok (.ifCond .eq 20, 3) := by decide +kernel
theorem dX7_years_16 : decode cX7_years 16 = .ok (.iload_n 3, 1) := by decide +kernel
theorem dX7_years_17 : decode cX7_years 17 = .ok (.invokestatic 104, 3) := by decide +kernel
theorem dX7_years_20 : decode cX7_years 20 = .ok (.ifCond .eq 13, 3) := by decide +kernel
theorem dX7_years_23 : decode cX7_years 23 = .ok (.aload_n 0, 1) := by decide +kernel
theorem dX7_years_24 : decode cX7_years 24 = .ok (.iload_n 1, 1) := by decide +kernel
theorem dX7_years_25 : decode cX7_years 25 = .ok (.iload_n 2, 1) := by decide +kernel
theorem dX7_years_26 : decode cX7_years 26 = .ok (.iload_n 3, 1) := by decide +kernel
theorem dX7_years_27 : decode cX7_years 27 = .ok (.invokevirtual 297, 3) := by decide +kernel
theorem dX7_years_30 : decode cX7_years 30 = .ok (.goto 5, 3) := by decide +kernel
theorem dX7_years_33 : decode cX7_years 33 = .ok (.bipush (-2), 2) := by decide +kernel
theorem dX7_years_35 : decode cX7_years 35 = .ok (.ireturn, 1) := by decide +kernel
theorem dX7_write_0 : decode cX7_write 0 = .ok (.iload_n 1, 1) := by decide +kernel
theorem dX7_write_1 : decode cX7_write 1 = .ok (.invokestatic 85, 3) := by decide +kernel
theorem dX7_write_4 : decode cX7_write 4 = .ok (.ifCond .ne 6, 3) := by decide +kernel
theorem dX7_write_7 : decode cX7_write 7 = .ok (.bipush (-2), 2) := by decide +kernel
theorem dX7_write_9 : decode cX7_write 9 = .ok (.ireturn, 1) := by decide +kernel
theorem dX7_write_10 : decode cX7_write 10 = .ok (.aload_n 0, 1) := by decide +kernel
theorem dX7_write_11 : decode cX7_write 11 = .ok (.getfield 7, 3) := by decide +kernel
theorem dX7_write_14 : decode cX7_write 14 = .ok (.iload_n 1, 1) := by decide +kernel
theorem dX7_write_15 : decode cX7_write 15 = .ok (.iaload, 1) := by decide +kernel
theorem dX7_write_16 : decode cX7_write 16 = .ok (.ifCond .ge 9, 3) := by decide +kernel
theorem dX7_write_19 : decode cX7_write 19 = .ok (.aload_n 0, 1) := by decide +kernel
theorem dX7_write_20 : decode cX7_write 20 = .ok (.iconst 1, 1) := by decide +kernel
theorem dX7_write_21 : decode cX7_write 21 = .ok (.invokevirtual 91, 3) := by decide +kernel
theorem dX7_write_24 : decode cX7_write 24 = .ok (.ireturn, 1) := by decide +kernel
theorem dX7_write_25 : decode cX7_write 25 = .ok (.aload_n 0, 1) := by decide +kernel
theorem dX7_write_26 : decode cX7_write 26 = .ok (.invokevirtual 204, 3) := by decide +kernel
theorem dX7_write_29 : decode cX7_write 29 = .ok (.aload_n 0, 1) := by decide +kernel
theorem dX7_write_30 : decode cX7_write 30 = .ok (.getfield 13, 3) := by decide +kernel
theorem dX7_write_33 : decode cX7_write 33 = .ok (.iload_n 1, 1) := by decide +kernel
theorem dX7_write_34 : decode cX7_write 34 = .ok (.iaload, 1) := by decide +kernel
theorem dX7_write_35 : decode cX7_write 35 = .ok (.bipush 24, 2) := by decide +kernel
theorem dX7_write_37 : decode cX7_write 37 = .ok (.invokestatic 179, 3) := by decide +kernel
theorem dX7_write_40 : decode cX7_write 40 = .ok (.istore_n 2, 1) := by decide +kernel
theorem dX7_write_41 : decode cX7_write 41 = .ok (.iconst 0, 1) := by decide +kernel
theorem dX7_write_42 : decode cX7_write 42 = .ok (.istore_n 3, 1) := by decide +kernel
theorem dX7_write_43 : decode cX7_write 43 = .ok (.iload_n 3, 1) := by decide +kernel
theorem dX7_write_44 : decode cX7_write 44 = .ok (.iload_n 2, 1) := by decide +kernel
theorem dX7_write_45 : decode cX7_write 45 = .ok (.if_icmp .ge 35, 3) := by decide +kernel
theorem dX7_write_48 : decode cX7_write 48 = .ok (.aload_n 0, 1) := by decide +kernel
theorem dX7_write_49 : decode cX7_write 49 = .ok (.getfield 16, 3) := by decide +kernel
theorem dX7_write_52 : decode cX7_write 52 = .ok (.bipush 60, 2) := by decide +kernel
theorem dX7_write_54 : decode cX7_write 54 = .ok (.iload_n 1, 1) := by decide +kernel
theorem dX7_write_55 : decode cX7_write 55 = .ok (.imul, 1) := by decide +kernel
theorem dX7_write_56 : decode cX7_write 56 = .ok (.iload_n 3, 1) := by decide +kernel
theorem dX7_write_57 : decode cX7_write 57 = .ok (.iadd, 1) := by decide +kernel
theorem dX7_write_58 : decode cX7_write 58 = .ok (.aload_n 0, 1) := by decide +kernel
theorem dX7_write_59 : decode cX7_write 59 = .ok (.getfield 7, 3) := by decide +kernel
theorem dX7_write_62 : decode cX7_write 62 = .ok (.iload_n 1, 1) := by decide +kernel
theorem dX7_write_63 : decode cX7_write 63 = .ok (.iaload, 1) := by decide +kernel
theorem dX7_write_64 : decode cX7_write 64 = .ok (.aload_n 0, 1) := by decide +kernel
theorem dX7_write_65 : decode cX7_write 65 = .ok (.getfield 40, 3) := by decide +kernel
theorem dX7_write_68 : decode cX7_write 68 = .ok (.iload_n 3, 1) := by decide +kernel
theorem dX7_write_69 : decode cX7_write 69 = .ok (.iaload, 1) := by decide +kernel
theorem dX7_write_70 : decode cX7_write 70 = .ok (.invokestatic 99, 3) := by decide +kernel
theorem dX7_write_73 : decode cX7_write 73 = .ok (.iastore, 1) := by decide +kernel
theorem dX7_write_74 : decode cX7_write 74 = .ok (.iinc 3 1, 3) := by decide +kernel
theorem dX7_write_77 : decode cX7_write 77 = .ok (.goto (-34), 3) := by decide +kernel
theorem dX7_write_80 : decode cX7_write 80 = .ok (.iload_n 2, 1) := by decide +kernel
theorem dX7_write_81 : decode cX7_write 81 = .ok (.ireturn, 1) := by decide +kernel
theorem dX7_count_0 : decode cX7_count 0 = .ok (.aload_n 0, 1) := by decide +kernel
theorem dX7_count_1 : decode cX7_count 1 = .ok (.invokevirtual 204, 3) := by decide +kernel
theorem dX7_count_4 : decode cX7_count 4 = .ok (.iload_n 1, 1) := by decide +kernel
theorem dX7_count_5 : decode cX7_count 5 = .ok (.tableswitch 95 0 8 #[51, 56, 61, 61, 70, 75, 80, 85, 90], 51) := by decide +kernel
theorem dX7_count_56 : decode cX7_count 56 = .ok (.aload_n 0, 1) := by decide +kernel
theorem dX7_count_57 : decode cX7_count 57 = .ok (.getfield 113, 3) := by decide +kernel
theorem dX7_count_60 : decode cX7_count 60 = .ok (.ireturn, 1) := by decide +kernel
theorem dX7_count_61 : decode cX7_count 61 = .ok (.aload_n 0, 1) := by decide +kernel
theorem dX7_count_62 : decode cX7_count 62 = .ok (.getfield 124, 3) := by decide +kernel
theorem dX7_count_65 : decode cX7_count 65 = .ok (.ireturn, 1) := by decide +kernel
theorem dX7_count_66 : decode cX7_count 66 = .ok (.aload_n 0, 1) := by decide +kernel
theorem dX7_count_67 : decode cX7_count 67 = .ok (.getfield 25, 3) := by decide +kernel
theorem dX7_count_70 : decode cX7_count 70 = .ok (.iload_n 1, 1) := by decide +kernel
theorem dX7_count_71 : decode cX7_count 71 = .ok (.iconst 2, 1) := by decide +kernel
theorem dX7_count_72 : decode cX7_count 72 = .ok (.isub, 1) := by decide +kernel
theorem dX7_count_73 : decode cX7_count 73 = .ok (.iaload, 1) := by decide +kernel
theorem dX7_count_74 : decode cX7_count 74 = .ok (.ireturn, 1) := by decide +kernel
theorem dX7_count_75 : decode cX7_count 75 = .ok (.aload_n 0, 1) := by decide +kernel
theorem dX7_count_76 : decode cX7_count 76 = .ok (.getfield 155, 3) := by decide +kernel
theorem dX7_count_79 : decode cX7_count 79 = .ok (.ireturn, 1) := by decide +kernel
theorem dX7_count_80 : decode cX7_count 80 = .ok (.aload_n 0, 1) := by decide +kernel
theorem dX7_count_81 : decode cX7_count 81 = .ok (.getfield 67, 3) := by decide +kernel
theorem dX7_count_84 : decode cX7_count 84 = .ok (.ireturn, 1) := by decide +kernel
theorem dX7_count_85 : decode cX7_count 85 = .ok (.aload_n 0, 1) := by decide +kernel
theorem dX7_count_86 : decode cX7_count 86 = .ok (.invokevirtual 216, 3) := by decide +kernel
theorem dX7_count_89 : decode cX7_count 89 = .ok (.ireturn, 1) := by decide +kernel
theorem dX7_count_90 : decode cX7_count 90 = .ok (.aload_n 0, 1) := by decide +kernel
theorem dX7_count_91 : decode cX7_count 91 = .ok (.getfield 251, 3) := by decide +kernel
theorem dX7_count_94 : decode cX7_count 94 = .ok (.ireturn, 1) := by decide +kernel
theorem dX7_count_95 : decode cX7_count 95 = .ok (.aload_n 0, 1) := by decide +kernel
theorem dX7_count_96 : decode cX7_count 96 = .ok (.getfield 80, 3) := by decide +kernel
theorem dX7_count_99 : decode cX7_count 99 = .ok (.ireturn, 1) := by decide +kernel
theorem dX7_count_100 : decode cX7_count 100 = .ok (.bipush (-2), 2) := by decide +kernel
theorem dX7_count_102 : decode cX7_count 102 = .ok (.ireturn, 1) := by decide +kernel
theorem dX7_tellsNote_0 : decode cX7_tellsNote 0 = .ok (.aload_n 0, 1) := by decide +kernel
theorem dX7_tellsNote_1 : decode cX7_tellsNote 1 = .ok (.invokevirtual 201, 3) := by decide +kernel
theorem dX7_tellsNote_4 : decode cX7_tellsNote 4 = .ok (.ldc2_w 300, 3) := by decide +kernel
theorem dX7_tellsNote_7 : decode cX7_tellsNote 7 = .ok (.lload_n 1, 1) := by decide +kernel
theorem dX7_tellsNote_8 : decode cX7_tellsNote 8 = .ok (.lmul, 1) := by decide +kernel
theorem dX7_tellsNote_9 : decode cX7_tellsNote 9 = .ok (.aload_n 0, 1) := by decide +kernel
theorem dX7_tellsNote_10 : decode cX7_tellsNote 10 = .ok (.getfield 46, 3) := by decide +kernel
theorem dX7_tellsNote_13 : decode cX7_tellsNote 13 = .ok (.iload_n 3, 1) := by decide +kernel
theorem dX7_tellsNote_14 : decode cX7_tellsNote 14 = .ok (.iaload, 1) := by decide +kernel
theorem dX7_tellsNote_15 : decode cX7_tellsNote 15 = .ok (.i2l, 1) := by decide +kernel
theorem dX7_tellsNote_16 : decode cX7_tellsNote 16 = .ok (.ladd, 1) := by decide +kernel
theorem dX7_tellsNote_17 : decode cX7_tellsNote 17 = .ok (.lstore 4, 2) := by decide +kernel
theorem dX7_tellsNote_19 : decode cX7_tellsNote 19 = .ok (.ldc2_w 300, 3) := by decide +kernel
theorem dX7_tellsNote_22 : decode cX7_tellsNote 22 = .ok (.lload 4, 2) := by decide +kernel
theorem dX7_tellsNote_24 : decode cX7_tellsNote 24 = .ok (.lmul, 1) := by decide +kernel
theorem dX7_tellsNote_25 : decode cX7_tellsNote 25 = .ok (.aload_n 0, 1) := by decide +kernel
theorem dX7_tellsNote_26 : decode cX7_tellsNote 26 = .ok (.iconst 5, 1) := by decide +kernel
theorem dX7_tellsNote_27 : decode cX7_tellsNote 27 = .ok (.iload_n 3, 1) := by decide +kernel
theorem dX7_tellsNote_28 : decode cX7_tellsNote 28 = .ok (.iconst 0, 1) := by decide +kernel
theorem dX7_tellsNote_29 : decode cX7_tellsNote 29 = .ok (.invokevirtual 282, 3) := by decide +kernel
theorem dX7_tellsNote_32 : decode cX7_tellsNote 32 = .ok (.ladd, 1) := by decide +kernel
theorem dX7_tellsNote_33 : decode cX7_tellsNote 33 = .ok (.lstore 4, 2) := by decide +kernel
theorem dX7_tellsNote_35 : decode cX7_tellsNote 35 = .ok (.ldc2_w 300, 3) := by decide +kernel
theorem dX7_tellsNote_38 : decode cX7_tellsNote 38 = .ok (.lload 4, 2) := by decide +kernel
theorem dX7_tellsNote_40 : decode cX7_tellsNote 40 = .ok (.lmul, 1) := by decide +kernel
theorem dX7_tellsNote_41 : decode cX7_tellsNote 41 = .ok (.aload_n 0, 1) := by decide +kernel
theorem dX7_tellsNote_42 : decode cX7_tellsNote 42 = .ok (.iconst 5, 1) := by decide +kernel
theorem dX7_tellsNote_43 : decode cX7_tellsNote 43 = .ok (.iload_n 3, 1) := by decide +kernel
theorem dX7_tellsNote_44 : decode cX7_tellsNote 44 = .ok (.iconst 1, 1) := by decide +kernel
theorem dX7_tellsNote_45 : decode cX7_tellsNote 45 = .ok (.invokevirtual 282, 3) := by decide +kernel
theorem dX7_tellsNote_48 : decode cX7_tellsNote 48 = .ok (.ladd, 1) := by decide +kernel
theorem dX7_tellsNote_49 : decode cX7_tellsNote 49 = .ok (.lreturn, 1) := by decide +kernel
theorem dX7_tellsPlayer_0 : decode cX7_tellsPlayer 0 = .ok (.aload_n 0, 1) := by decide +kernel
theorem dX7_tellsPlayer_1 : decode cX7_tellsPlayer 1 = .ok (.invokevirtual 201, 3) := by decide +kernel
theorem dX7_tellsPlayer_4 : decode cX7_tellsPlayer 4 = .ok (.ldc2_w 300, 3) := by decide +kernel
theorem dX7_tellsPlayer_7 : decode cX7_tellsPlayer 7 = .ok (.lload_n 1, 1) := by decide +kernel
theorem dX7_tellsPlayer_8 : decode cX7_tellsPlayer 8 = .ok (.lmul, 1) := by decide +kernel
theorem dX7_tellsPlayer_9 : decode cX7_tellsPlayer 9 = .ok (.aload_n 0, 1) := by decide +kernel
theorem dX7_tellsPlayer_10 : decode cX7_tellsPlayer 10 = .ok (.getfield 28, 3) := by decide +kernel
theorem dX7_tellsPlayer_13 : decode cX7_tellsPlayer 13 = .ok (.iconst 2, 1) := by decide +kernel
theorem dX7_tellsPlayer_14 : decode cX7_tellsPlayer 14 = .ok (.iload_n 3, 1) := by decide +kernel
theorem dX7_tellsPlayer_15 : decode cX7_tellsPlayer 15 = .ok (.imul, 1) := by decide +kernel
theorem dX7_tellsPlayer_16 : decode cX7_tellsPlayer 16 = .ok (.iaload, 1) := by decide +kernel
theorem dX7_tellsPlayer_17 : decode cX7_tellsPlayer 17 = .ok (.i2l, 1) := by decide +kernel
theorem dX7_tellsPlayer_18 : decode cX7_tellsPlayer 18 = .ok (.ladd, 1) := by decide +kernel
theorem dX7_tellsPlayer_19 : decode cX7_tellsPlayer 19 = .ok (.lstore 4, 2) := by decide +kernel
theorem dX7_tellsPlayer_21 : decode cX7_tellsPlayer 21 = .ok (.ldc2_w 300, 3) := by decide +kernel
theorem dX7_tellsPlayer_24 : decode cX7_tellsPlayer 24 = .ok (.lload 4, 2) := by decide +kernel
theorem dX7_tellsPlayer_26 : decode cX7_tellsPlayer 26 = .ok (.lmul, 1) := by decide +kernel
theorem dX7_tellsPlayer_27 : decode cX7_tellsPlayer 27 = .ok (.aload_n 0, 1) := by decide +kernel
theorem dX7_tellsPlayer_28 : decode cX7_tellsPlayer 28 = .ok (.getfield 28, 3) := by decide +kernel
theorem dX7_tellsPlayer_31 : decode cX7_tellsPlayer 31 = .ok (.iconst 2, 1) := by decide +kernel
theorem dX7_tellsPlayer_32 : decode cX7_tellsPlayer 32 = .ok (.iload_n 3, 1) := by decide +kernel
theorem dX7_tellsPlayer_33 : decode cX7_tellsPlayer 33 = .ok (.imul, 1) := by decide +kernel
theorem dX7_tellsPlayer_34 : decode cX7_tellsPlayer 34 = .ok (.iconst 1, 1) := by decide +kernel
theorem dX7_tellsPlayer_35 : decode cX7_tellsPlayer 35 = .ok (.iadd, 1) := by decide +kernel
theorem dX7_tellsPlayer_36 : decode cX7_tellsPlayer 36 = .ok (.iaload, 1) := by decide +kernel
theorem dX7_tellsPlayer_37 : decode cX7_tellsPlayer 37 = .ok (.i2l, 1) := by decide +kernel
theorem dX7_tellsPlayer_38 : decode cX7_tellsPlayer 38 = .ok (.ladd, 1) := by decide +kernel
theorem dX7_tellsPlayer_39 : decode cX7_tellsPlayer 39 = .ok (.lstore 4, 2) := by decide +kernel
theorem dX7_tellsPlayer_41 : decode cX7_tellsPlayer 41 = .ok (.iconst 0, 1) := by decide +kernel
theorem dX7_tellsPlayer_42 : decode cX7_tellsPlayer 42 = .ok (.istore 6, 2) := by decide +kernel
theorem dX7_tellsPlayer_44 : decode cX7_tellsPlayer 44 = .ok (.iload 6, 2) := by decide +kernel
theorem dX7_tellsPlayer_46 : decode cX7_tellsPlayer 46 = .ok (.iconst 3, 1) := by decide +kernel
theorem dX7_tellsPlayer_47 : decode cX7_tellsPlayer 47 = .ok (.if_icmp .ge 26, 3) := by decide +kernel
theorem dX7_tellsPlayer_50 : decode cX7_tellsPlayer 50 = .ok (.ldc2_w 300, 3) := by decide +kernel
theorem dX7_tellsPlayer_53 : decode cX7_tellsPlayer 53 = .ok (.lload 4, 2) := by decide +kernel
theorem dX7_tellsPlayer_55 : decode cX7_tellsPlayer 55 = .ok (.lmul, 1) := by decide +kernel
theorem dX7_tellsPlayer_56 : decode cX7_tellsPlayer 56 = .ok (.aload_n 0, 1) := by decide +kernel
theorem dX7_tellsPlayer_57 : decode cX7_tellsPlayer 57 = .ok (.iload_n 3, 1) := by decide +kernel
theorem dX7_tellsPlayer_58 : decode cX7_tellsPlayer 58 = .ok (.iload 6, 2) := by decide +kernel
theorem dX7_tellsPlayer_60 : decode cX7_tellsPlayer 60 = .ok (.invokevirtual 213, 3) := by decide +kernel
theorem dX7_tellsPlayer_63 : decode cX7_tellsPlayer 63 = .ok (.i2l, 1) := by decide +kernel
theorem dX7_tellsPlayer_64 : decode cX7_tellsPlayer 64 = .ok (.ladd, 1) := by decide +kernel
theorem dX7_tellsPlayer_65 : decode cX7_tellsPlayer 65 = .ok (.lstore 4, 2) := by decide +kernel
theorem dX7_tellsPlayer_67 : decode cX7_tellsPlayer 67 = .ok (.iinc 6 1, 3) := by decide +kernel
theorem dX7_tellsPlayer_70 : decode cX7_tellsPlayer 70 = .ok (.goto (-26), 3) := by decide +kernel
theorem dX7_tellsPlayer_73 : decode cX7_tellsPlayer 73 = .ok (.ldc2_w 300, 3) := by decide +kernel
theorem dX7_tellsPlayer_76 : decode cX7_tellsPlayer 76 = .ok (.lload 4, 2) := by decide +kernel
theorem dX7_tellsPlayer_78 : decode cX7_tellsPlayer 78 = .ok (.lmul, 1) := by decide +kernel
theorem dX7_tellsPlayer_79 : decode cX7_tellsPlayer 79 = .ok (.aload_n 0, 1) := by decide +kernel
theorem dX7_tellsPlayer_80 : decode cX7_tellsPlayer 80 = .ok (.iload_n 3, 1) := by decide +kernel
theorem dX7_tellsPlayer_81 : decode cX7_tellsPlayer 81 = .ok (.invokevirtual 261, 3) := by decide +kernel
theorem dX7_tellsPlayer_84 : decode cX7_tellsPlayer 84 = .ok (.i2l, 1) := by decide +kernel
theorem dX7_tellsPlayer_85 : decode cX7_tellsPlayer 85 = .ok (.ladd, 1) := by decide +kernel
theorem dX7_tellsPlayer_86 : decode cX7_tellsPlayer 86 = .ok (.lstore 4, 2) := by decide +kernel
theorem dX7_tellsPlayer_88 : decode cX7_tellsPlayer 88 = .ok (.ldc2_w 300, 3) := by decide +kernel
theorem dX7_tellsPlayer_91 : decode cX7_tellsPlayer 91 = .ok (.lload 4, 2) := by decide +kernel
theorem dX7_tellsPlayer_93 : decode cX7_tellsPlayer 93 = .ok (.lmul, 1) := by decide +kernel
theorem dX7_tellsPlayer_94 : decode cX7_tellsPlayer 94 = .ok (.aload_n 0, 1) := by decide +kernel
theorem dX7_tellsPlayer_95 : decode cX7_tellsPlayer 95 = .ok (.iload_n 3, 1) := by decide +kernel
theorem dX7_tellsPlayer_96 : decode cX7_tellsPlayer 96 = .ok (.invokevirtual 264, 3) := by decide +kernel
theorem dX7_tellsPlayer_99 : decode cX7_tellsPlayer 99 = .ok (.i2l, 1) := by decide +kernel
theorem dX7_tellsPlayer_100 : decode cX7_tellsPlayer 100 = .ok (.ladd, 1) := by decide +kernel
theorem dX7_tellsPlayer_101 : decode cX7_tellsPlayer 101 = .ok (.lstore 4, 2) := by decide +kernel
theorem dX7_tellsPlayer_103 : decode cX7_tellsPlayer 103 = .ok (.ldc2_w 300, 3) := by decide +kernel
theorem dX7_tellsPlayer_106 : decode cX7_tellsPlayer 106 = .ok (.lload 4, 2) := by decide +kernel
theorem dX7_tellsPlayer_108 : decode cX7_tellsPlayer 108 = .ok (.lmul, 1) := by decide +kernel
theorem dX7_tellsPlayer_109 : decode cX7_tellsPlayer 109 = .ok (.aload_n 0, 1) := by decide +kernel
theorem dX7_tellsPlayer_110 : decode cX7_tellsPlayer 110 = .ok (.iload_n 3, 1) := by decide +kernel
theorem dX7_tellsPlayer_111 : decode cX7_tellsPlayer 111 = .ok (.invokevirtual 273, 3) := by decide +kernel
theorem dX7_tellsPlayer_114 : decode cX7_tellsPlayer 114 = .ok (.i2l, 1) := by decide +kernel
theorem dX7_tellsPlayer_115 : decode cX7_tellsPlayer 115 = .ok (.ladd, 1) := by decide +kernel
theorem dX7_tellsPlayer_116 : decode cX7_tellsPlayer 116 = .ok (.lreturn, 1) := by decide +kernel
theorem dX7_digest_0 : decode cX7_digest 0 = .ok (.ldc2_w 302, 3) := by decide +kernel
theorem dX7_digest_3 : decode cX7_digest 3 = .ok (.lstore_n 1, 1) := by decide +kernel
theorem dX7_digest_4 : decode cX7_digest 4 = .ok (.iconst 0, 1) := by decide +kernel
theorem dX7_digest_5 : decode cX7_digest 5 = .ok (.istore_n 3, 1) := by decide +kernel
theorem dX7_digest_6 : decode cX7_digest 6 = .ok (.iload_n 3, 1) := by decide +kernel
theorem dX7_digest_7 : decode cX7_digest 7 = .ok (.bipush 8, 2) := by decide +kernel
theorem dX7_digest_9 : decode cX7_digest 9 = .ok (.if_icmp .ge 22, 3) := by decide +kernel
theorem dX7_digest_12 : decode cX7_digest 12 = .ok (.ldc2_w 300, 3) := by decide +kernel
theorem dX7_digest_15 : decode cX7_digest 15 = .ok (.lload_n 1, 1) := by decide +kernel
theorem dX7_digest_16 : decode cX7_digest 16 = .ok (.lmul, 1) := by decide +kernel
theorem dX7_digest_17 : decode cX7_digest 17 = .ok (.aload_n 0, 1) := by decide +kernel
theorem dX7_digest_18 : decode cX7_digest 18 = .ok (.iload_n 3, 1) := by decide +kernel
theorem dX7_digest_19 : decode cX7_digest 19 = .ok (.invokevirtual 304, 3) := by decide +kernel
theorem dX7_digest_22 : decode cX7_digest 22 = .ok (.i2l, 1) := by decide +kernel
theorem dX7_digest_23 : decode cX7_digest 23 = .ok (.ladd, 1) := by decide +kernel
theorem dX7_digest_24 : decode cX7_digest 24 = .ok (.lstore_n 1, 1) := by decide +kernel
theorem dX7_digest_25 : decode cX7_digest 25 = .ok (.iinc 3 1, 3) := by decide +kernel
theorem dX7_digest_28 : decode cX7_digest 28 = .ok (.goto (-22), 3) := by decide +kernel
theorem dX7_digest_31 : decode cX7_digest 31 = .ok (.iconst 0, 1) := by decide +kernel
theorem dX7_digest_32 : decode cX7_digest 32 = .ok (.istore_n 3, 1) := by decide +kernel
theorem dX7_digest_33 : decode cX7_digest 33 = .ok (.iload_n 3, 1) := by decide +kernel
theorem dX7_digest_34 : decode cX7_digest 34 = .ok (.iconst 2, 1) := by decide +kernel
theorem dX7_digest_35 : decode cX7_digest 35 = .ok (.if_icmp .ge 22, 3) := by decide +kernel
theorem dX7_digest_38 : decode cX7_digest 38 = .ok (.ldc2_w 300, 3) := by decide +kernel
theorem dX7_digest_41 : decode cX7_digest 41 = .ok (.lload_n 1, 1) := by decide +kernel
theorem dX7_digest_42 : decode cX7_digest 42 = .ok (.lmul, 1) := by decide +kernel
theorem dX7_digest_43 : decode cX7_digest 43 = .ok (.aload_n 0, 1) := by decide +kernel
theorem dX7_digest_44 : decode cX7_digest 44 = .ok (.iload_n 3, 1) := by decide +kernel
theorem dX7_digest_45 : decode cX7_digest 45 = .ok (.invokevirtual 137, 3) := by decide +kernel
theorem dX7_digest_48 : decode cX7_digest 48 = .ok (.i2l, 1) := by decide +kernel
theorem dX7_digest_49 : decode cX7_digest 49 = .ok (.ladd, 1) := by decide +kernel
theorem dX7_digest_50 : decode cX7_digest 50 = .ok (.lstore_n 1, 1) := by decide +kernel
theorem dX7_digest_51 : decode cX7_digest 51 = .ok (.iinc 3 1, 3) := by decide +kernel
theorem dX7_digest_54 : decode cX7_digest 54 = .ok (.goto (-21), 3) := by decide +kernel
theorem dX7_digest_57 : decode cX7_digest 57 = .ok (.aload_n 0, 1) := by decide +kernel
theorem dX7_digest_58 : decode cX7_digest 58 = .ok (.invokevirtual 201, 3) := by decide +kernel
theorem dX7_digest_61 : decode cX7_digest 61 = .ok (.iconst 0, 1) := by decide +kernel
theorem dX7_digest_62 : decode cX7_digest 62 = .ok (.istore_n 3, 1) := by decide +kernel
theorem dX7_digest_63 : decode cX7_digest 63 = .ok (.iload_n 3, 1) := by decide +kernel
theorem dX7_digest_64 : decode cX7_digest 64 = .ok (.bipush 24, 2) := by decide +kernel
theorem dX7_digest_66 : decode cX7_digest 66 = .ok (.if_icmp .ge 39, 3) := by decide +kernel
theorem dX7_digest_69 : decode cX7_digest 69 = .ok (.iconst 0, 1) := by decide +kernel
theorem dX7_digest_70 : decode cX7_digest 70 = .ok (.istore 4, 2) := by decide +kernel
theorem dX7_digest_72 : decode cX7_digest 72 = .ok (.iload 4, 2) := by decide +kernel
theorem dX7_digest_74 : decode cX7_digest 74 = .ok (.iconst 3, 1) := by decide +kernel
theorem dX7_digest_75 : decode cX7_digest 75 = .ok (.if_icmp .ge 24, 3) := by decide +kernel
theorem dX7_digest_78 : decode cX7_digest 78 = .ok (.ldc2_w 300, 3) := by decide +kernel
theorem dX7_digest_81 : decode cX7_digest 81 = .ok (.lload_n 1, 1) := by decide +kernel
theorem dX7_digest_82 : decode cX7_digest 82 = .ok (.lmul, 1) := by decide +kernel
theorem dX7_digest_83 : decode cX7_digest 83 = .ok (.aload_n 0, 1) := by decide +kernel
theorem dX7_digest_84 : decode cX7_digest 84 = .ok (.iload_n 3, 1) := by decide +kernel
theorem dX7_digest_85 : decode cX7_digest 85 = .ok (.iload 4, 2) := by decide +kernel
theorem dX7_digest_87 : decode cX7_digest 87 = .ok (.invokevirtual 207, 3) := by decide +kernel
theorem dX7_digest_90 : decode cX7_digest 90 = .ok (.i2l, 1) := by decide +kernel
theorem dX7_digest_91 : decode cX7_digest 91 = .ok (.ladd, 1) := by decide +kernel
theorem dX7_digest_92 : decode cX7_digest 92 = .ok (.lstore_n 1, 1) := by decide +kernel
theorem dX7_digest_93 : decode cX7_digest 93 = .ok (.iinc 4 1, 3) := by decide +kernel
theorem dX7_digest_96 : decode cX7_digest 96 = .ok (.goto (-24), 3) := by decide +kernel
theorem dX7_digest_99 : decode cX7_digest 99 = .ok (.iinc 3 1, 3) := by decide +kernel
theorem dX7_digest_102 : decode cX7_digest 102 = .ok (.goto (-39), 3) := by decide +kernel
theorem dX7_digest_105 : decode cX7_digest 105 = .ok (.iconst 0, 1) := by decide +kernel
theorem dX7_digest_106 : decode cX7_digest 106 = .ok (.istore_n 3, 1) := by decide +kernel
theorem dX7_digest_107 : decode cX7_digest 107 = .ok (.iload_n 3, 1) := by decide +kernel
theorem dX7_digest_108 : decode cX7_digest 108 = .ok (.bipush 16, 2) := by decide +kernel
theorem dX7_digest_110 : decode cX7_digest 110 = .ok (.if_icmp .ge 37, 3) := by decide +kernel
theorem dX7_digest_113 : decode cX7_digest 113 = .ok (.ldc2_w 300, 3) := by decide +kernel
theorem dX7_digest_116 : decode cX7_digest 116 = .ok (.lload_n 1, 1) := by decide +kernel
theorem dX7_digest_117 : decode cX7_digest 117 = .ok (.lmul, 1) := by decide +kernel
theorem dX7_digest_118 : decode cX7_digest 118 = .ok (.aload_n 0, 1) := by decide +kernel
theorem dX7_digest_119 : decode cX7_digest 119 = .ok (.iload_n 3, 1) := by decide +kernel
theorem dX7_digest_120 : decode cX7_digest 120 = .ok (.iconst 0, 1) := by decide +kernel
theorem dX7_digest_121 : decode cX7_digest 121 = .ok (.invokevirtual 147, 3) := by decide +kernel
theorem dX7_digest_124 : decode cX7_digest 124 = .ok (.i2l, 1) := by decide +kernel
theorem dX7_digest_125 : decode cX7_digest 125 = .ok (.ladd, 1) := by decide +kernel
theorem dX7_digest_126 : decode cX7_digest 126 = .ok (.lstore_n 1, 1) := by decide +kernel
theorem dX7_digest_127 : decode cX7_digest 127 = .ok (.ldc2_w 300, 3) := by decide +kernel
theorem dX7_digest_130 : decode cX7_digest 130 = .ok (.lload_n 1, 1) := by decide +kernel
theorem dX7_digest_131 : decode cX7_digest 131 = .ok (.lmul, 1) := by decide +kernel
theorem dX7_digest_132 : decode cX7_digest 132 = .ok (.aload_n 0, 1) := by decide +kernel
theorem dX7_digest_133 : decode cX7_digest 133 = .ok (.iload_n 3, 1) := by decide +kernel
theorem dX7_digest_134 : decode cX7_digest 134 = .ok (.iconst 1, 1) := by decide +kernel
theorem dX7_digest_135 : decode cX7_digest 135 = .ok (.invokevirtual 147, 3) := by decide +kernel
theorem dX7_digest_138 : decode cX7_digest 138 = .ok (.i2l, 1) := by decide +kernel
theorem dX7_digest_139 : decode cX7_digest 139 = .ok (.ladd, 1) := by decide +kernel
theorem dX7_digest_140 : decode cX7_digest 140 = .ok (.lstore_n 1, 1) := by decide +kernel
theorem dX7_digest_141 : decode cX7_digest 141 = .ok (.iinc 3 1, 3) := by decide +kernel
theorem dX7_digest_144 : decode cX7_digest 144 = .ok (.goto (-37), 3) := by decide +kernel
theorem dX7_digest_147 : decode cX7_digest 147 = .ok (.iconst 0, 1) := by decide +kernel
theorem dX7_digest_148 : decode cX7_digest 148 = .ok (.istore_n 3, 1) := by decide +kernel
theorem dX7_digest_149 : decode cX7_digest 149 = .ok (.iload_n 3, 1) := by decide +kernel
theorem dX7_digest_150 : decode cX7_digest 150 = .ok (.aload_n 0, 1) := by decide +kernel
theorem dX7_digest_151 : decode cX7_digest 151 = .ok (.getfield 124, 3) := by decide +kernel
theorem dX7_digest_154 : decode cX7_digest 154 = .ok (.if_icmp .ge 16, 3) := by decide +kernel
theorem dX7_digest_157 : decode cX7_digest 157 = .ok (.aload_n 0, 1) := by decide +kernel
theorem dX7_digest_158 : decode cX7_digest 158 = .ok (.lload_n 1, 1) := by decide +kernel
theorem dX7_digest_159 : decode cX7_digest 159 = .ok (.iload_n 3, 1) := by decide +kernel
theorem dX7_digest_160 : decode cX7_digest 160 = .ok (.invokevirtual 307, 3) := by decide +kernel
theorem dX7_digest_163 : decode cX7_digest 163 = .ok (.lstore_n 1, 1) := by decide +kernel
theorem dX7_digest_164 : decode cX7_digest 164 = .ok (.iinc 3 1, 3) := by decide +kernel
theorem dX7_digest_167 : decode cX7_digest 167 = .ok (.goto (-18), 3) := by decide +kernel
theorem dX7_digest_170 : decode cX7_digest 170 = .ok (.iconst 0, 1) := by decide +kernel
theorem dX7_digest_171 : decode cX7_digest 171 = .ok (.istore_n 3, 1) := by decide +kernel
theorem dX7_digest_172 : decode cX7_digest 172 = .ok (.iload_n 3, 1) := by decide +kernel
theorem dX7_digest_173 : decode cX7_digest 173 = .ok (.aload_n 0, 1) := by decide +kernel
theorem dX7_digest_174 : decode cX7_digest 174 = .ok (.getfield 113, 3) := by decide +kernel
theorem dX7_digest_177 : decode cX7_digest 177 = .ok (.if_icmp .ge 16, 3) := by decide +kernel
theorem dX7_digest_180 : decode cX7_digest 180 = .ok (.aload_n 0, 1) := by decide +kernel
theorem dX7_digest_181 : decode cX7_digest 181 = .ok (.lload_n 1, 1) := by decide +kernel
theorem dX7_digest_182 : decode cX7_digest 182 = .ok (.iload_n 3, 1) := by decide +kernel
theorem dX7_digest_183 : decode cX7_digest 183 = .ok (.invokevirtual 311, 3) := by decide +kernel
theorem dX7_digest_186 : decode cX7_digest 186 = .ok (.lstore_n 1, 1) := by decide +kernel
theorem dX7_digest_187 : decode cX7_digest 187 = .ok (.iinc 3 1, 3) := by decide +kernel
theorem dX7_digest_190 : decode cX7_digest 190 = .ok (.goto (-18), 3) := by decide +kernel
theorem dX7_digest_193 : decode cX7_digest 193 = .ok (.aload_n 0, 1) := by decide +kernel
theorem dX7_digest_194 : decode cX7_digest 194 = .ok (.invokevirtual 201, 3) := by decide +kernel
theorem dX7_digest_197 : decode cX7_digest 197 = .ok (.iconst 0, 1) := by decide +kernel
theorem dX7_digest_198 : decode cX7_digest 198 = .ok (.istore_n 3, 1) := by decide +kernel
theorem dX7_digest_199 : decode cX7_digest 199 = .ok (.iload_n 3, 1) := by decide +kernel
theorem dX7_digest_200 : decode cX7_digest 200 = .ok (.iconst 3, 1) := by decide +kernel
theorem dX7_digest_201 : decode cX7_digest 201 = .ok (.if_icmp .ge 22, 3) := by decide +kernel
theorem dX7_digest_204 : decode cX7_digest 204 = .ok (.ldc2_w 300, 3) := by decide +kernel
theorem dX7_digest_207 : decode cX7_digest 207 = .ok (.lload_n 1, 1) := by decide +kernel
theorem dX7_digest_208 : decode cX7_digest 208 = .ok (.lmul, 1) := by decide +kernel
theorem dX7_digest_209 : decode cX7_digest 209 = .ok (.aload_n 0, 1) := by decide +kernel
theorem dX7_digest_210 : decode cX7_digest 210 = .ok (.iload_n 3, 1) := by decide +kernel
theorem dX7_digest_211 : decode cX7_digest 211 = .ok (.invokevirtual 219, 3) := by decide +kernel
theorem dX7_digest_214 : decode cX7_digest 214 = .ok (.i2l, 1) := by decide +kernel
theorem dX7_digest_215 : decode cX7_digest 215 = .ok (.ladd, 1) := by decide +kernel
theorem dX7_digest_216 : decode cX7_digest 216 = .ok (.lstore_n 1, 1) := by decide +kernel
theorem dX7_digest_217 : decode cX7_digest 217 = .ok (.iinc 3 1, 3) := by decide +kernel
theorem dX7_digest_220 : decode cX7_digest 220 = .ok (.goto (-21), 3) := by decide +kernel
theorem dX7_digest_223 : decode cX7_digest 223 = .ok (.ldc2_w 300, 3) := by decide +kernel
theorem dX7_digest_226 : decode cX7_digest 226 = .ok (.lload_n 1, 1) := by decide +kernel
theorem dX7_digest_227 : decode cX7_digest 227 = .ok (.lmul, 1) := by decide +kernel
theorem dX7_digest_228 : decode cX7_digest 228 = .ok (.aload_n 0, 1) := by decide +kernel
theorem dX7_digest_229 : decode cX7_digest 229 = .ok (.invokevirtual 222, 3) := by decide +kernel
theorem dX7_digest_232 : decode cX7_digest 232 = .ok (.i2l, 1) := by decide +kernel
theorem dX7_digest_233 : decode cX7_digest 233 = .ok (.ladd, 1) := by decide +kernel
theorem dX7_digest_234 : decode cX7_digest 234 = .ok (.lstore_n 1, 1) := by decide +kernel
theorem dX7_digest_235 : decode cX7_digest 235 = .ok (.ldc2_w 300, 3) := by decide +kernel
theorem dX7_digest_238 : decode cX7_digest 238 = .ok (.lload_n 1, 1) := by decide +kernel
theorem dX7_digest_239 : decode cX7_digest 239 = .ok (.lmul, 1) := by decide +kernel
theorem dX7_digest_240 : decode cX7_digest 240 = .ok (.aload_n 0, 1) := by decide +kernel
theorem dX7_digest_241 : decode cX7_digest 241 = .ok (.invokevirtual 225, 3) := by decide +kernel
theorem dX7_digest_244 : decode cX7_digest 244 = .ok (.i2l, 1) := by decide +kernel
theorem dX7_digest_245 : decode cX7_digest 245 = .ok (.ladd, 1) := by decide +kernel
theorem dX7_digest_246 : decode cX7_digest 246 = .ok (.lstore_n 1, 1) := by decide +kernel
theorem dX7_digest_247 : decode cX7_digest 247 = .ok (.ldc2_w 300, 3) := by decide +kernel
theorem dX7_digest_250 : decode cX7_digest 250 = .ok (.lload_n 1, 1) := by decide +kernel
theorem dX7_digest_251 : decode cX7_digest 251 = .ok (.lmul, 1) := by decide +kernel
theorem dX7_digest_252 : decode cX7_digest 252 = .ok (.aload_n 0, 1) := by decide +kernel
theorem dX7_digest_253 : decode cX7_digest 253 = .ok (.invokevirtual 231, 3) := by decide +kernel
theorem dX7_digest_256 : decode cX7_digest 256 = .ok (.i2l, 1) := by decide +kernel
theorem dX7_digest_257 : decode cX7_digest 257 = .ok (.ladd, 1) := by decide +kernel
theorem dX7_digest_258 : decode cX7_digest 258 = .ok (.lstore_n 1, 1) := by decide +kernel
theorem dX7_digest_259 : decode cX7_digest 259 = .ok (.ldc2_w 300, 3) := by decide +kernel
theorem dX7_digest_262 : decode cX7_digest 262 = .ok (.lload_n 1, 1) := by decide +kernel
theorem dX7_digest_263 : decode cX7_digest 263 = .ok (.lmul, 1) := by decide +kernel
theorem dX7_digest_264 : decode cX7_digest 264 = .ok (.aload_n 0, 1) := by decide +kernel
theorem dX7_digest_265 : decode cX7_digest 265 = .ok (.iconst 0, 1) := by decide +kernel
theorem dX7_digest_266 : decode cX7_digest 266 = .ok (.invokevirtual 234, 3) := by decide +kernel
theorem dX7_digest_269 : decode cX7_digest 269 = .ok (.i2l, 1) := by decide +kernel
theorem dX7_digest_270 : decode cX7_digest 270 = .ok (.ladd, 1) := by decide +kernel
theorem dX7_digest_271 : decode cX7_digest 271 = .ok (.lstore_n 1, 1) := by decide +kernel
theorem dX7_digest_272 : decode cX7_digest 272 = .ok (.ldc2_w 300, 3) := by decide +kernel
theorem dX7_digest_275 : decode cX7_digest 275 = .ok (.lload_n 1, 1) := by decide +kernel
theorem dX7_digest_276 : decode cX7_digest 276 = .ok (.lmul, 1) := by decide +kernel
theorem dX7_digest_277 : decode cX7_digest 277 = .ok (.aload_n 0, 1) := by decide +kernel
theorem dX7_digest_278 : decode cX7_digest 278 = .ok (.iconst 1, 1) := by decide +kernel
theorem dX7_digest_279 : decode cX7_digest 279 = .ok (.invokevirtual 234, 3) := by decide +kernel
theorem dX7_digest_282 : decode cX7_digest 282 = .ok (.i2l, 1) := by decide +kernel
theorem dX7_digest_283 : decode cX7_digest 283 = .ok (.ladd, 1) := by decide +kernel
theorem dX7_digest_284 : decode cX7_digest 284 = .ok (.lstore_n 1, 1) := by decide +kernel
theorem dX7_digest_285 : decode cX7_digest 285 = .ok (.iconst 0, 1) := by decide +kernel
theorem dX7_digest_286 : decode cX7_digest 286 = .ok (.istore_n 3, 1) := by decide +kernel
theorem dX7_digest_287 : decode cX7_digest 287 = .ok (.iload_n 3, 1) := by decide +kernel
theorem dX7_digest_288 : decode cX7_digest 288 = .ok (.iconst 3, 1) := by decide +kernel
theorem dX7_digest_289 : decode cX7_digest 289 = .ok (.if_icmp .ge 22, 3) := by decide +kernel
theorem dX7_digest_292 : decode cX7_digest 292 = .ok (.ldc2_w 300, 3) := by decide +kernel
theorem dX7_digest_295 : decode cX7_digest 295 = .ok (.lload_n 1, 1) := by decide +kernel
theorem dX7_digest_296 : decode cX7_digest 296 = .ok (.lmul, 1) := by decide +kernel
theorem dX7_digest_297 : decode cX7_digest 297 = .ok (.aload_n 0, 1) := by decide +kernel
theorem dX7_digest_298 : decode cX7_digest 298 = .ok (.iload_n 3, 1) := by decide +kernel
theorem dX7_digest_299 : decode cX7_digest 299 = .ok (.invokevirtual 237, 3) := by decide +kernel
theorem dX7_digest_302 : decode cX7_digest 302 = .ok (.i2l, 1) := by decide +kernel
theorem dX7_digest_303 : decode cX7_digest 303 = .ok (.ladd, 1) := by decide +kernel
theorem dX7_digest_304 : decode cX7_digest 304 = .ok (.lstore_n 1, 1) := by decide +kernel
theorem dX7_digest_305 : decode cX7_digest 305 = .ok (.iinc 3 1, 3) := by decide +kernel
theorem dX7_digest_308 : decode cX7_digest 308 = .ok (.goto (-21), 3) := by decide +kernel
theorem dX7_digest_311 : decode cX7_digest 311 = .ok (.ldc2_w 300, 3) := by decide +kernel
theorem dX7_digest_314 : decode cX7_digest 314 = .ok (.lload_n 1, 1) := by decide +kernel
theorem dX7_digest_315 : decode cX7_digest 315 = .ok (.lmul, 1) := by decide +kernel
theorem dX7_digest_316 : decode cX7_digest 316 = .ok (.aload_n 0, 1) := by decide +kernel
theorem dX7_digest_317 : decode cX7_digest 317 = .ok (.iconst 0, 1) := by decide +kernel
theorem dX7_digest_318 : decode cX7_digest 318 = .ok (.invokevirtual 240, 3) := by decide +kernel
theorem dX7_digest_321 : decode cX7_digest 321 = .ok (.i2l, 1) := by decide +kernel
theorem dX7_digest_322 : decode cX7_digest 322 = .ok (.ladd, 1) := by decide +kernel
theorem dX7_digest_323 : decode cX7_digest 323 = .ok (.lstore_n 1, 1) := by decide +kernel
theorem dX7_digest_324 : decode cX7_digest 324 = .ok (.ldc2_w 300, 3) := by decide +kernel
theorem dX7_digest_327 : decode cX7_digest 327 = .ok (.lload_n 1, 1) := by decide +kernel
theorem dX7_digest_328 : decode cX7_digest 328 = .ok (.lmul, 1) := by decide +kernel
theorem dX7_digest_329 : decode cX7_digest 329 = .ok (.aload_n 0, 1) := by decide +kernel
theorem dX7_digest_330 : decode cX7_digest 330 = .ok (.iconst 1, 1) := by decide +kernel
theorem dX7_digest_331 : decode cX7_digest 331 = .ok (.invokevirtual 240, 3) := by decide +kernel
theorem dX7_digest_334 : decode cX7_digest 334 = .ok (.i2l, 1) := by decide +kernel
theorem dX7_digest_335 : decode cX7_digest 335 = .ok (.ladd, 1) := by decide +kernel
theorem dX7_digest_336 : decode cX7_digest 336 = .ok (.lstore_n 1, 1) := by decide +kernel
theorem dX7_digest_337 : decode cX7_digest 337 = .ok (.ldc2_w 300, 3) := by decide +kernel
theorem dX7_digest_340 : decode cX7_digest 340 = .ok (.lload_n 1, 1) := by decide +kernel
theorem dX7_digest_341 : decode cX7_digest 341 = .ok (.lmul, 1) := by decide +kernel
theorem dX7_digest_342 : decode cX7_digest 342 = .ok (.aload_n 0, 1) := by decide +kernel
theorem dX7_digest_343 : decode cX7_digest 343 = .ok (.iconst (-1), 1) := by decide +kernel
theorem dX7_digest_344 : decode cX7_digest 344 = .ok (.invokevirtual 248, 3) := by decide +kernel
theorem dX7_digest_347 : decode cX7_digest 347 = .ok (.i2l, 1) := by decide +kernel
theorem dX7_digest_348 : decode cX7_digest 348 = .ok (.ladd, 1) := by decide +kernel
theorem dX7_digest_349 : decode cX7_digest 349 = .ok (.lstore_n 1, 1) := by decide +kernel
theorem dX7_digest_350 : decode cX7_digest 350 = .ok (.ldc2_w 300, 3) := by decide +kernel
theorem dX7_digest_353 : decode cX7_digest 353 = .ok (.lload_n 1, 1) := by decide +kernel
theorem dX7_digest_354 : decode cX7_digest 354 = .ok (.lmul, 1) := by decide +kernel
theorem dX7_digest_355 : decode cX7_digest 355 = .ok (.aload_n 0, 1) := by decide +kernel
theorem dX7_digest_356 : decode cX7_digest 356 = .ok (.iconst 0, 1) := by decide +kernel
theorem dX7_digest_357 : decode cX7_digest 357 = .ok (.invokevirtual 248, 3) := by decide +kernel
theorem dX7_digest_360 : decode cX7_digest 360 = .ok (.i2l, 1) := by decide +kernel
theorem dX7_digest_361 : decode cX7_digest 361 = .ok (.ladd, 1) := by decide +kernel
theorem dX7_digest_362 : decode cX7_digest 362 = .ok (.lstore_n 1, 1) := by decide +kernel
theorem dX7_digest_363 : decode cX7_digest 363 = .ok (.ldc2_w 300, 3) := by decide +kernel
theorem dX7_digest_366 : decode cX7_digest 366 = .ok (.lload_n 1, 1) := by decide +kernel
theorem dX7_digest_367 : decode cX7_digest 367 = .ok (.lmul, 1) := by decide +kernel
theorem dX7_digest_368 : decode cX7_digest 368 = .ok (.aload_n 0, 1) := by decide +kernel
theorem dX7_digest_369 : decode cX7_digest 369 = .ok (.invokevirtual 258, 3) := by decide +kernel
theorem dX7_digest_372 : decode cX7_digest 372 = .ok (.i2l, 1) := by decide +kernel
theorem dX7_digest_373 : decode cX7_digest 373 = .ok (.ladd, 1) := by decide +kernel
theorem dX7_digest_374 : decode cX7_digest 374 = .ok (.lstore_n 1, 1) := by decide +kernel
theorem dX7_digest_375 : decode cX7_digest 375 = .ok (.ldc2_w 300, 3) := by decide +kernel
theorem dX7_digest_378 : decode cX7_digest 378 = .ok (.lload_n 1, 1) := by decide +kernel
theorem dX7_digest_379 : decode cX7_digest 379 = .ok (.lmul, 1) := by decide +kernel
theorem dX7_digest_380 : decode cX7_digest 380 = .ok (.aload_n 0, 1) := by decide +kernel
theorem dX7_digest_381 : decode cX7_digest 381 = .ok (.bipush 7, 2) := by decide +kernel
theorem dX7_digest_383 : decode cX7_digest 383 = .ok (.bipush 12, 2) := by decide +kernel
theorem dX7_digest_385 : decode cX7_digest 385 = .ok (.iconst 0, 1) := by decide +kernel
theorem dX7_digest_386 : decode cX7_digest 386 = .ok (.invokevirtual 297, 3) := by decide +kernel
theorem dX7_digest_389 : decode cX7_digest 389 = .ok (.i2l, 1) := by decide +kernel
theorem dX7_digest_390 : decode cX7_digest 390 = .ok (.ladd, 1) := by decide +kernel
theorem dX7_digest_391 : decode cX7_digest 391 = .ok (.lstore_n 1, 1) := by decide +kernel
theorem dX7_digest_392 : decode cX7_digest 392 = .ok (.ldc2_w 300, 3) := by decide +kernel
theorem dX7_digest_395 : decode cX7_digest 395 = .ok (.lload_n 1, 1) := by decide +kernel
theorem dX7_digest_396 : decode cX7_digest 396 = .ok (.lmul, 1) := by decide +kernel
theorem dX7_digest_397 : decode cX7_digest 397 = .ok (.aload_n 0, 1) := by decide +kernel
theorem dX7_digest_398 : decode cX7_digest 398 = .ok (.bipush 7, 2) := by decide +kernel
theorem dX7_digest_400 : decode cX7_digest 400 = .ok (.bipush 12, 2) := by decide +kernel
theorem dX7_digest_402 : decode cX7_digest 402 = .ok (.iconst 1, 1) := by decide +kernel
theorem dX7_digest_403 : decode cX7_digest 403 = .ok (.invokevirtual 297, 3) := by decide +kernel
theorem dX7_digest_406 : decode cX7_digest 406 = .ok (.i2l, 1) := by decide +kernel
theorem dX7_digest_407 : decode cX7_digest 407 = .ok (.ladd, 1) := by decide +kernel
theorem dX7_digest_408 : decode cX7_digest 408 = .ok (.lreturn, 1) := by decide +kernel
