theorem dX8_init_71 : decode cX8_init 71 = .ok (.putfield 34, 3) := by decide +kernel
theorem dX8_init_74 : decode cX8_init 74 = .ok (.aload_n 0, 1) := by decide +kernel
theorem dX8_init_75 : decode cX8_init 75 = .ok (.bipush 16, 2) := by decide +kernel
theorem dX8_init_77 : decode cX8_init 77 = .ok (.newarray .int, 2) := by decide +kernel
theorem dX8_init_79 : decode cX8_init 79 = .ok (.putfield 37, 3) := by decide +kernel
theorem dX8_init_82 : decode cX8_init 82 = .ok (.aload_n 0, 1) := by decide +kernel
theorem dX8_init_83 : decode cX8_init 83 = .ok (.bipush 22, 2) := by decide +kernel
theorem dX8_init_85 : decode cX8_init 85 = .ok (.newarray .int, 2) := by decide +kernel
theorem dX8_init_87 : decode cX8_init 87 = .ok (.putfield 40, 3) := by decide +kernel
theorem dX8_init_90 : decode cX8_init 90 = .ok (.aload_n 0, 1) := by decide +kernel
theorem dX8_init_91 : decode cX8_init 91 = .ok (.bipush 8, 2) := by decide +kernel
theorem dX8_init_93 : decode cX8_init 93 = .ok (.newarray .int, 2) := by decide +kernel
theorem dX8_init_95 : decode cX8_init 95 = .ok (.putfield 43, 3) := by decide +kernel
theorem dX8_init_98 : decode cX8_init 98 = .ok (.aload_n 0, 1) := by decide +kernel
theorem dX8_init_99 : decode cX8_init 99 = .ok (.bipush 8, 2) := by decide +kernel
theorem dX8_init_101 : decode cX8_init 101 = .ok (.newarray .int, 2) := by decide +kernel
theorem dX8_init_103 : decode cX8_init 103 = .ok (.putfield 46, 3) := by decide +kernel
theorem dX8_init_106 : decode cX8_init 106 = .ok (.aload_n 0, 1) := by decide +kernel
theorem dX8_init_107 : decode cX8_init 107 = .ok (.bipush 8, 2) := by decide +kernel
theorem dX8_init_109 : decode cX8_init 109 = .ok (.newarray .int, 2) := by decide +kernel
theorem dX8_init_111 : decode cX8_init 111 = .ok (.putfield 49, 3) := by decide +kernel
theorem dX8_init_114 : decode cX8_init 114 = .ok (.aload_n 0, 1) := by decide +kernel
theorem dX8_init_115 : decode cX8_init 115 = .ok (.bipush 8, 2) := by decide +kernel
theorem dX8_init_117 : decode cX8_init 117 = .ok (.newarray .int, 2) := by decide +kernel
theorem dX8_init_119 : decode cX8_init 119 = .ok (.putfield 52, 3) := by decide +kernel
theorem dX8_init_122 : decode cX8_init 122 = .ok (.aload_n 0, 1) := by decide +kernel
theorem dX8_init_123 : decode cX8_init 123 = .ok (.bipush 8, 2) := by decide +kernel
theorem dX8_init_125 : decode cX8_init 125 = .ok (.newarray .int, 2) := by decide +kernel
theorem dX8_init_127 : decode cX8_init 127 = .ok (.putfield 55, 3) := by decide +kernel
theorem dX8_init_130 : decode cX8_init 130 = .ok (.aload_n 0, 1) := by decide +kernel
theorem dX8_init_131 : decode cX8_init 131 = .ok (.bipush 52, 2) := by decide +kernel
theorem dX8_init_133 : decode cX8_init 133 = .ok (.newarray .int, 2) := by decide +kernel
theorem dX8_init_135 : decode cX8_init 135 = .ok (.putfield 58, 3) := by decide +kernel
theorem dX8_init_138 : decode cX8_init 138 = .ok (.aload_n 0, 1) := by decide +kernel
theorem dX8_init_139 : decode cX8_init 139 = .ok (.bipush 52, 2) := by decide +kernel
theorem dX8_init_141 : decode cX8_init 141 = .ok (.newarray .int, 2) := by decide +kernel
theorem dX8_init_143 : decode cX8_init 143 = .ok (.putfield 61, 3) := by decide +kernel
theorem dX8_init_146 : decode cX8_init 146 = .ok (.aload_n 0, 1) := by decide +kernel
theorem dX8_init_147 : decode cX8_init 147 = .ok (.bipush 52, 2) := by decide +kernel
theorem dX8_init_149 : decode cX8_init 149 = .ok (.newarray .int, 2) := by decide +kernel
theorem dX8_init_151 : decode cX8_init 151 = .ok (.putfield 64, 3) := by decide +kernel
theorem dX8_init_154 : decode cX8_init 154 = .ok (.aload_n 0, 1) := by decide +kernel
theorem dX8_init_155 : decode cX8_init 155 = .ok (.bipush 52, 2) := by decide +kernel
theorem dX8_init_157 : decode cX8_init 157 = .ok (.newarray .int, 2) := by decide +kernel
theorem dX8_init_159 : decode cX8_init 159 = .ok (.putfield 67, 3) := by decide +kernel
theorem dX8_init_162 : decode cX8_init 162 = .ok (.aload_n 0, 1) := by decide +kernel
theorem dX8_init_163 : decode cX8_init 163 = .ok (.sipush 2304, 3) := by decide +kernel
theorem dX8_init_166 : decode cX8_init 166 = .ok (.newarray .int, 2) := by decide +kernel
theorem dX8_init_168 : decode cX8_init 168 = .ok (.putfield 70, 3) := by decide +kernel
theorem dX8_init_171 : decode cX8_init 171 = .ok (.aload_n 0, 1) := by decide +kernel
theorem dX8_init_172 : decode cX8_init 172 = .ok (.iconst 3, 1) := by decide +kernel
theorem dX8_init_173 : decode cX8_init 173 = .ok (.newarray .int, 2) := by decide +kernel
theorem dX8_init_175 : decode cX8_init 175 = .ok (.putfield 73, 3) := by decide +kernel
theorem dX8_init_178 : decode cX8_init 178 = .ok (.aload_n 0, 1) := by decide +kernel
theorem dX8_init_179 : decode cX8_init 179 = .ok (.bipush 24, 2) := by decide +kernel
theorem dX8_init_181 : decode cX8_init 181 = .ok (.newarray .int, 2) := by decide +kernel
theorem dX8_init_183 : decode cX8_init 183 = .ok (.putfield 76, 3) := by decide +kernel
theorem dX8_init_186 : decode cX8_init 186 = .ok (.aload_n 0, 1) := by decide +kernel
theorem dX8_init_187 : decode cX8_init 187 = .ok (.bipush 80, 2) := by decide +kernel
theorem dX8_init_189 : decode cX8_init 189 = .ok (.newarray .int, 2) := by decide +kernel
theorem dX8_init_191 : decode cX8_init 191 = .ok (.putfield 79, 3) := by decide +kernel
theorem dX8_init_194 : decode cX8_init 194 = .ok (.iconst 0, 1) := by decide +kernel
theorem dX8_init_195 : decode cX8_init 195 = .ok (.istore_n 1, 1) := by decide +kernel
theorem dX8_init_196 : decode cX8_init 196 = .ok (.iload_n 1, 1) := by decide +kernel
theorem dX8_init_197 : decode cX8_init 197 = .ok (.iconst 4, 1) := by decide +kernel
theorem dX8_init_198 : decode cX8_init 198 = .ok (.if_icmp .ge 16, 3) := by decide +kernel
theorem dX8_init_201 : decode cX8_init 201 = .ok (.aload_n 0, 1) := by decide +kernel
theorem dX8_init_202 : decode cX8_init 202 = .ok (.getfield 7, 3) := by decide +kernel
theorem dX8_init_205 : decode cX8_init 205 = .ok (.iload_n 1, 1) := by decide +kernel
theorem dX8_init_206 : decode cX8_init 206 = .ok (.iconst (-1), 1) := by decide +kernel
theorem dX8_init_207 : decode cX8_init 207 = .ok (.iastore, 1) := by decide +kernel
theorem dX8_init_208 : decode cX8_init 208 = .ok (.iinc 1 1, 3) := by decide +kernel
theorem dX8_init_211 : decode cX8_init 211 = .ok (.goto (-15), 3) := by decide +kernel
theorem dX8_init_214 : decode cX8_init 214 = .ok (.aload_n 0, 1) := by decide +kernel
theorem dX8_init_215 : decode cX8_init 215 = .ok (.iconst 2, 1) := by decide +kernel
theorem dX8_init_216 : decode cX8_init 216 = .ok (.putfield 82, 3) := by decide +kernel
theorem dX8_init_219 : decode cX8_init 219 = .ok (.aload_n 0, 1) := by decide +kernel
theorem dX8_init_220 : decode cX8_init 220 = .ok (.iconst (-1), 1) := by decide +kernel
theorem dX8_init_221 : decode cX8_init 221 = .ok (.putfield 86, 3) := by decide +kernel
theorem dX8_init_224 : decode cX8_init 224 = .ok (.aload_n 0, 1) := by decide +kernel
theorem dX8_init_225 : decode cX8_init 225 = .ok (.iconst (-1), 1) := by decide +kernel
theorem dX8_init_226 : decode cX8_init 226 = .ok (.putfield 89, 3) := by decide +kernel
theorem dX8_init_229 : decode cX8_init 229 = .ok (.return_, 1) := by decide +kernel
theorem dX8_in_0 : decode cX8_in 0 = .ok (.lload_n 0, 1) := by decide +kernel
theorem dX8_in_1 : decode cX8_in 1 = .ok (.lload_n 2, 1) := by decide +kernel
theorem dX8_in_2 : decode cX8_in 2 = .ok (.lcmp, 1) := by decide +kernel
theorem dX8_in_3 : decode cX8_in 3 = .ok (.ifCond .lt 14, 3) := by decide +kernel
theorem dX8_in_6 : decode cX8_in 6 = .ok (.lload_n 0, 1) := by decide +kernel
theorem dX8_in_7 : decode cX8_in 7 = .ok (.lload 4, 2) := by decide +kernel
theorem dX8_in_9 : decode cX8_in 9 = .ok (.lcmp, 1) := by decide +kernel
theorem dX8_in_10 : decode cX8_in 10 = .ok (.ifCond .gt 7, 3) := by decide +kernel
theorem dX8_in_13 : decode cX8_in 13 = .ok (.iconst 1, 1) := by decide +kernel
theorem dX8_in_14 : decode cX8_in 14 = .ok (.goto 4, 3) := by decide +kernel
theorem dX8_in_17 : decode cX8_in 17 = .ok (.iconst 0, 1) := by decide +kernel
theorem dX8_in_18 : decode cX8_in 18 = .ok (.ireturn, 1) := by decide +kernel
theorem dX8_no_0 : decode cX8_no 0 = .ok (.ldc2_w 92, 3) := by decide +kernel
theorem dX8_no_3 : decode cX8_no 3 = .ok (.iload_n 0, 1) := by decide +kernel
theorem dX8_no_4 : decode cX8_no 4 = .ok (.i2l, 1) := by decide +kernel
theorem dX8_no_5 : decode cX8_no 5 = .ok (.lsub, 1) := by decide +kernel
theorem dX8_no_6 : decode cX8_no 6 = .ok (.lreturn, 1) := by decide +kernel
theorem dX8_isTwo_0 : decode cX8_isTwo 0 = .ok (.iload_n 0, 1) := by decide +kernel
theorem dX8_isTwo_1 : decode cX8_isTwo 1 = .ok (.i2l, 1) := by decide +kernel
theorem dX8_isTwo_2 : decode cX8_isTwo 2 = .ok (.lconst 0, 1) := by decide +kernel
theorem dX8_isTwo_3 : decode cX8_isTwo 3 = .ok (.lconst 1, 1) := by decide +kernel
theorem dX8_isTwo_4 : decode cX8_isTwo 4 = .ok (.invokestatic 94, 3) := by decide +kernel
theorem dX8_isTwo_7 : decode cX8_isTwo 7 = .ok (.ireturn, 1) := by decide +kernel
theorem dX8_isIn_0 : decode cX8_isIn 0 = .ok (.iload_n 0, 1) := by decide +kernel
theorem dX8_isIn_1 : decode cX8_isIn 1 = .ok (.iload_n 1, 1) := by decide +kernel
theorem dX8_isIn_2 : decode cX8_isIn 2 = .ok (.ishr, 1) := by decide +kernel
theorem dX8_isIn_3 : decode cX8_isIn 3 = .ok (.iconst 1, 1) := by decide +kernel
theorem dX8_isIn_4 : decode cX8_isIn 4 = .ok (.iand, 1) := by decide +kernel
theorem dX8_isIn_5 : decode cX8_isIn 5 = .ok (.iconst 1, 1) := by decide +kernel
theorem dX8_isIn_6 : decode cX8_isIn 6 = .ok (.if_icmp .ne 7, 3) := by decide +kernel
theorem dX8_isIn_9 : decode cX8_isIn 9 = .ok (.iconst 1, 1) := by decide +kernel
theorem dX8_isIn_10 : decode cX8_isIn 10 = .ok (.goto 4, 3) := by decide +kernel
theorem dX8_isIn_13 : decode cX8_isIn 13 = .ok (.iconst 0, 1) := by decide +kernel
theorem dX8_isIn_14 : decode cX8_isIn 14 = .ok (.ireturn, 1) := by decide +kernel
theorem dX8_lesser_0 : decode cX8_lesser 0 = .ok (.iload_n 0, 1) := by decide +kernel
theorem dX8_lesser_1 : decode cX8_lesser 1 = .ok (.iload_n 1, 1) := by decide +kernel
theorem dX8_lesser_2 : decode cX8_lesser 2 = .ok (.if_icmp .ge 7, 3) := by decide +kernel
theorem dX8_lesser_5 : decode cX8_lesser 5 = .ok (.iload_n 0, 1) := by decide +kernel
theorem dX8_lesser_6 : decode cX8_lesser 6 = .ok (.goto 4, 3) := by decide +kernel
theorem dX8_lesser_9 : decode cX8_lesser 9 = .ok (.iload_n 1, 1) := by decide +kernel
theorem dX8_lesser_10 : decode cX8_lesser 10 = .ok (.ireturn, 1) := by decide +kernel
theorem dX8_greater_0 : decode cX8_greater 0 = .ok (.iload_n 0, 1) := by decide +kernel
theorem dX8_greater_1 : decode cX8_greater 1 = .ok (.iload_n 1, 1) := by decide +kernel
theorem dX8_greater_2 : decode cX8_greater 2 = .ok (.if_icmp .le 7, 3) := by decide +kernel
theorem dX8_greater_5 : decode cX8_greater 5 = .ok (.iload_n 0, 1) := by decide +kernel
theorem dX8_greater_6 : decode cX8_greater 6 = .ok (.goto 4, 3) := by decide +kernel
theorem dX8_greater_9 : decode cX8_greater 9 = .ok (.iload_n 1, 1) := by decide +kernel
theorem dX8_greater_10 : decode cX8_greater 10 = .ok (.ireturn, 1) := by decide +kernel
theorem dX8_part_0 : decode cX8_part 0 = .ok (.lload_n 0, 1) := by decide +kernel
theorem dX8_part_1 : decode cX8_part 1 = .ok (.lstore 5, 2) := by decide +kernel
theorem dX8_part_3 : decode cX8_part 3 = .ok (.lload_n 2, 1) := by decide +kernel
theorem dX8_part_4 : decode cX8_part 4 = .ok (.lstore 7, 2) := by decide +kernel
theorem dX8_part_6 : decode cX8_part 6 = .ok (.lload 7, 2) := by decide +kernel
theorem dX8_part_8 : decode cX8_part 8 = .ok (.lconst 0, 1) := by decide +kernel
theorem dX8_part_9 : decode cX8_part 9 = .ok (.lcmp, 1) := by decide +kernel
theorem dX8_part_10 : decode cX8_part 10 = .ok (.ifCond .eq 21, 3) := by decide +kernel
theorem dX8_part_13 : decode cX8_part 13 = .ok (.lload 5, 2) := by decide +kernel
theorem dX8_part_15 : decode cX8_part 15 = .ok (.lload 7, 2) := by decide +kernel
theorem dX8_part_17 : decode cX8_part 17 = .ok (.lrem, 1) := by decide +kernel
theorem dX8_part_18 : decode cX8_part 18 = .ok (.lstore 9, 2) := by decide +kernel
theorem dX8_part_20 : decode cX8_part 20 = .ok (.lload 7, 2) := by decide +kernel
theorem dX8_part_22 : decode cX8_part 22 = .ok (.lstore 5, 2) := by decide +kernel
theorem dX8_part_24 : decode cX8_part 24 = .ok (.lload 9, 2) := by decide +kernel
theorem dX8_part_26 : decode cX8_part 26 = .ok (.lstore 7, 2) := by decide +kernel
theorem dX8_part_28 : decode cX8_part 28 = .ok (.goto (-22), 3) := by decide +kernel
theorem dX8_part_31 : decode cX8_part 31 = .ok (.iload 4, 2) := by decide +kernel
theorem dX8_part_33 : decode cX8_part 33 = .ok (.ifCond .ne 7, 3) := by decide +kernel
theorem dX8_part_36 : decode cX8_part 36 = .ok (.lload_n 0, 1) := by decide +kernel
theorem dX8_part_37 : decode cX8_part 37 = .ok (.goto 4, 3) := by decide +kernel
theorem dX8_part_40 : decode cX8_part 40 = .ok (.lload_n 2, 1) := by decide +kernel
theorem dX8_part_41 : decode cX8_part 41 = .ok (.lload 5, 2) := by decide +kernel
theorem dX8_part_43 : decode cX8_part 43 = .ok (.ldiv, 1) := by decide +kernel
theorem dX8_part_44 : decode cX8_part 44 = .ok (.lreturn, 1) := by decide +kernel
theorem dX8_finds_0 : decode cX8_finds 0 = .ok (.aload_n 0, 1) := by decide +kernel
theorem dX8_finds_1 : decode cX8_finds 1 = .ok (.iload_n 1, 1) := by decide +kernel
theorem dX8_finds_2 : decode cX8_finds 2 = .ok (.putfield 98, 3) := by decide +kernel
theorem dX8_finds_5 : decode cX8_finds 5 = .ok (.bipush (-10), 2) := by decide +kernel
theorem dX8_finds_7 : decode cX8_finds 7 = .ok (.iload_n 1, 1) := by decide +kernel
theorem dX8_finds_8 : decode cX8_finds 8 = .ok (.isub, 1) := by decide +kernel
theorem dX8_finds_9 : decode cX8_finds 9 = .ok (.ireturn, 1) := by decide +kernel
theorem dX8_isSheet_0 : decode cX8_isSheet 0 = .ok (.iload_n 0, 1) := by decide +kernel
theorem dX8_isSheet_1 : decode cX8_isSheet 1 = .ok (.i2l, 1) := by decide +kernel
theorem dX8_isSheet_2 : decode cX8_isSheet 2 = .ok (.lconst 0, 1) := by decide +kernel
theorem dX8_isSheet_3 : decode cX8_isSheet 3 = .ok (.ldc2_w 101, 3) := by decide +kernel
theorem dX8_isSheet_6 : decode cX8_isSheet 6 = .ok (.invokestatic 94, 3) := by decide +kernel
theorem dX8_isSheet_9 : decode cX8_isSheet 9 = .ok (.ireturn, 1) := by decide +kernel
theorem dX8_sheet_0 : decode cX8_sheet 0 = .ok (.iload_n 1, 1) := by decide +kernel
theorem dX8_sheet_1 : decode cX8_sheet 1 = .ok (.invokestatic 103, 3) := by decide +kernel
theorem dX8_sheet_4 : decode cX8_sheet 4 = .ok (.ifCond .eq 21, 3) := by decide +kernel
theorem dX8_sheet_7 : decode cX8_sheet 7 = .ok (.iload_n 2, 1) := by decide +kernel
theorem dX8_sheet_8 : decode cX8_sheet 8 = .ok (.i2l, 1) := by decide +kernel
theorem dX8_sheet_9 : decode cX8_sheet 9 = .ok (.lconst 0, 1) := by decide +kernel
theorem dX8_sheet_10 : decode cX8_sheet 10 = .ok (.ldc2_w 107, 3) := by decide +kernel
theorem dX8_sheet_13 : decode cX8_sheet 13 = .ok (.invokestatic 94, 3) := by decide +kernel
theorem dX8_sheet_16 : decode cX8_sheet 16 = .ok (.ifCond .eq 9, 3) := by decide +kernel
theorem dX8_sheet_19 : decode cX8_sheet 19 = .ok (.iload_n 3, 1) := by decide +kernel
theorem dX8_sheet_20 : decode cX8_sheet 20 = .ok (.bipush 60, 2) := by decide +kernel
theorem dX8_sheet_22 : decode cX8_sheet 22 = .ok (.if_icmp .le 6, 3) := by decide +kernel
theorem dX8_sheet_25 : decode cX8_sheet 25 = .ok (.bipush (-2), 2) := by decide +kernel
theorem dX8_sheet_27 : decode cX8_sheet 27 = .ok (.ireturn, 1) := by decide +kernel
theorem dX8_sheet_28 : decode cX8_sheet 28 = .ok (.iload_n 3, 1) := by decide +kernel
theorem dX8_sheet_29 : decode cX8_sheet 29 = .ok (.ifCond .ge 9, 3) := by decide +kernel
theorem dX8_sheet_32 : decode cX8_sheet 32 = .ok (.aload_n 0, 1) := by decide +kernel
theorem dX8_sheet_33 : decode cX8_sheet 33 = .ok (.iconst 5, 1) := by decide +kernel
theorem dX8_sheet_34 : decode cX8_sheet 34 = .ok (.invokevirtual 109, 3) := by decide +kernel
theorem dX8_sheet_37 : decode cX8_sheet 37 = .ok (.ireturn, 1) := by decide +kernel
theorem dX8_sheet_38 : decode cX8_sheet 38 = .ok (.aload_n 0, 1) := by decide +kernel
theorem dX8_sheet_39 : decode cX8_sheet 39 = .ok (.getfield 7, 3) := by decide +kernel
theorem dX8_sheet_42 : decode cX8_sheet 42 = .ok (.iload_n 1, 1) := by decide +kernel
theorem dX8_sheet_43 : decode cX8_sheet 43 = .ok (.iload_n 2, 1) := by decide +kernel
theorem dX8_sheet_44 : decode cX8_sheet 44 = .ok (.iastore, 1) := by decide +kernel
theorem dX8_sheet_45 : decode cX8_sheet 45 = .ok (.aload_n 0, 1) := by decide +kernel
theorem dX8_sheet_46 : decode cX8_sheet 46 = .ok (.getfield 13, 3) := by decide +kernel
theorem dX8_sheet_49 : decode cX8_sheet 49 = .ok (.iload_n 1, 1) := by decide +kernel
theorem dX8_sheet_50 : decode cX8_sheet 50 = .ok (.iload_n 3, 1) := by decide +kernel
theorem dX8_sheet_51 : decode cX8_sheet 51 = .ok (.iastore, 1) := by decide +kernel
theorem dX8_sheet_52 : decode cX8_sheet 52 = .ok (.iconst 0, 1) := by decide +kernel
theorem dX8_sheet_53 : decode cX8_sheet 53 = .ok (.istore 4, 2) := by decide +kernel
theorem dX8_sheet_55 : decode cX8_sheet 55 = .ok (.iload 4, 2) := by decide +kernel
theorem dX8_sheet_57 : decode cX8_sheet 57 = .ok (.iload_n 3, 1) := by decide +kernel
theorem dX8_sheet_58 : decode cX8_sheet 58 = .ok (.if_icmp .ge 22, 3) := by decide +kernel
theorem dX8_sheet_61 : decode cX8_sheet 61 = .ok (.aload_n 0, 1) := by decide +kernel
theorem dX8_sheet_62 : decode cX8_sheet 62 = .ok (.getfield 16, 3) := by decide +kernel
theorem dX8_sheet_65 : decode cX8_sheet 65 = .ok (.bipush 60, 2) := by decide +kernel
theorem dX8_sheet_67 : decode cX8_sheet 67 = .ok (.iload_n 1, 1) := by decide +kernel
theorem dX8_sheet_68 : decode cX8_sheet 68 = .ok (.imul, 1) := by decide +kernel
theorem dX8_sheet_69 : decode cX8_sheet 69 = .ok (.iload 4, 2) := by decide +kernel
theorem dX8_sheet_71 : decode cX8_sheet 71 = .ok (.iadd, 1) := by decide +kernel
theorem dX8_sheet_72 : decode cX8_sheet 72 = .ok (.iconst 0, 1) := by decide +kernel
theorem dX8_sheet_73 : decode cX8_sheet 73 = .ok (.iastore, 1) := by decide +kernel
theorem dX8_sheet_74 : decode cX8_sheet 74 = .ok (.iinc 4 1, 3) := by decide +kernel
theorem dX8_sheet_77 : decode cX8_sheet 77 = .ok (.goto (-22), 3) := by decide +kernel
theorem dX8_sheet_80 : decode cX8_sheet 80 = .ok (.iload_n 3, 1) := by decide +kernel
theorem dX8_sheet_81 : decode cX8_sheet 81 = .ok (.ireturn, 1) := by decide +kernel
theorem dX8_lose_0 : decode cX8_lose 0 = .ok (.iload_n 1, 1) := by decide +kernel
theorem dX8_lose_1 : decode cX8_lose 1 = .ok (.invokestatic 103, 3) := by decide +kernel
theorem dX8_lose_4 : decode cX8_lose 4 = .ok (.ifCond .ne 6, 3) := by decide +kernel
theorem dX8_lose_7 : decode cX8_lose 7 = .ok (.bipush (-2), 2) := by decide +kernel
theorem dX8_lose_9 : decode cX8_lose 9 = .ok (.ireturn, 1) := by decide +kernel
theorem dX8_lose_10 : decode cX8_lose 10 = .ok (.aload_n 0, 1) := by decide +kernel
theorem dX8_lose_11 : decode cX8_lose 11 = .ok (.getfield 7, 3) := by decide +kernel
theorem dX8_lose_14 : decode cX8_lose 14 = .ok (.iload_n 1, 1) := by decide +kernel
theorem dX8_lose_15 : decode cX8_lose 15 = .ok (.iaload, 1) := by decide +kernel
theorem dX8_lose_16 : decode cX8_lose 16 = .ok (.ifCond .ge 9, 3) := by decide +kernel
theorem dX8_lose_19 : decode cX8_lose 19 = .ok (.aload_n 0, 1) := by decide +kernel
theorem dX8_lose_20 : decode cX8_lose 20 = .ok (.iconst 1, 1) := by decide +kernel
theorem dX8_lose_21 : decode cX8_lose 21 = .ok (.invokevirtual 109, 3) := by decide +kernel
theorem dX8_lose_24 : decode cX8_lose 24 = .ok (.ireturn, 1) := by decide +kernel
theorem dX8_lose_25 : decode cX8_lose 25 = .ok (.aload_n 0, 1) := by decide +kernel
theorem dX8_lose_26 : decode cX8_lose 26 = .ok (.getfield 7, 3) := by decide +kernel
theorem dX8_lose_29 : decode cX8_lose 29 = .ok (.iload_n 1, 1) := by decide +kernel
theorem dX8_lose_30 : decode cX8_lose 30 = .ok (.iconst (-1), 1) := by decide +kernel
theorem dX8_lose_31 : decode cX8_lose 31 = .ok (.iastore, 1) := by decide +kernel
theorem dX8_lose_32 : decode cX8_lose 32 = .ok (.aload_n 0, 1) := by decide +kernel
theorem dX8_lose_33 : decode cX8_lose 33 = .ok (.getfield 13, 3) := by decide +kernel
theorem dX8_lose_36 : decode cX8_lose 36 = .ok (.iload_n 1, 1) := by decide +kernel
theorem dX8_lose_37 : decode cX8_lose 37 = .ok (.iaload, 1) := by decide +kernel
theorem dX8_lose_38 : decode cX8_lose 38 = .ok (.ireturn, 1) := by decide +kernel
theorem dX8_lacks_0 : decode cX8_lacks 0 = .ok (.aload_n 0, 1) := by decide +kernel
theorem dX8_lacks_1 : decode cX8_lacks 1 = .ok (.getfield 7, 3) := by decide +kernel
theorem dX8_lacks_4 : decode cX8_lacks 4 = .ok (.iload_n 1, 1) := by decide +kernel
theorem dX8_lacks_5 : decode cX8_lacks 5 = .ok (.iaload, 1) := by decide +kernel
theorem dX8_lacks_6 : decode cX8_lacks 6 = .ok (.ifCond .ge 9, 3) := by decide +kernel
theorem dX8_lacks_9 : decode cX8_lacks 9 = .ok (.aload_n 0, 1) := by decide +kernel
theorem dX8_lacks_10 : decode cX8_lacks 10 = .ok (.iconst 1, 1) := by decide +kernel
theorem dX8_lacks_11 : decode cX8_lacks 11 = .ok (.invokevirtual 109, 3) := by decide +kernel
theorem dX8_lacks_14 : decode cX8_lacks 14 = .ok (.ireturn, 1) := by decide +kernel
theorem dX8_lacks_15 : decode cX8_lacks 15 = .ok (.aload_n 0, 1) := by decide +kernel
theorem dX8_lacks_16 : decode cX8_lacks 16 = .ok (.getfield 7, 3) := by decide +kernel
theorem dX8_lacks_19 : decode cX8_lacks 19 = .ok (.iload_n 1, 1) := by decide +kernel
theorem dX8_lacks_20 : decode cX8_lacks 20 = .ok (.iaload, 1) := by decide +kernel
theorem dX8_lacks_21 : decode cX8_lacks 21 = .ok (.iload_n 2, 1) := by decide +kernel
theorem dX8_lacks_22 : decode cX8_lacks 22 = .ok (.if_icmp .eq 9, 3) := by decide +kernel
theorem dX8_lacks_25 : decode cX8_lacks 25 = .ok (.aload_n 0, 1) := by decide +kernel
theorem dX8_lacks_26 : decode cX8_lacks 26 = .ok (.iconst 3, 1) := by decide +kernel
theorem dX8_lacks_27 : decode cX8_lacks 27 = .ok (.invokevirtual 109, 3) := by decide +kernel
theorem dX8_lacks_30 : decode cX8_lacks 30 = .ok (.ireturn, 1) := by decide +kernel
theorem dX8_lacks_31 : decode cX8_lacks 31 = .ok (.iload_n 3, 1) := by decide +kernel
theorem dX8_lacks_32 : decode cX8_lacks 32 = .ok (.i2l, 1) := by decide +kernel
theorem dX8_lacks_33 : decode cX8_lacks 33 = .ok (.lconst 0, 1) := by decide +kernel
theorem dX8_lacks_34 : decode cX8_lacks 34 = .ok (.aload_n 0, 1) := by decide +kernel
theorem dX8_lacks_35 : decode cX8_lacks 35 = .ok (.getfield 13, 3) := by decide +kernel
theorem dX8_lacks_38 : decode cX8_lacks 38 = .ok (.iload_n 1, 1) := by decide +kernel
theorem dX8_lacks_39 : decode cX8_lacks 39 = .ok (.iaload, 1) := by decide +kernel
theorem dX8_lacks_40 : decode cX8_lacks 40 = .ok (.iconst 1, 1) := by decide +kernel
theorem dX8_lacks_41 : decode cX8_lacks 41 = .ok (.isub, 1) := by decide +kernel
theorem dX8_lacks_42 : decode cX8_lacks 42 = .ok (.i2l, 1) := by decide +kernel
theorem dX8_lacks_43 : decode cX8_lacks 43 = .ok (.invokestatic 94, 3) := by decide +kernel
theorem dX8_lacks_46 : decode cX8_lacks 46 = .ok (.ifCond .eq 7, 3) := by decide +kernel
theorem dX8_lacks_49 : decode cX8_lacks 49 = .ok (.iconst 0, 1) := by decide +kernel
theorem dX8_lacks_50 : decode cX8_lacks 50 = .ok (.goto 8, 3) := by decide +kernel
theorem dX8_lacks_53 : decode cX8_lacks 53 = .ok (.aload_n 0, 1) := by decide +kernel
theorem dX8_lacks_54 : decode cX8_lacks 54 = .ok (.iconst 2, 1) := by decide +kernel
theorem dX8_lacks_55 : decode cX8_lacks 55 = .ok (.invokevirtual 109, 3) := by decide +kernel
theorem dX8_lacks_58 : decode cX8_lacks 58 = .ok (.ireturn, 1) := by decide +kernel
theorem dX8_cut_0 : decode cX8_cut 0 = .ok (.iload_n 0, 1) := by decide +kernel
theorem dX8_cut_1 : decode cX8_cut 1 = .ok (.ifCond .ne 8, 3) := by decide +kernel
theorem dX8_cut_4 : decode cX8_cut 4 = .ok (.iload_n 1, 1) := by decide +kernel
theorem dX8_cut_5 : decode cX8_cut 5 = .ok (.i2b, 1) := by decide +kernel
theorem dX8_cut_6 : decode cX8_cut 6 = .ok (.goto 14, 3) := by decide +kernel
theorem dX8_cut_9 : decode cX8_cut 9 = .ok (.iload_n 0, 1) := by decide +kernel
theorem dX8_cut_10 : decode cX8_cut 10 = .ok (.iconst 1, 1) := by decide +kernel
theorem dX8_cut_11 : decode cX8_cut 11 = .ok (.if_icmp .ne 8, 3) := by decide +kernel
theorem dX8_cut_14 : decode cX8_cut 14 = .ok (.iload_n 1, 1) := by decide +kernel
theorem dX8_cut_15 : decode cX8_cut 15 = .ok (.i2s, 1) := by decide +kernel
theorem dX8_cut_16 : decode cX8_cut 16 = .ok (.goto 4, 3) := by decide +kernel
theorem dX8_cut_19 : decode cX8_cut 19 = .ok (.iload_n 1, 1) := by decide +kernel
theorem dX8_cut_20 : decode cX8_cut 20 = .ok (.ireturn, 1) := by decide +kernel
theorem dX8_lay_0 : decode cX8_lay 0 = .ok (.iload_n 1, 1) := by decide +kernel
theorem dX8_lay_1 : decode cX8_lay 1 = .ok (.invokestatic 103, 3) := by decide +kernel
theorem dX8_lay_4 : decode cX8_lay 4 = .ok (.ifCond .eq 15, 3) := by decide +kernel
theorem dX8_lay_7 : decode cX8_lay 7 = .ok (.iload_n 2, 1) := by decide +kernel
theorem dX8_lay_8 : decode cX8_lay 8 = .ok (.i2l, 1) := by decide +kernel
theorem dX8_lay_9 : decode cX8_lay 9 = .ok (.lconst 0, 1) := by decide +kernel
theorem dX8_lay_10 : decode cX8_lay 10 = .ok (.ldc2_w 107, 3) := by decide +kernel
theorem dX8_lay_13 : decode cX8_lay 13 = .ok (.invokestatic 94, 3) := by decide +kernel
theorem dX8_lay_16 : decode cX8_lay 16 = .ok (.ifCond .ne 6, 3) := by decide +kernel
theorem dX8_lay_19 : decode cX8_lay 19 = .ok (.bipush (-2), 2) := by decide +kernel
theorem dX8_lay_21 : decode cX8_lay 21 = .ok (.ireturn, 1) := by decide +kernel
theorem dX8_lay_22 : decode cX8_lay 22 = .ok (.aload_n 0, 1) := by decide +kernel
theorem dX8_lay_23 : decode cX8_lay 23 = .ok (.iload_n 1, 1) := by decide +kernel
theorem dX8_lay_24 : decode cX8_lay 24 = .ok (.iload_n 2, 1) := by decide +kernel
theorem dX8_lay_25 : decode cX8_lay 25 = .ok (.iload_n 3, 1) := by decide +kernel
theorem dX8_lay_26 : decode cX8_lay 26 = .ok (.invokevirtual 113, 3) := by decide +kernel
theorem dX8_lay_29 : decode cX8_lay 29 = .ok (.istore 5, 2) := by decide +kernel
theorem dX8_lay_31 : decode cX8_lay 31 = .ok (.iload 5, 2) := by decide +kernel
theorem dX8_lay_33 : decode cX8_lay 33 = .ok (.ifCond .eq 6, 3) := by decide +kernel
theorem dX8_lay_36 : decode cX8_lay 36 = .ok (.iload 5, 2) := by decide +kernel
theorem dX8_lay_38 : decode cX8_lay 38 = .ok (.ireturn, 1) := by decide +kernel
theorem dX8_lay_39 : decode cX8_lay 39 = .ok (.aload_n 0, 1) := by decide +kernel
theorem dX8_lay_40 : decode cX8_lay 40 = .ok (.getfield 16, 3) := by decide +kernel
theorem dX8_lay_43 : decode cX8_lay 43 = .ok (.bipush 60, 2) := by decide +kernel
theorem dX8_lay_45 : decode cX8_lay 45 = .ok (.iload_n 1, 1) := by decide +kernel
theorem dX8_lay_46 : decode cX8_lay 46 = .ok (.imul, 1) := by decide +kernel
theorem dX8_lay_47 : decode cX8_lay 47 = .ok (.iload_n 3, 1) := by decide +kernel
theorem dX8_lay_48 : decode cX8_lay 48 = .ok (.iadd, 1) := by decide +kernel
theorem dX8_lay_49 : decode cX8_lay 49 = .ok (.iload_n 2, 1) := by decide +kernel
theorem dX8_lay_50 : decode cX8_lay 50 = .ok (.iload 4, 2) := by decide +kernel
theorem dX8_lay_52 : decode cX8_lay 52 = .ok (.invokestatic 117, 3) := by decide +kernel
theorem dX8_lay_55 : decode cX8_lay 55 = .ok (.iastore, 1) := by decide +kernel
theorem dX8_lay_56 : decode cX8_lay 56 = .ok (.iconst 1, 1) := by decide +kernel
theorem dX8_lay_57 : decode cX8_lay 57 = .ok (.ireturn, 1) := by decide +kernel
theorem dX8_get_0 : decode cX8_get 0 = .ok (.iload_n 1, 1) := by decide +kernel
theorem dX8_get_1 : decode cX8_get 1 = .ok (.invokestatic 103, 3) := by decide +kernel
theorem dX8_get_4 : decode cX8_get 4 = .ok (.ifCond .eq 25, 3) := by decide +kernel
theorem dX8_get_7 : decode cX8_get 7 = .ok (.iload_n 2, 1) := by decide +kernel
theorem dX8_get_8 : decode cX8_get 8 = .ok (.i2l, 1) := by decide +kernel
theorem dX8_get_9 : decode cX8_get 9 = .ok (.lconst 0, 1) := by decide +kernel
theorem dX8_get_10 : decode cX8_get 10 = .ok (.ldc2_w 107, 3) := by decide +kernel
theorem dX8_get_13 : decode cX8_get 13 = .ok (.invokestatic 94, 3) := by decide +kernel
theorem dX8_get_16 : decode cX8_get 16 = .ok (.ifCond .eq 13, 3) := by decide +kernel
theorem dX8_get_19 : decode cX8_get 19 = .ok (.aload_n 0, 1) := by decide +kernel
theorem dX8_get_20 : decode cX8_get 20 = .ok (.iload_n 1, 1) := by decide +kernel
theorem dX8_get_21 : decode cX8_get 21 = .ok (.iload_n 2, 1) := by decide +kernel
theorem dX8_get_22 : decode cX8_get 22 = .ok (.iload_n 3, 1) := by decide +kernel
theorem dX8_get_23 : decode cX8_get 23 = .ok (.invokevirtual 113, 3) := by decide +kernel
theorem dX8_get_26 : decode cX8_get 26 = .ok (.ifCond .eq 6, 3) := by decide +kernel
theorem dX8_get_29 : decode cX8_get 29 = .ok (.ldc 121, 2) := by decide +kernel
theorem dX8_get_31 : decode cX8_get 31 = .ok (.ireturn, 1) := by decide +kernel
theorem dX8_get_32 : decode cX8_get 32 = .ok (.aload_n 0, 1) := by decide +kernel
theorem dX8_get_33 : decode cX8_get 33 = .ok (.getfield 16, 3) := by decide +kernel
theorem dX8_get_36 : decode cX8_get 36 = .ok (.bipush 60, 2) := by decide +kernel
theorem dX8_get_38 : decode cX8_get 38 = .ok (.iload_n 1, 1) := by decide +kernel
theorem dX8_get_39 : decode cX8_get 39 = .ok (.imul, 1) := by decide +kernel
theorem dX8_get_40 : decode cX8_get 40 = .ok (.iload_n 3, 1) := by decide +kernel
theorem dX8_get_41 : decode cX8_get 41 = .ok (.iadd, 1) := by decide +kernel
theorem dX8_get_42 : decode cX8_get 42 = .ok (.iaload, 1) := by decide +kernel
theorem dX8_get_43 : decode cX8_get 43 = .ok (.ireturn, 1) := by decide +kernel
theorem dX8_copy_0 : decode cX8_copy 0 = .ok (.iload_n 1, 1) := by decide +kernel
theorem dX8_copy_1 : decode cX8_copy 1 = .ok (.invokestatic 103, 3) := by decide +kernel
theorem dX8_copy_4 : decode cX8_copy 4 = .ok (.ifCond .eq 10, 3) := by decide +kernel
theorem dX8_copy_7 : decode cX8_copy 7 = .ok (.iload_n 3, 1) := by decide +kernel
theorem dX8_copy_8 : decode cX8_copy 8 = .ok (.invokestatic 103, 3) := by decide +kernel
theorem dX8_copy_11 : decode cX8_copy 11 = .ok (.ifCond .ne 6, 3) := by decide +kernel
theorem dX8_copy_14 : decode cX8_copy 14 = .ok (.bipush (-2), 2) := by decide +kernel
theorem dX8_copy_16 : decode cX8_copy 16 = .ok (.ireturn, 1) := by decide +kernel
theorem dX8_copy_17 : decode cX8_copy 17 = .ok (.aload_n 0, 1) := by decide +kernel
theorem dX8_copy_18 : decode cX8_copy 18 = .ok (.getfield 7, 3) := by decide +kernel
theorem dX8_copy_21 : decode cX8_copy 21 = .ok (.iload_n 1, 1) := by decide +kernel
theorem dX8_copy_22 : decode cX8_copy 22 = .ok (.iaload, 1) := by decide +kernel
theorem dX8_copy_23 : decode cX8_copy 23 = .ok (.ifCond .lt 12, 3) := by decide +kernel
theorem dX8_copy_26 : decode cX8_copy 26 = .ok (.aload_n 0, 1) := by decide +kernel
theorem dX8_copy_27 : decode cX8_copy 27 = .ok (.getfield 7, 3) := by decide +kernel
theorem dX8_copy_30 : decode cX8_copy 30 = .ok (.iload_n 3, 1) := by decide +kernel
theorem dX8_copy_31 : decode cX8_copy 31 = .ok (.iaload, 1) := by decide +kernel
theorem dX8_copy_32 : decode cX8_copy 32 = .ok (.ifCond .ge 9, 3) := by decide +kernel
theorem dX8_copy_35 : decode cX8_copy 35 = .ok (.aload_n 0, 1) := by decide +kernel
theorem dX8_copy_36 : decode cX8_copy 36 = .ok (.iconst 1, 1) := by decide +kernel
theorem dX8_copy_37 : decode cX8_copy 37 = .ok (.invokevirtual 109, 3) := by decide +kernel
theorem dX8_copy_40 : decode cX8_copy 40 = .ok (.ireturn, 1) := by decide +kernel
theorem dX8_copy_41 : decode cX8_copy 41 = .ok (.aload_n 0, 1) := by decide +kernel
theorem dX8_copy_42 : decode cX8_copy 42 = .ok (.getfield 7, 3) := by decide +kernel
theorem dX8_copy_45 : decode cX8_copy 45 = .ok (.iload_n 1, 1) := by decide +kernel
theorem dX8_copy_46 : decode cX8_copy 46 = .ok (.iaload, 1) := by decide +kernel
theorem dX8_copy_47 : decode cX8_copy 47 = .ok (.aload_n 0, 1) := by decide +kernel
theorem dX8_copy_48 : decode cX8_copy 48 = .ok (.getfield 7, 3) := by decide +kernel
theorem dX8_copy_51 : decode cX8_copy 51 = .ok (.iload_n 3, 1) := by decide +kernel
theorem dX8_copy_52 : decode cX8_copy 52 = .ok (.iaload, 1) := by decide +kernel
theorem dX8_copy_53 : decode cX8_copy 53 = .ok (.if_icmp .eq 9, 3) := by decide +kernel
theorem dX8_copy_56 : decode cX8_copy 56 = .ok (.aload_n 0, 1) := by decide +kernel
theorem dX8_copy_57 : decode cX8_copy 57 = .ok (.iconst 4, 1) := by decide +kernel
theorem dX8_copy_58 : decode cX8_copy 58 = .ok (.invokevirtual 109, 3) := by decide +kernel
theorem dX8_copy_61 : decode cX8_copy 61 = .ok (.ireturn, 1) := by decide +kernel
theorem dX8_copy_62 : decode cX8_copy 62 = .ok (.iload_n 2, 1) := by decide +kernel
theorem dX8_copy_63 : decode cX8_copy 63 = .ok (.ifCond .lt 48, 3) := by decide +kernel
theorem dX8_copy_66 : decode cX8_copy 66 = .ok (.iload 4, 2) := by decide +kernel
theorem dX8_copy_68 : decode cX8_copy 68 = .ok (.ifCond .lt 43, 3) := by decide +kernel
theorem dX8_copy_71 : decode cX8_copy 71 = .ok (.iload 5, 2) := by decide +kernel
theorem dX8_copy_73 : decode cX8_copy 73 = .ok (.ifCond .lt 38, 3) := by decide +kernel
theorem dX8_copy_76 : decode cX8_copy 76 = .ok (.iload_n 2, 1) := by decide +kernel
theorem dX8_copy_77 : decode cX8_copy 77 = .ok (.i2l, 1) := by decide +kernel
theorem dX8_copy_78 : decode cX8_copy 78 = .ok (.iload 5, 2) := by decide +kernel
theorem dX8_copy_80 : decode cX8_copy 80 = .ok (.i2l, 1) := by decide +kernel
theorem dX8_copy_81 : decode cX8_copy 81 = .ok (.ladd, 1) := by decide +kernel
theorem dX8_copy_82 : decode cX8_copy 82 = .ok (.aload_n 0, 1) := by decide +kernel
theorem dX8_copy_83 : decode cX8_copy 83 = .ok (.getfield 13, 3) := by decide +kernel
theorem dX8_copy_86 : decode cX8_copy 86 = .ok (.iload_n 1, 1) := by decide +kernel
theorem dX8_copy_87 : decode cX8_copy 87 = .ok (.iaload, 1) := by decide +kernel
theorem dX8_copy_88 : decode cX8_copy 88 = .ok (.i2l, 1) := by decide +kernel
theorem dX8_copy_89 : decode cX8_copy 89 = .ok (.lcmp, 1) := by decide +kernel
theorem dX8_copy_90 : decode cX8_copy 90 = .ok (.ifCond .gt 21, 3) := by decide +kernel
theorem dX8_copy_93 : decode cX8_copy 93 = .ok (.iload 4, 2) := by decide +kernel
theorem dX8_copy_95 : decode cX8_copy 95 = .ok (.i2l, 1) := by decide +kernel
theorem dX8_copy_96 : decode cX8_copy 96 = .ok (.iload 5, 2) := by decide +kernel
theorem dX8_copy_98 : decode cX8_copy 98 = .ok (.i2l, 1) := by decide +kernel
theorem dX8_copy_99 : decode cX8_copy 99 = .ok (.ladd, 1) := by decide +kernel
theorem dX8_copy_100 : decode cX8_copy 100 = .ok (.aload_n 0, 1) := by decide +kernel
theorem dX8_copy_101 : decode cX8_copy 101 = .ok (.getfield 13, 3) := by decide +kernel
theorem dX8_copy_104 : decode cX8_copy 104 = .ok (.iload_n 3, 1) := by decide +kernel
theorem dX8_copy_105 : decode cX8_copy 105 = .ok (.iaload, 1) := by decide +kernel
theorem dX8_copy_106 : decode cX8_copy 106 = .ok (.i2l, 1) := by decide +kernel
theorem dX8_copy_107 : decode cX8_copy 107 = .ok (.lcmp, 1) := by decide +kernel
theorem dX8_copy_108 : decode cX8_copy 108 = .ok (.ifCond .le 9, 3) := by decide +kernel
theorem dX8_copy_111 : decode cX8_copy 111 = .ok (.aload_n 0, 1) := by decide +kernel
theorem dX8_copy_112 : decode cX8_copy 112 = .ok (.iconst 2, 1) := by decide +kernel
theorem dX8_copy_113 : decode cX8_copy 113 = .ok (.invokevirtual 109, 3) := by decide +kernel
theorem dX8_copy_116 : decode cX8_copy 116 = .ok (.ireturn, 1) := by decide +kernel
theorem dX8_copy_117 : decode cX8_copy 117 = .ok (.iconst 0, 1) := by decide +kernel
theorem dX8_copy_118 : decode cX8_copy 118 = .ok (.istore 6, 2) := by decide +kernel
theorem dX8_copy_120 : decode cX8_copy 120 = .ok (.iload 6, 2) := by decide +kernel
theorem dX8_copy_122 : decode cX8_copy 122 = .ok (.iload 5, 2) := by decide +kernel
theorem dX8_copy_124 : decode cX8_copy 124 = .ok (.if_icmp .ge 30, 3) := by decide +kernel
theorem dX8_copy_127 : decode cX8_copy 127 = .ok (.aload_n 0, 1) := by decide +kernel
theorem dX8_copy_128 : decode cX8_copy 128 = .ok (.getfield 19, 3) := by decide +kernel
theorem dX8_copy_131 : decode cX8_copy 131 = .ok (.iload 6, 2) := by decide +kernel
theorem dX8_copy_133 : decode cX8_copy 133 = .ok (.aload_n 0, 1) := by decide +kernel
theorem dX8_copy_134 : decode cX8_copy 134 = .ok (.getfield 16, 3) := by decide +kernel
theorem dX8_copy_137 : decode cX8_copy 137 = .ok (.bipush 60, 2) := by decide +kernel
theorem dX8_copy_139 : decode cX8_copy 139 = .ok (.iload_n 1, 1) := by decide +kernel
theorem dX8_copy_140 : decode cX8_copy 140 = .ok (.imul, 1) := by decide +kernel
theorem dX8_copy_141 : decode cX8_copy 141 = .ok (.iload_n 2, 1) := by decide +kernel
theorem dX8_copy_142 : decode cX8_copy 142 = .ok (.iadd, 1) := by decide +kernel
theorem dX8_copy_143 : decode cX8_copy 143 = .ok (.iload 6, 2) := by decide +kernel
theorem dX8_copy_145 : decode cX8_copy 145 = .ok (.iadd, 1) := by decide +kernel
theorem dX8_copy_146 : decode cX8_copy 146 = .ok (.iaload, 1) := by decide +kernel
theorem dX8_copy_147 : decode cX8_copy 147 = .ok (.iastore, 1) := by decide +kernel
theorem dX8_copy_148 : decode cX8_copy 148 = .ok (.iinc 6 1, 3) := by decide +kernel
theorem dX8_copy_151 : decode cX8_copy 151 = .ok (.goto (-31), 3) := by decide +kernel
theorem dX8_copy_154 : decode cX8_copy 154 = .ok (.iconst 0, 1) := by decide +kernel
theorem dX8_copy_155 : decode cX8_copy 155 = .ok (.istore 6, 2) := by decide +kernel
theorem dX8_copy_157 : decode cX8_copy 157 = .ok (.iload 6, 2) := by decide +kernel
theorem dX8_copy_159 : decode cX8_copy 159 = .ok (.iload 5, 2) := by decide +kernel
theorem dX8_copy_161 : decode cX8_copy 161 = .ok (.if_icmp .ge 31, 3) := by decide +kernel
theorem dX8_copy_164 : decode cX8_copy 164 = .ok (.aload_n 0, 1) := by decide +kernel
theorem dX8_copy_165 : decode cX8_copy 165 = .ok (.getfield 16, 3) := by decide +kernel
theorem dX8_copy_168 : decode cX8_copy 168 = .ok (.bipush 60, 2) := by decide +kernel
theorem dX8_copy_170 : decode cX8_copy 170 = .ok (.iload_n 3, 1) := by decide +kernel
theorem dX8_copy_171 : decode cX8_copy 171 = .ok (.imul, 1) := by decide +kernel
theorem dX8_copy_172 : decode cX8_copy 172 = .ok (.iload 4, 2) := by decide +kernel
theorem dX8_copy_174 : decode cX8_copy 174 = .ok (.iadd, 1) := by decide +kernel
theorem dX8_copy_175 : decode cX8_copy 175 = .ok (.iload 6, 2) := by decide +kernel
theorem dX8_copy_177 : decode cX8_copy 177 = .ok (.iadd, 1) := by decide +kernel
theorem dX8_copy_178 : decode cX8_copy 178 = .ok (.aload_n 0, 1) := by decide +kernel
theorem dX8_copy_179 : decode cX8_copy 179 = .ok (.getfield 19, 3) := by decide +kernel
theorem dX8_copy_182 : decode cX8_copy 182 = .ok (.iload 6, 2) := by decide +kernel
theorem dX8_copy_184 : decode cX8_copy 184 = .ok (.iaload, 1) := by decide +kernel
theorem dX8_copy_185 : decode cX8_copy 185 = .ok (.iastore, 1) := by decide +kernel
theorem dX8_copy_186 : decode cX8_copy 186 = .ok (.iinc 6 1, 3) := by decide +kernel
theorem dX8_copy_189 : decode cX8_copy 189 = .ok (.goto (-32), 3) := by decide +kernel
theorem dX8_copy_192 : decode cX8_copy 192 = .ok (.iconst 1, 1) := by decide +kernel
theorem dX8_copy_193 : decode cX8_copy 193 = .ok (.ireturn, 1) := by decide +kernel
theorem dX8_type_0 : decode cX8_type 0 = .ok (.iload_n 1, 1) := by decide +kernel
theorem dX8_type_1 : decode cX8_type 1 = .ok (.invokestatic 122, 3) := by decide +kernel
theorem dX8_type_4 : decode cX8_type 4 = .ok (.ifCond .eq 15, 3) := by decide +kernel
theorem dX8_type_7 : decode cX8_type 7 = .ok (.iload_n 2, 1) := by decide +kernel
theorem dX8_type_8 : decode cX8_type 8 = .ok (.i2l, 1) := by decide +kernel
theorem dX8_type_9 : decode cX8_type 9 = .ok (.lconst 0, 1) := by decide +kernel
theorem dX8_type_10 : decode cX8_type 10 = .ok (.ldc2_w 125, 3) := by decide +kernel
theorem dX8_type_13 : decode cX8_type 13 = .ok (.invokestatic 94, 3) := by decide +kernel
theorem dX8_type_16 : decode cX8_type 16 = .ok (.ifCond .ne 6, 3) := by decide +kernel
theorem dX8_type_19 : decode cX8_type 19 = .ok (.bipush (-2), 2) := by decide +kernel
theorem dX8_type_21 : decode cX8_type 21 = .ok (.ireturn, 1) := by decide +kernel
theorem dX8_type_22 : decode cX8_type 22 = .ok (.aload_n 0, 1) := by decide +kernel
theorem dX8_type_23 : decode cX8_type 23 = .ok (.getfield 25, 3) := by decide +kernel
theorem dX8_type_26 : decode cX8_type 26 = .ok (.iload_n 1, 1) := by decide +kernel
theorem dX8_type_27 : decode cX8_type 27 = .ok (.iaload, 1) := by decide +kernel
theorem dX8_type_28 : decode cX8_type 28 = .ok (.bipush 39, 2) := by decide +kernel
theorem dX8_type_30 : decode cX8_type 30 = .ok (.if_icmp .ne 6, 3) := by decide +kernel
theorem dX8_type_33 : decode cX8_type 33 = .ok (.bipush (-4), 2) := by decide +kernel
theorem dX8_type_35 : decode cX8_type 35 = .ok (.ireturn, 1) := by decide +kernel
theorem dX8_type_36 : decode cX8_type 36 = .ok (.aload_n 0, 1) := by decide +kernel
theorem dX8_type_37 : decode cX8_type 37 = .ok (.getfield 22, 3) := by decide +kernel
theorem dX8_type_40 : decode cX8_type 40 = .ok (.bipush 40, 2) := by decide +kernel
theorem dX8_type_42 : decode cX8_type 42 = .ok (.iload_n 1, 1) := by decide +kernel
theorem dX8_type_43 : decode cX8_type 43 = .ok (.imul, 1) := by decide +kernel
theorem dX8_type_44 : decode cX8_type 44 = .ok (.aload_n 0, 1) := by decide +kernel
theorem dX8_type_45 : decode cX8_type 45 = .ok (.getfield 25, 3) := by decide +kernel
theorem dX8_type_48 : decode cX8_type 48 = .ok (.iload_n 1, 1) := by decide +kernel
theorem dX8_type_49 : decode cX8_type 49 = .ok (.iaload, 1) := by decide +kernel
theorem dX8_type_50 : decode cX8_type 50 = .ok (.iadd, 1) := by decide +kernel
theorem dX8_type_51 : decode cX8_type 51 = .ok (.iload_n 2, 1) := by decide +kernel
theorem dX8_type_52 : decode cX8_type 52 = .ok (.iastore, 1) := by decide +kernel
theorem dX8_type_53 : decode cX8_type 53 = .ok (.aload_n 0, 1) := by decide +kernel
theorem dX8_type_54 : decode cX8_type 54 = .ok (.getfield 25, 3) := by decide +kernel
theorem dX8_type_57 : decode cX8_type 57 = .ok (.iload_n 1, 1) := by decide +kernel
theorem dX8_type_58 : decode cX8_type 58 = .ok (.dup2, 1) := by decide +kernel
theorem dX8_type_59 : decode cX8_type 59 = .ok (.iaload, 1) := by decide +kernel
theorem dX8_type_60 : decode cX8_type 60 = .ok (.iconst 1, 1) := by decide +kernel
theorem dX8_type_61 : decode cX8_type 61 = .ok (.iadd, 1) := by decide +kernel
theorem dX8_type_62 : decode cX8_type 62 = .ok (.iastore, 1) := by decide +kernel
theorem dX8_type_63 : decode cX8_type 63 = .ok (.aload_n 0, 1) := by decide +kernel
theorem dX8_type_64 : decode cX8_type 64 = .ok (.getfield 25, 3) := by decide +kernel
theorem dX8_type_67 : decode cX8_type 67 = .ok (.iload_n 1, 1) := by decide +kernel
theorem dX8_type_68 : decode cX8_type 68 = .ok (.iaload, 1) := by decide +kernel
theorem dX8_type_69 : decode cX8_type 69 = .ok (.ireturn, 1) := by decide +kernel
theorem dX8_wipe_0 : decode cX8_wipe 0 = .ok (.iload_n 1, 1) := by decide +kernel
theorem dX8_wipe_1 : decode cX8_wipe 1 = .ok (.invokestatic 122, 3) := by decide +kernel
theorem dX8_wipe_4 : decode cX8_wipe 4 = .ok (.ifCond .ne 6, 3) := by decide +kernel
theorem dX8_wipe_7 : decode cX8_wipe 7 = .ok (.bipush (-2), 2) := by decide +kernel
theorem dX8_wipe_9 : decode cX8_wipe 9 = .ok (.ireturn, 1) := by decide +kernel
theorem dX8_wipe_10 : decode cX8_wipe 10 = .ok (.aload_n 0, 1) := by decide +kernel
theorem dX8_wipe_11 : decode cX8_wipe 11 = .ok (.getfield 25, 3) := by decide +kernel
theorem dX8_wipe_14 : decode cX8_wipe 14 = .ok (.iload_n 1, 1) := by decide +kernel
theorem dX8_wipe_15 : decode cX8_wipe 15 = .ok (.iaload, 1) := by decide +kernel
theorem dX8_wipe_16 : decode cX8_wipe 16 = .ok (.istore_n 2, 1) := by decide +kernel
theorem dX8_wipe_17 : decode cX8_wipe 17 = .ok (.aload_n 0, 1) := by decide +kernel
theorem dX8_wipe_18 : decode cX8_wipe 18 = .ok (.getfield 25, 3) := by decide +kernel
theorem dX8_wipe_21 : decode cX8_wipe 21 = .ok (.iload_n 1, 1) := by decide +kernel
theorem dX8_wipe_22 : decode cX8_wipe 22 = .ok (.iconst 0, 1) := by decide +kernel
theorem dX8_wipe_23 : decode cX8_wipe 23 = .ok (.iastore, 1) := by decide +kernel
theorem dX8_wipe_24 : decode cX8_wipe 24 = .ok (.iload_n 2, 1) := by decide +kernel
theorem dX8_wipe_25 : decode cX8_wipe 25 = .ok (.ireturn, 1) := by decide +kernel
theorem dX8_undo_0 : decode cX8_undo 0 = .ok (.iload_n 1, 1) := by decide +kernel
theorem dX8_undo_1 : decode cX8_undo 1 = .ok (.invokestatic 122, 3) := by decide +kernel
theorem dX8_undo_4 : decode cX8_undo 4 = .ok (.ifCond .ne 6, 3) := by decide +kernel
theorem dX8_undo_7 : decode cX8_undo 7 = .ok (.bipush (-2), 2) := by decide +kernel
theorem dX8_undo_9 : decode cX8_undo 9 = .ok (.ireturn, 1) := by decide +kernel
theorem dX8_undo_10 : decode cX8_undo 10 = .ok (.aload_n 0, 1) := by decide +kernel
theorem dX8_undo_11 : decode cX8_undo 11 = .ok (.getfield 25, 3) := by decide +kernel
theorem dX8_undo_14 : decode cX8_undo 14 = .ok (.iload_n 1, 1) := by decide +kernel
theorem dX8_undo_15 : decode cX8_undo 15 = .ok (.iaload, 1) := by decide +kernel
theorem dX8_undo_16 : decode cX8_undo 16 = .ok (.ifCond .ne 6, 3) := by decide +kernel
theorem dX8_undo_19 : decode cX8_undo 19 = .ok (.bipush (-3), 2) := by decide +kernel
theorem dX8_undo_21 : decode cX8_undo 21 = .ok (.ireturn, 1) := by decide +kernel
theorem dX8_undo_22 : decode cX8_undo 22 = .ok (.aload_n 0, 1) := by decide +kernel
theorem dX8_undo_23 : decode cX8_undo 23 = .ok (.getfield 25, 3) := by decide +kernel
theorem dX8_undo_26 : decode cX8_undo 26 = .ok (.iload_n 1, 1) := by decide +kernel
theorem dX8_undo_27 : decode cX8_undo 27 = .ok (.dup2, 1) := by decide +kernel
theorem dX8_undo_28 : decode cX8_undo 28 = .ok (.iaload, 1) := by decide +kernel
theorem dX8_undo_29 : decode cX8_undo 29 = .ok (.iconst 1, 1) := by decide +kernel
theorem dX8_undo_30 : decode cX8_undo 30 = .ok (.isub, 1) := by decide +kernel
theorem dX8_undo_31 : decode cX8_undo 31 = .ok (.iastore, 1) := by decide +kernel
theorem dX8_undo_32 : decode cX8_undo 32 = .ok (.aload_n 0, 1) := by decide +kernel
theorem dX8_undo_33 : decode cX8_undo 33 = .ok (.getfield 25, 3) := by decide +kernel
theorem dX8_undo_36 : decode cX8_undo 36 = .ok (.iload_n 1, 1) := by decide +kernel
theorem dX8_undo_37 : decode cX8_undo 37 = .ok (.iaload, 1) := by decide +kernel
theorem dX8_undo_38 : decode cX8_undo 38 = .ok (.ireturn, 1) := by decide +kernel
theorem dX8_shapeOf_0 : decode cX8_shapeOf 0 = .ok (.iload_n 1, 1) := by decide +kernel
theorem dX8_shapeOf_1 : decode cX8_shapeOf 1 = .ok (.bipush 114, 2) := by decide +kernel
theorem dX8_shapeOf_3 : decode cX8_shapeOf 3 = .ok (.if_icmp .ne 7, 3) := by decide +kernel
theorem dX8_shapeOf_6 : decode cX8_shapeOf 6 = .ok (.iconst 0, 1) := by decide +kernel
theorem dX8_shapeOf_7 : decode cX8_shapeOf 7 = .ok (.goto 40, 3) := by decide +kernel
theorem dX8_shapeOf_10 : decode cX8_shapeOf 10 = .ok (.iload_n 1, 1) := by decide +kernel
theorem dX8_shapeOf_11 : decode cX8_shapeOf 11 = .ok (.bipush 115, 2) := by decide +kernel
theorem dX8_shapeOf_13 : decode cX8_shapeOf 13 = .ok (.if_icmp .ne 7, 3) := by decide +kernel
theorem dX8_shapeOf_16 : decode cX8_shapeOf 16 = .ok (.iconst 1, 1) := by decide +kernel
theorem dX8_shapeOf_17 : decode cX8_shapeOf 17 = .ok (.goto 30, 3) := by decide +kernel
theorem dX8_shapeOf_20 : decode cX8_shapeOf 20 = .ok (.iload_n 1, 1) := by decide +kernel
theorem dX8_shapeOf_21 : decode cX8_shapeOf 21 = .ok (.bipush 108, 2) := by decide +kernel
theorem dX8_shapeOf_23 : decode cX8_shapeOf 23 = .ok (.if_icmp .ne 7, 3) := by decide +kernel
theorem dX8_shapeOf_26 : decode cX8_shapeOf 26 = .ok (.iconst 2, 1) := by decide +kernel
theorem dX8_shapeOf_27 : decode cX8_shapeOf 27 = .ok (.goto 20, 3) := by decide +kernel
theorem dX8_shapeOf_30 : decode cX8_shapeOf 30 = .ok (.iload_n 1, 1) := by decide +kernel
theorem dX8_shapeOf_31 : decode cX8_shapeOf 31 = .ok (.bipush 97, 2) := by decide +kernel
theorem dX8_shapeOf_33 : decode cX8_shapeOf 33 = .ok (.if_icmp .ne 12, 3) := by decide +kernel
theorem dX8_shapeOf_36 : decode cX8_shapeOf 36 = .ok (.iload_n 0, 1) := by decide +kernel
theorem dX8_shapeOf_37 : decode cX8_shapeOf 37 = .ok (.iconst 1, 1) := by decide +kernel
theorem dX8_shapeOf_38 : decode cX8_shapeOf 38 = .ok (.if_icmp .ne 7, 3) := by decide +kernel
theorem dX8_shapeOf_41 : decode cX8_shapeOf 41 = .ok (.iconst 3, 1) := by decide +kernel
theorem dX8_shapeOf_42 : decode cX8_shapeOf 42 = .ok (.goto 5, 3) := by decide +kernel
theorem dX8_shapeOf_45 : decode cX8_shapeOf 45 = .ok (.bipush (-9), 2) := by decide +kernel
theorem dX8_shapeOf_47 : decode cX8_shapeOf 47 = .ok (.ireturn, 1) := by decide +kernel
theorem dX8_tellsOf_0 : decode cX8_tellsOf 0 = .ok (.iload_n 1, 1) := by decide +kernel
theorem dX8_tellsOf_1 : decode cX8_tellsOf 1 = .ok (.ifCond .ne 9, 3) := by decide +kernel
theorem dX8_tellsOf_4 : decode cX8_tellsOf 4 = .ok (.iload_n 0, 1) := by decide +kernel
theorem dX8_tellsOf_5 : decode cX8_tellsOf 5 = .ok (.iload_n 2, 1) := by decide +kernel
theorem dX8_tellsOf_6 : decode cX8_tellsOf 6 = .ok (.invokestatic 127, 3) := by decide +kernel
theorem dX8_tellsOf_9 : decode cX8_tellsOf 9 = .ok (.ireturn, 1) := by decide +kernel
theorem dX8_tellsOf_10 : decode cX8_tellsOf 10 = .ok (.iload_n 1, 1) := by decide +kernel
theorem dX8_tellsOf_11 : decode cX8_tellsOf 11 = .ok (.iconst 4, 1) := by decide +kernel
theorem dX8_tellsOf_12 : decode cX8_tellsOf 12 = .ok (.if_icmp .ne 16, 3) := by decide +kernel
theorem dX8_tellsOf_15 : decode cX8_tellsOf 15 = .ok (.iload_n 2, 1) := by decide +kernel
theorem dX8_tellsOf_16 : decode cX8_tellsOf 16 = .ok (.bipush 59, 2) := by decide +kernel
theorem dX8_tellsOf_18 : decode cX8_tellsOf 18 = .ok (.if_icmp .ne 7, 3) := by decide +kernel
theorem dX8_tellsOf_21 : decode cX8_tellsOf 21 = .ok (.iconst 0, 1) := by decide +kernel
theorem dX8_tellsOf_22 : decode cX8_tellsOf 22 = .ok (.goto 5, 3) := by decide +kernel
theorem dX8_tellsOf_25 : decode cX8_tellsOf 25 = .ok (.bipush (-9), 2) := by decide +kernel
theorem dX8_tellsOf_27 : decode cX8_tellsOf 27 = .ok (.ireturn, 1) := by decide +kernel
theorem dX8_tellsOf_28 : decode cX8_tellsOf 28 = .ok (.iload_n 1, 1) := by decide +kernel
theorem dX8_tellsOf_29 : decode cX8_tellsOf 29 = .ok (.iconst 1, 1) := by decide +kernel
theorem dX8_tellsOf_30 : decode cX8_tellsOf 30 = .ok (.if_icmp .eq 22, 3) := by decide +kernel
theorem dX8_tellsOf_33 : decode cX8_tellsOf 33 = .ok (.iload_n 1, 1) := by decide +kernel
theorem dX8_tellsOf_34 : decode cX8_tellsOf 34 = .ok (.iconst 2, 1) := by decide +kernel
theorem dX8_tellsOf_35 : decode cX8_tellsOf 35 = .ok (.if_icmp .ne 7, 3) := by decide +kernel
theorem dX8_tellsOf_38 : decode cX8_tellsOf 38 = .ok (.iload_n 0, 1) := by decide +kernel
theorem dX8_tellsOf_39 : decode cX8_tellsOf 39 = .ok (.ifCond .eq 13, 3) := by decide +kernel
theorem dX8_tellsOf_42 : decode cX8_tellsOf 42 = .ok (.iload_n 1, 1) := by decide +kernel
theorem dX8_tellsOf_43 : decode cX8_tellsOf 43 = .ok (.iconst 3, 1) := by decide +kernel
theorem dX8_tellsOf_44 : decode cX8_tellsOf 44 = .ok (.if_icmp .ne 12, 3) := by decide +kernel
theorem dX8_tellsOf_47 : decode cX8_tellsOf 47 = .ok (.iload_n 0, 1) := by decide +kernel
theorem dX8_tellsOf_48 : decode cX8_tellsOf 48 = .ok (.iconst 1, 1) := by decide +kernel
theorem dX8_tellsOf_49 : decode cX8_tellsOf 49 = .ok (.if_icmp .ne 7, 3) := by decide +kernel
theorem dX8_tellsOf_52 : decode cX8_tellsOf 52 = .ok (.iconst 1, 1) := by decide +kernel
theorem dX8_tellsOf_53 : decode cX8_tellsOf 53 = .ok (.goto 4, 3) := by decide +kernel
theorem dX8_tellsOf_56 : decode cX8_tellsOf 56 = .ok (.iconst 0, 1) := by decide +kernel
theorem dX8_tellsOf_57 : decode cX8_tellsOf 57 = .ok (.istore_n 3, 1) := by decide +kernel
theorem dX8_tellsOf_58 : decode cX8_tellsOf 58 = .ok (.iload_n 2, 1) := by decide +kernel
theorem dX8_tellsOf_59 : decode cX8_tellsOf 59 = .ok (.i2l, 1) := by decide +kernel
theorem dX8_tellsOf_60 : decode cX8_tellsOf 60 = .ok (.bipush 48, 2) := by decide +kernel
theorem dX8_tellsOf_62 : decode cX8_tellsOf 62 = .ok (.iload_n 3, 1) := by decide +kernel
theorem dX8_tellsOf_63 : decode cX8_tellsOf 63 = .ok (.iadd, 1) := by decide +kernel
theorem dX8_tellsOf_64 : decode cX8_tellsOf 64 = .ok (.i2l, 1) := by decide +kernel
theorem dX8_tellsOf_65 : decode cX8_tellsOf 65 = .ok (.ldc2_w 130, 3) := by decide +kernel
theorem dX8_tellsOf_68 : decode cX8_tellsOf 68 = .ok (.invokestatic 94, 3) := by decide +kernel
theorem dX8_tellsOf_71 : decode cX8_tellsOf 71 = .ok (.ifCond .eq 10, 3) := by decide +kernel
theorem dX8_tellsOf_74 : decode cX8_tellsOf 74 = .ok (.iload_n 2, 1) := by decide +kernel
theorem dX8_tellsOf_75 : decode cX8_tellsOf 75 = .ok (.bipush 48, 2) := by decide +kernel
theorem dX8_tellsOf_77 : decode cX8_tellsOf 77 = .ok (.isub, 1) := by decide +kernel
theorem dX8_tellsOf_78 : decode cX8_tellsOf 78 = .ok (.goto 5, 3) := by decide +kernel
theorem dX8_tellsOf_81 : decode cX8_tellsOf 81 = .ok (.bipush (-9), 2) := by decide +kernel
theorem dX8_tellsOf_83 : decode cX8_tellsOf 83 = .ok (.ireturn, 1) := by decide +kernel
theorem dX8_readsText_0 : decode cX8_readsText 0 = .ok (.aload_n 0, 1) := by decide +kernel
theorem dX8_readsText_1 : decode cX8_readsText 1 = .ok (.getfield 28, 3) := by decide +kernel
theorem dX8_readsText_4 : decode cX8_readsText 4 = .ok (.iload_n 1, 1) := by decide +kernel
theorem dX8_readsText_5 : decode cX8_readsText 5 = .ok (.iconst 0, 1) := by decide +kernel
theorem dX8_readsText_6 : decode cX8_readsText 6 = .ok (.iastore, 1) := by decide +kernel
theorem dX8_readsText_7 : decode cX8_readsText 7 = .ok (.aload_n 0, 1) := by decide +kernel
theorem dX8_readsText_8 : decode cX8_readsText 8 = .ok (.getfield 25, 3) := by decide +kernel
theorem dX8_readsText_11 : decode cX8_readsText 11 = .ok (.iload_n 1, 1) := by decide +kernel
theorem dX8_readsText_12 : decode cX8_readsText 12 = .ok (.iaload, 1) := by decide +kernel
theorem dX8_readsText_13 : decode cX8_readsText 13 = .ok (.istore_n 2, 1) := by decide +kernel
theorem dX8_readsText_14 : decode cX8_readsText 14 = .ok (.iconst 0, 1) := by decide +kernel
theorem dX8_readsText_15 : decode cX8_readsText 15 = .ok (.istore_n 3, 1) := by decide +kernel
theorem dX8_readsText_16 : decode cX8_readsText 16 = .ok (.iload_n 3, 1) := by decide +kernel
theorem dX8_readsText_17 : decode cX8_readsText 17 = .ok (.iload_n 2, 1) := by decide +kernel
theorem dX8_readsText_18 : decode cX8_readsText 18 = .ok (.if_icmp .ge 95, 3) := by decide +kernel
theorem dX8_readsText_21 : decode cX8_readsText 21 = .ok (.iload_n 3, 1) := by decide +kernel
theorem dX8_readsText_22 : decode cX8_readsText 22 = .ok (.iconst 5, 1) := by decide +kernel
theorem dX8_readsText_23 : decode cX8_readsText 23 = .ok (.irem, 1) := by decide +kernel
theorem dX8_readsText_24 : decode cX8_readsText 24 = .ok (.istore 4, 2) := by decide +kernel
theorem dX8_readsText_26 : decode cX8_readsText 26 = .ok (.iload_n 1, 1) := by decide +kernel
theorem dX8_readsText_27 : decode cX8_readsText 27 = .ok (.iload 4, 2) := by decide +kernel
theorem dX8_readsText_29 : decode cX8_readsText 29 = .ok (.aload_n 0, 1) := by decide +kernel
theorem dX8_readsText_30 : decode cX8_readsText 30 = .ok (.getfield 22, 3) := by decide +kernel
theorem dX8_readsText_33 : decode cX8_readsText 33 = .ok (.bipush 40, 2) := by decide +kernel
theorem dX8_readsText_35 : decode cX8_readsText 35 = .ok (.iload_n 1, 1) := by decide +kernel
theorem dX8_readsText_36 : decode cX8_readsText 36 = .ok (.imul, 1) := by decide +kernel
theorem dX8_readsText_37 : decode cX8_readsText 37 = .ok (.iload_n 3, 1) := by decide +kernel
theorem dX8_readsText_38 : decode cX8_readsText 38 = .ok (.iadd, 1) := by decide +kernel
theorem dX8_readsText_39 : decode cX8_readsText 39 = .ok (.iaload, 1) := by decide +kernel
theorem dX8_readsText_40 : decode cX8_readsText 40 = .ok (.invokestatic 132, 3) := by decide +kernel
theorem dX8_readsText_43 : decode cX8_readsText 43 = .ok (.istore 5, 2) := by decide +kernel
theorem dX8_readsText_45 : decode cX8_readsText 45 = .ok (.iload 5, 2) := by decide +kernel
theorem dX8_readsText_47 : decode cX8_readsText 47 = .ok (.bipush (-9), 2) := by decide +kernel
theorem dX8_readsText_49 : decode cX8_readsText 49 = .ok (.if_icmp .ne 12, 3) := by decide +kernel
theorem dX8_readsText_52 : decode cX8_readsText 52 = .ok (.aload_n 0, 1) := by decide +kernel
theorem dX8_readsText_53 : decode cX8_readsText 53 = .ok (.getfield 28, 3) := by decide +kernel
theorem dX8_readsText_56 : decode cX8_readsText 56 = .ok (.iload_n 1, 1) := by decide +kernel
theorem dX8_readsText_57 : decode cX8_readsText 57 = .ok (.iconst 0, 1) := by decide +kernel
theorem dX8_readsText_58 : decode cX8_readsText 58 = .ok (.iastore, 1) := by decide +kernel
theorem dX8_readsText_59 : decode cX8_readsText 59 = .ok (.iload_n 3, 1) := by decide +kernel
theorem dX8_readsText_60 : decode cX8_readsText 60 = .ok (.ireturn, 1) := by decide +kernel
theorem dX8_readsText_61 : decode cX8_readsText 61 = .ok (.iload 4, 2) := by decide +kernel
theorem dX8_readsText_63 : decode cX8_readsText 63 = .ok (.iconst 4, 1) := by decide +kernel
theorem dX8_readsText_64 : decode cX8_readsText 64 = .ok (.if_icmp .ge 23, 3) := by decide +kernel
theorem dX8_readsText_67 : decode cX8_readsText 67 = .ok (.aload_n 0, 1) := by decide +kernel
theorem dX8_readsText_68 : decode cX8_readsText 68 = .ok (.getfield 31, 3) := by decide +kernel
theorem dX8_readsText_71 : decode cX8_readsText 71 = .ok (.bipush 32, 2) := by decide +kernel
theorem dX8_readsText_73 : decode cX8_readsText 73 = .ok (.iload_n 1, 1) := by decide +kernel
theorem dX8_readsText_74 : decode cX8_readsText 74 = .ok (.imul, 1) := by decide +kernel
theorem dX8_readsText_75 : decode cX8_readsText 75 = .ok (.iconst 4, 1) := by decide +kernel
theorem dX8_readsText_76 : decode cX8_readsText 76 = .ok (.iload_n 3, 1) := by decide +kernel
theorem dX8_readsText_77 : decode cX8_readsText 77 = .ok (.iconst 5, 1) := by decide +kernel
theorem dX8_readsText_78 : decode cX8_readsText 78 = .ok (.idiv, 1) := by decide +kernel
theorem dX8_readsText_79 : decode cX8_readsText 79 = .ok (.imul, 1) := by decide +kernel
theorem dX8_readsText_80 : decode cX8_readsText 80 = .ok (.iadd, 1) := by decide +kernel
theorem dX8_readsText_81 : decode cX8_readsText 81 = .ok (.iload 4, 2) := by decide +kernel
theorem dX8_readsText_83 : decode cX8_readsText 83 = .ok (.iadd, 1) := by decide +kernel
theorem dX8_readsText_84 : decode cX8_readsText 84 = .ok (.iload 5, 2) := by decide +kernel
theorem dX8_readsText_86 : decode cX8_readsText 86 = .ok (.iastore, 1) := by decide +kernel
theorem dX8_readsText_87 : decode cX8_readsText 87 = .ok (.aload_n 0, 1) := by decide +kernel
theorem dX8_readsText_88 : decode cX8_readsText 88 = .ok (.getfield 28, 3) := by decide +kernel
theorem dX8_readsText_91 : decode cX8_readsText 91 = .ok (.iload_n 1, 1) := by decide +kernel
theorem dX8_readsText_92 : decode cX8_readsText 92 = .ok (.dup2, 1) := by decide +kernel
theorem dX8_readsText_93 : decode cX8_readsText 93 = .ok (.iaload, 1) := by decide +kernel
theorem dX8_readsText_94 : decode cX8_readsText 94 = .ok (.iload 4, 2) := by decide +kernel
theorem dX8_readsText_96 : decode cX8_readsText 96 = .ok (.iconst 3, 1) := by decide +kernel
theorem dX8_readsText_97 : decode cX8_readsText 97 = .ok (.if_icmp .ne 7, 3) := by decide +kernel
theorem dX8_readsText_100 : decode cX8_readsText 100 = .ok (.iconst 1, 1) := by decide +kernel
theorem dX8_readsText_101 : decode cX8_readsText 101 = .ok (.goto 4, 3) := by decide +kernel
theorem dX8_readsText_104 : decode cX8_readsText 104 = .ok (.iconst 0, 1) := by decide +kernel
theorem dX8_readsText_105 : decode cX8_readsText 105 = .ok (.iadd, 1) := by decide +kernel
theorem dX8_readsText_106 : decode cX8_readsText 106 = .ok (.iastore, 1) := by decide +kernel
theorem dX8_readsText_107 : decode cX8_readsText 107 = .ok (.iinc 3 1, 3) := by decide +kernel
theorem dX8_readsText_110 : decode cX8_readsText 110 = .ok (.goto (-94), 3) := by decide +kernel
theorem dX8_readsText_113 : decode cX8_readsText 113 = .ok (.iload_n 2, 1) := by decide +kernel
theorem dX8_readsText_114 : decode cX8_readsText 114 = .ok (.ifCond .le 19, 3) := by decide +kernel
theorem dX8_readsText_117 : decode cX8_readsText 117 = .ok (.iload_n 2, 1) := by decide +kernel
theorem dX8_readsText_118 : decode cX8_readsText 118 = .ok (.iconst 5, 1) := by decide +kernel
theorem dX8_readsText_119 : decode cX8_readsText 119 = .ok (.irem, 1) := by decide +kernel
theorem dX8_readsText_120 : decode cX8_readsText 120 = .ok (.iconst 4, 1) := by decide +kernel
theorem dX8_readsText_121 : decode cX8_readsText 121 = .ok (.if_icmp .eq 12, 3) := by decide +kernel
theorem dX8_readsText_124 : decode cX8_readsText 124 = .ok (.aload_n 0, 1) := by decide +kernel
theorem dX8_readsText_125 : decode cX8_readsText 125 = .ok (.getfield 28, 3) := by decide +kernel
theorem dX8_readsText_128 : decode cX8_readsText 128 = .ok (.iload_n 1, 1) := by decide +kernel
theorem dX8_readsText_129 : decode cX8_readsText 129 = .ok (.iconst 0, 1) := by decide +kernel
theorem dX8_readsText_130 : decode cX8_readsText 130 = .ok (.iastore, 1) := by decide +kernel
theorem dX8_readsText_131 : decode cX8_readsText 131 = .ok (.iload_n 2, 1) := by decide +kernel
theorem dX8_readsText_132 : decode cX8_readsText 132 = .ok (.ireturn, 1) := by decide +kernel
theorem dX8_readsText_133 : decode cX8_readsText 133 = .ok (.iconst (-1), 1) := by decide +kernel
theorem dX8_readsText_134 : decode cX8_readsText 134 = .ok (.ireturn, 1) := by decide +kernel
theorem dX8_reads_0 : decode cX8_reads 0 = .ok (.aload_n 0, 1) := by decide +kernel
theorem dX8_reads_1 : decode cX8_reads 1 = .ok (.iconst 0, 1) := by decide +kernel
theorem dX8_reads_2 : decode cX8_reads 2 = .ok (.invokevirtual 135, 3) := by decide +kernel
theorem dX8_reads_5 : decode cX8_reads 5 = .ok (.pop, 1) := by decide +kernel
theorem dX8_reads_6 : decode cX8_reads 6 = .ok (.aload_n 0, 1) := by decide +kernel
theorem dX8_reads_7 : decode cX8_reads 7 = .ok (.iconst 1, 1) := by decide +kernel
theorem dX8_reads_8 : decode cX8_reads 8 = .ok (.invokevirtual 135, 3) := by decide +kernel
theorem dX8_reads_11 : decode cX8_reads 11 = .ok (.pop, 1) := by decide +kernel
theorem dX8_reads_12 : decode cX8_reads 12 = .ok (.return_, 1) := by decide +kernel
theorem dX8_fault_0 : decode cX8_fault 0 = .ok (.iload_n 1, 1) := by decide +kernel
theorem dX8_fault_1 : decode cX8_fault 1 = .ok (.invokestatic 122, 3) := by decide +kernel
theorem dX8_fault_4 : decode cX8_fault 4 = .ok (.ifCond .eq 11, 3) := by decide +kernel
theorem dX8_fault_7 : decode cX8_fault 7 = .ok (.aload_n 0, 1) := by decide +kernel
theorem dX8_fault_8 : decode cX8_fault 8 = .ok (.iload_n 1, 1) := by decide +kernel
theorem dX8_fault_9 : decode cX8_fault 9 = .ok (.invokevirtual 135, 3) := by decide +kernel
theorem dX8_fault_12 : decode cX8_fault 12 = .ok (.goto 5, 3) := by decide +kernel
theorem dX8_fault_15 : decode cX8_fault 15 = .ok (.bipush (-2), 2) := by decide +kernel
theorem dX8_fault_17 : decode cX8_fault 17 = .ok (.ireturn, 1) := by decide +kernel
theorem dX8_isHole_0 : decode cX8_isHole 0 = .ok (.iload_n 1, 1) := by decide +kernel
theorem dX8_isHole_1 : decode cX8_isHole 1 = .ok (.i2l, 1) := by decide +kernel
theorem dX8_isHole_2 : decode cX8_isHole 2 = .ok (.lconst 0, 1) := by decide +kernel
theorem dX8_isHole_3 : decode cX8_isHole 3 = .ok (.aload_n 0, 1) := by decide +kernel
theorem dX8_isHole_4 : decode cX8_isHole 4 = .ok (.getfield 28, 3) := by decide +kernel
theorem dX8_isHole_7 : decode cX8_isHole 7 = .ok (.iconst 0, 1) := by decide +kernel
theorem dX8_isHole_8 : decode cX8_isHole 8 = .ok (.iaload, 1) := by decide +kernel
theorem dX8_isHole_9 : decode cX8_isHole 9 = .ok (.iconst 1, 1) := by decide +kernel
theorem dX8_isHole_10 : decode cX8_isHole 10 = .ok (.isub, 1) := by decide +kernel
theorem dX8_isHole_11 : decode cX8_isHole 11 = .ok (.i2l, 1) := by decide +kernel
theorem dX8_isHole_12 : decode cX8_isHole 12 = .ok (.invokestatic 94, 3) := by decide +kernel
theorem dX8_isHole_15 : decode cX8_isHole 15 = .ok (.ireturn, 1) := by decide +kernel
theorem dX8_isWork_0 : decode cX8_isWork 0 = .ok (.iload_n 1, 1) := by decide +kernel
theorem dX8_isWork_1 : decode cX8_isWork 1 = .ok (.i2l, 1) := by decide +kernel
theorem dX8_isWork_2 : decode cX8_isWork 2 = .ok (.lconst 0, 1) := by decide +kernel
theorem dX8_isWork_3 : decode cX8_isWork 3 = .ok (.aload_n 0, 1) := by decide +kernel
theorem dX8_isWork_4 : decode cX8_isWork 4 = .ok (.getfield 28, 3) := by decide +kernel
theorem dX8_isWork_7 : decode cX8_isWork 7 = .ok (.iconst 1, 1) := by decide +kernel
theorem dX8_isWork_8 : decode cX8_isWork 8 = .ok (.iaload, 1) := by decide +kernel
theorem dX8_isWork_9 : decode cX8_isWork 9 = .ok (.iconst 1, 1) := by decide +kernel
theorem dX8_isWork_10 : decode cX8_isWork 10 = .ok (.isub, 1) := by decide +kernel
theorem dX8_isWork_11 : decode cX8_isWork 11 = .ok (.i2l, 1) := by decide +kernel
theorem dX8_isWork_12 : decode cX8_isWork 12 = .ok (.invokestatic 94, 3) := by decide +kernel
theorem dX8_isWork_15 : decode cX8_isWork 15 = .ok (.ireturn, 1) := by decide +kernel
theorem dX8_isDay_0 : decode cX8_isDay 0 = .ok (.iload_n 0, 1) := by decide +kernel
theorem dX8_isDay_1 : decode cX8_isDay 1 = .ok (.i2l, 1) := by decide +kernel
theorem dX8_isDay_2 : decode cX8_isDay 2 = .ok (.lconst 0, 1) := by decide +kernel
theorem dX8_isDay_3 : decode cX8_isDay 3 = .ok (.ldc2_w 138, 3) := by decide +kernel
theorem dX8_isDay_6 : decode cX8_isDay 6 = .ok (.invokestatic 94, 3) := by decide +kernel
theorem dX8_isDay_9 : decode cX8_isDay 9 = .ok (.ireturn, 1) := by decide +kernel
theorem dX8_isAnyHole_0 : decode cX8_isAnyHole 0 = .ok (.iload_n 0, 1) := by decide +kernel
theorem dX8_isAnyHole_1 : decode cX8_isAnyHole 1 = .ok (.i2l, 1) := by decide +kernel
theorem dX8_isAnyHole_2 : decode cX8_isAnyHole 2 = .ok (.lconst 0, 1) := by decide +kernel
theorem dX8_isAnyHole_3 : decode cX8_isAnyHole 3 = .ok (.ldc2_w 140, 3) := by decide +kernel
theorem dX8_isAnyHole_6 : decode cX8_isAnyHole 6 = .ok (.invokestatic 94, 3) := by decide +kernel
theorem dX8_isAnyHole_9 : decode cX8_isAnyHole 9 = .ok (.ireturn, 1) := by decide +kernel
theorem dX8_hole_0 : decode cX8_hole 0 = .ok (.aload_n 0, 1) := by decide +kernel
theorem dX8_hole_1 : decode cX8_hole 1 = .ok (.invokevirtual 142, 3) := by decide +kernel
theorem dX8_hole_4 : decode cX8_hole 4 = .ok (.aload_n 0, 1) := by decide +kernel
theorem dX8_hole_5 : decode cX8_hole 5 = .ok (.iload_n 1, 1) := by decide +kernel
theorem dX8_hole_6 : decode cX8_hole 6 = .ok (.invokevirtual 145, 3) := by decide +kernel
theorem dX8_hole_9 : decode cX8_hole 9 = .ok (.ifCond .eq 28, 3) := by decide +kernel
theorem dX8_hole_12 : decode cX8_hole 12 = .ok (.iload_n 2, 1) := by decide +kernel
theorem dX8_hole_13 : decode cX8_hole 13 = .ok (.i2l, 1) := by decide +kernel
theorem dX8_hole_14 : decode cX8_hole 14 = .ok (.lconst 0, 1) := by decide +kernel
theorem dX8_hole_15 : decode cX8_hole 15 = .ok (.ldc2_w 101, 3) := by decide +kernel
theorem dX8_hole_18 : decode cX8_hole 18 = .ok (.invokestatic 94, 3) := by decide +kernel
theorem dX8_hole_21 : decode cX8_hole 21 = .ok (.ifCond .eq 16, 3) := by decide +kernel
theorem dX8_hole_24 : decode cX8_hole 24 = .ok (.aload_n 0, 1) := by decide +kernel
theorem dX8_hole_25 : decode cX8_hole 25 = .ok (.getfield 31, 3) := by decide +kernel
theorem dX8_hole_28 : decode cX8_hole 28 = .ok (.iconst 4, 1) := by decide +kernel
theorem dX8_hole_29 : decode cX8_hole 29 = .ok (.iload_n 1, 1) := by decide +kernel
theorem dX8_hole_30 : decode cX8_hole 30 = .ok (.imul, 1) := by decide +kernel
theorem dX8_hole_31 : decode cX8_hole 31 = .ok (.iload_n 2, 1) := by decide +kernel
theorem dX8_hole_32 : decode cX8_hole 32 = .ok (.iadd, 1) := by decide +kernel
theorem dX8_hole_33 : decode cX8_hole 33 = .ok (.iaload, 1) := by decide +kernel
theorem dX8_hole_34 : decode cX8_hole 34 = .ok (.goto 5, 3) := by decide +kernel
theorem dX8_hole_37 : decode cX8_hole 37 = .ok (.bipush (-2), 2) := by decide +kernel
theorem dX8_hole_39 : decode cX8_hole 39 = .ok (.ireturn, 1) := by decide +kernel
theorem dX8_work_0 : decode cX8_work 0 = .ok (.aload_n 0, 1) := by decide +kernel
theorem dX8_work_1 : decode cX8_work 1 = .ok (.invokevirtual 142, 3) := by decide +kernel
theorem dX8_work_4 : decode cX8_work 4 = .ok (.aload_n 0, 1) := by decide +kernel
theorem dX8_work_5 : decode cX8_work 5 = .ok (.iload_n 1, 1) := by decide +kernel
theorem dX8_work_6 : decode cX8_work 6 = .ok (.invokevirtual 148, 3) := by decide +kernel
theorem dX8_work_9 : decode cX8_work 9 = .ok (.ifCond .eq 31, 3) := by decide +kernel
theorem dX8_work_12 : decode cX8_work 12 = .ok (.iload_n 2, 1) := by decide +kernel
theorem dX8_work_13 : decode cX8_work 13 = .ok (.i2l, 1) := by decide +kernel
theorem dX8_work_14 : decode cX8_work 14 = .ok (.lconst 0, 1) := by decide +kernel
theorem dX8_work_15 : decode cX8_work 15 = .ok (.ldc2_w 101, 3) := by decide +kernel
theorem dX8_work_18 : decode cX8_work 18 = .ok (.invokestatic 94, 3) := by decide +kernel
theorem dX8_work_21 : decode cX8_work 21 = .ok (.ifCond .eq 19, 3) := by decide +kernel
theorem dX8_work_24 : decode cX8_work 24 = .ok (.aload_n 0, 1) := by decide +kernel
theorem dX8_work_25 : decode cX8_work 25 = .ok (.getfield 31, 3) := by decide +kernel
theorem dX8_work_28 : decode cX8_work 28 = .ok (.bipush 32, 2) := by decide +kernel
theorem dX8_work_30 : decode cX8_work 30 = .ok (.iconst 4, 1) := by decide +kernel
theorem dX8_work_31 : decode cX8_work 31 = .ok (.iload_n 1, 1) := by decide +kernel
theorem dX8_work_32 : decode cX8_work 32 = .ok (.imul, 1) := by decide +kernel
theorem dX8_work_33 : decode cX8_work 33 = .ok (.iadd, 1) := by decide +kernel
theorem dX8_work_34 : decode cX8_work 34 = .ok (.iload_n 2, 1) := by decide +kernel
theorem dX8_work_35 : decode cX8_work 35 = .ok (.iadd, 1) := by decide +kernel
theorem dX8_work_36 : decode cX8_work 36 = .ok (.iaload, 1) := by decide +kernel
theorem dX8_work_37 : decode cX8_work 37 = .ok (.goto 5, 3) := by decide +kernel
theorem dX8_work_40 : decode cX8_work 40 = .ok (.bipush (-2), 2) := by decide +kernel
theorem dX8_work_42 : decode cX8_work 42 = .ok (.ireturn, 1) := by decide +kernel
theorem dX8_lends_0 : decode cX8_lends 0 = .ok (.aload_n 0, 1) := by decide +kernel
theorem dX8_lends_1 : decode cX8_lends 1 = .ok (.getfield 34, 3) := by decide +kernel
theorem dX8_lends_4 : decode cX8_lends 4 = .ok (.iconst 4, 1) := by decide +kernel
theorem dX8_lends_5 : decode cX8_lends 5 = .ok (.aload_n 0, 1) := by decide +kernel
theorem dX8_lends_6 : decode cX8_lends 6 = .ok (.getfield 151, 3) := by decide +kernel
theorem dX8_lends_9 : decode cX8_lends 9 = .ok (.imul, 1) := by decide +kernel
theorem dX8_lends_10 : decode cX8_lends 10 = .ok (.iload_n 1, 1) := by decide +kernel
theorem dX8_lends_11 : decode cX8_lends 11 = .ok (.iastore, 1) := by decide +kernel
theorem dX8_lends_12 : decode cX8_lends 12 = .ok (.aload_n 0, 1) := by decide +kernel
theorem dX8_lends_13 : decode cX8_lends 13 = .ok (.getfield 34, 3) := by decide +kernel
theorem dX8_lends_16 : decode cX8_lends 16 = .ok (.iconst 4, 1) := by decide +kernel
theorem dX8_lends_17 : decode cX8_lends 17 = .ok (.aload_n 0, 1) := by decide +kernel
theorem dX8_lends_18 : decode cX8_lends 18 = .ok (.getfield 151, 3) := by decide +kernel
theorem dX8_lends_21 : decode cX8_lends 21 = .ok (.imul, 1) := by decide +kernel
theorem dX8_lends_22 : decode cX8_lends 22 = .ok (.iconst 1, 1) := by decide +kernel
theorem dX8_lends_23 : decode cX8_lends 23 = .ok (.iadd, 1) := by decide +kernel
theorem dX8_lends_24 : decode cX8_lends 24 = .ok (.iload_n 2, 1) := by decide +kernel
theorem dX8_lends_25 : decode cX8_lends 25 = .ok (.iastore, 1) := by decide +kernel
theorem dX8_lends_26 : decode cX8_lends 26 = .ok (.aload_n 0, 1) := by decide +kernel
theorem dX8_lends_27 : decode cX8_lends 27 = .ok (.getfield 34, 3) := by decide +kernel
theorem dX8_lends_30 : decode cX8_lends 30 = .ok (.iconst 4, 1) := by decide +kernel
theorem dX8_lends_31 : decode cX8_lends 31 = .ok (.aload_n 0, 1) := by decide +kernel
theorem dX8_lends_32 : decode cX8_lends 32 = .ok (.getfield 151, 3) := by decide +kernel
theorem dX8_lends_35 : decode cX8_lends 35 = .ok (.imul, 1) := by decide +kernel
theorem dX8_lends_36 : decode cX8_lends 36 = .ok (.iconst 2, 1) := by decide +kernel
theorem dX8_lends_37 : decode cX8_lends 37 = .ok (.iadd, 1) := by decide +kernel
theorem dX8_lends_38 : decode cX8_lends 38 = .ok (.iload_n 3, 1) := by decide +kernel
theorem dX8_lends_39 : decode cX8_lends 39 = .ok (.iastore, 1) := by decide +kernel
theorem dX8_lends_40 : decode cX8_lends 40 = .ok (.aload_n 0, 1) := by decide +kernel
theorem dX8_lends_41 : decode cX8_lends 41 = .ok (.getfield 34, 3) := by decide +kernel
theorem dX8_lends_44 : decode cX8_lends 44 = .ok (.iconst 4, 1) := by decide +kernel
theorem dX8_lends_45 : decode cX8_lends 45 = .ok (.aload_n 0, 1) := by decide +kernel
theorem dX8_lends_46 : decode cX8_lends 46 = .ok (.getfield 151, 3) := by decide +kernel
theorem dX8_lends_49 : decode cX8_lends 49 = .ok (.imul, 1) := by decide +kernel
theorem dX8_lends_50 : decode cX8_lends 50 = .ok (.iconst 3, 1) := by decide +kernel
theorem dX8_lends_51 : decode cX8_lends 51 = .ok (.iadd, 1) := by decide +kernel
theorem dX8_lends_52 : decode cX8_lends 52 = .ok (.iload 4, 2) := by decide +kernel
theorem dX8_lends_54 : decode cX8_lends 54 = .ok (.iastore, 1) := by decide +kernel
theorem dX8_lends_55 : decode cX8_lends 55 = .ok (.aload_n 0, 1) := by decide +kernel
theorem dX8_lends_56 : decode cX8_lends 56 = .ok (.dup, 1) := by decide +kernel
theorem dX8_lends_57 : decode cX8_lends 57 = .ok (.getfield 151, 3) := by decide +kernel
theorem dX8_lends_60 : decode cX8_lends 60 = .ok (.iconst 1, 1) := by decide +kernel
theorem dX8_lends_61 : decode cX8_lends 61 = .ok (.iadd, 1) := by decide +kernel
theorem dX8_lends_62 : decode cX8_lends 62 = .ok (.putfield 151, 3) := by decide +kernel
theorem dX8_lends_65 : decode cX8_lends 65 = .ok (.return_, 1) := by decide +kernel
theorem dX8_loan_0 : decode cX8_loan 0 = .ok (.iload_n 1, 1) := by decide +kernel
theorem dX8_loan_1 : decode cX8_loan 1 = .ok (.invokestatic 154, 3) := by decide +kernel
theorem dX8_loan_4 : decode cX8_loan 4 = .ok (.ifCond .eq 35, 3) := by decide +kernel
theorem dX8_loan_7 : decode cX8_loan 7 = .ok (.iload_n 2, 1) := by decide +kernel
theorem dX8_loan_8 : decode cX8_loan 8 = .ok (.invokestatic 157, 3) := by decide +kernel
theorem dX8_loan_11 : decode cX8_loan 11 = .ok (.ifCond .eq 28, 3) := by decide +kernel
theorem dX8_loan_14 : decode cX8_loan 14 = .ok (.iload_n 3, 1) := by decide +kernel
theorem dX8_loan_15 : decode cX8_loan 15 = .ok (.i2l, 1) := by decide +kernel
theorem dX8_loan_16 : decode cX8_loan 16 = .ok (.lconst 0, 1) := by decide +kernel
theorem dX8_loan_17 : decode cX8_loan 17 = .ok (.ldc2_w 160, 3) := by decide +kernel
theorem dX8_loan_20 : decode cX8_loan 20 = .ok (.invokestatic 94, 3) := by decide +kernel
theorem dX8_loan_23 : decode cX8_loan 23 = .ok (.ifCond .eq 16, 3) := by decide +kernel
theorem dX8_loan_26 : decode cX8_loan 26 = .ok (.iload 4, 2) := by decide +kernel
theorem dX8_loan_28 : decode cX8_loan 28 = .ok (.i2l, 1) := by decide +kernel
theorem dX8_loan_29 : decode cX8_loan 29 = .ok (.lconst 1, 1) := by decide +kernel
theorem dX8_loan_30 : decode cX8_loan 30 = .ok (.ldc2_w 162, 3) := by decide +kernel
theorem dX8_loan_33 : decode cX8_loan 33 = .ok (.invokestatic 94, 3) := by decide +kernel
theorem dX8_loan_36 : decode cX8_loan 36 = .ok (.ifCond .ne 6, 3) := by decide +kernel
theorem dX8_loan_39 : decode cX8_loan 39 = .ok (.bipush (-2), 2) := by decide +kernel
theorem dX8_loan_41 : decode cX8_loan 41 = .ok (.ireturn, 1) := by decide +kernel
theorem dX8_loan_42 : decode cX8_loan 42 = .ok (.aload_n 0, 1) := by decide +kernel
theorem dX8_loan_43 : decode cX8_loan 43 = .ok (.getfield 151, 3) := by decide +kernel
theorem dX8_loan_46 : decode cX8_loan 46 = .ok (.bipush 12, 2) := by decide +kernel
theorem dX8_loan_48 : decode cX8_loan 48 = .ok (.if_icmp .ne 6, 3) := by decide +kernel
theorem dX8_loan_51 : decode cX8_loan 51 = .ok (.bipush (-4), 2) := by decide +kernel
theorem dX8_loan_53 : decode cX8_loan 53 = .ok (.ireturn, 1) := by decide +kernel
theorem dX8_loan_54 : decode cX8_loan 54 = .ok (.aload_n 0, 1) := by decide +kernel
theorem dX8_loan_55 : decode cX8_loan 55 = .ok (.iload_n 1, 1) := by decide +kernel
theorem dX8_loan_56 : decode cX8_loan 56 = .ok (.iload_n 2, 1) := by decide +kernel
theorem dX8_loan_57 : decode cX8_loan 57 = .ok (.iload_n 3, 1) := by decide +kernel
theorem dX8_loan_58 : decode cX8_loan 58 = .ok (.iload 4, 2) := by decide +kernel
theorem dX8_loan_60 : decode cX8_loan 60 = .ok (.invokevirtual 164, 3) := by decide +kernel
theorem dX8_loan_63 : decode cX8_loan 63 = .ok (.aload_n 0, 1) := by decide +kernel
theorem dX8_loan_64 : decode cX8_loan 64 = .ok (.getfield 151, 3) := by decide +kernel
theorem dX8_loan_67 : decode cX8_loan 67 = .ok (.ireturn, 1) := by decide +kernel
theorem dX8_fill_0 : decode cX8_fill 0 = .ok (.iload_n 1, 1) := by decide +kernel
theorem dX8_fill_1 : decode cX8_fill 1 = .ok (.invokestatic 154, 3) := by decide +kernel
theorem dX8_fill_4 : decode cX8_fill 4 = .ok (.ifCond .eq 10, 3) := by decide +kernel
theorem dX8_fill_7 : decode cX8_fill 7 = .ok (.iload_n 2, 1) := by decide +kernel
