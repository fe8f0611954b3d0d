theorem dX8_lookOf_5 : decode cX8_lookOf 5 = .ok (.istore_n 2, 1) := by decide +kernel
theorem dX8_lookOf_6 : decode cX8_lookOf 6 = .ok (.iconst 0, 1) := by decide +kernel
theorem dX8_lookOf_7 : decode cX8_lookOf 7 = .ok (.istore_n 3, 1) := by decide +kernel
theorem dX8_lookOf_8 : decode cX8_lookOf 8 = .ok (.iload_n 3, 1) := by decide +kernel
theorem dX8_lookOf_9 : decode cX8_lookOf 9 = .ok (.bipush 80, 2) := by decide +kernel
theorem dX8_lookOf_11 : decode cX8_lookOf 11 = .ok (.if_icmp .ge 16, 3) := by decide +kernel
theorem dX8_lookOf_14 : decode cX8_lookOf 14 = .ok (.aload_n 0, 1) := by decide +kernel
theorem dX8_lookOf_15 : decode cX8_lookOf 15 = .ok (.getfield 79, 3) := by decide +kernel
theorem dX8_lookOf_18 : decode cX8_lookOf 18 = .ok (.iload_n 3, 1) := by decide +kernel
theorem dX8_lookOf_19 : decode cX8_lookOf 19 = .ok (.iconst 0, 1) := by decide +kernel
theorem dX8_lookOf_20 : decode cX8_lookOf 20 = .ok (.iastore, 1) := by decide +kernel
theorem dX8_lookOf_21 : decode cX8_lookOf 21 = .ok (.iinc 3 1, 3) := by decide +kernel
theorem dX8_lookOf_24 : decode cX8_lookOf 24 = .ok (.goto (-16), 3) := by decide +kernel
theorem dX8_lookOf_27 : decode cX8_lookOf 27 = .ok (.iconst 0, 1) := by decide +kernel
theorem dX8_lookOf_28 : decode cX8_lookOf 28 = .ok (.istore_n 3, 1) := by decide +kernel
theorem dX8_lookOf_29 : decode cX8_lookOf 29 = .ok (.iload_n 3, 1) := by decide +kernel
theorem dX8_lookOf_30 : decode cX8_lookOf 30 = .ok (.aload_n 0, 1) := by decide +kernel
theorem dX8_lookOf_31 : decode cX8_lookOf 31 = .ok (.getfield 151, 3) := by decide +kernel
theorem dX8_lookOf_34 : decode cX8_lookOf 34 = .ok (.if_icmp .ge 73, 3) := by decide +kernel
theorem dX8_lookOf_37 : decode cX8_lookOf 37 = .ok (.iload_n 2, 1) := by decide +kernel
theorem dX8_lookOf_38 : decode cX8_lookOf 38 = .ok (.iload_n 3, 1) := by decide +kernel
theorem dX8_lookOf_39 : decode cX8_lookOf 39 = .ok (.invokestatic 192, 3) := by decide +kernel
theorem dX8_lookOf_42 : decode cX8_lookOf 42 = .ok (.ifCond .eq 59, 3) := by decide +kernel
theorem dX8_lookOf_45 : decode cX8_lookOf 45 = .ok (.aload_n 0, 1) := by decide +kernel
theorem dX8_lookOf_46 : decode cX8_lookOf 46 = .ok (.iload_n 3, 1) := by decide +kernel
theorem dX8_lookOf_47 : decode cX8_lookOf 47 = .ok (.putfield 86, 3) := by decide +kernel
theorem dX8_lookOf_50 : decode cX8_lookOf 50 = .ok (.aload_n 0, 1) := by decide +kernel
theorem dX8_lookOf_51 : decode cX8_lookOf 51 = .ok (.iload_n 1, 1) := by decide +kernel
theorem dX8_lookOf_52 : decode cX8_lookOf 52 = .ok (.invokevirtual 218, 3) := by decide +kernel
theorem dX8_lookOf_55 : decode cX8_lookOf 55 = .ok (.aload_n 0, 1) := by decide +kernel
theorem dX8_lookOf_56 : decode cX8_lookOf 56 = .ok (.iconst (-1), 1) := by decide +kernel
theorem dX8_lookOf_57 : decode cX8_lookOf 57 = .ok (.putfield 86, 3) := by decide +kernel
theorem dX8_lookOf_60 : decode cX8_lookOf 60 = .ok (.iconst 0, 1) := by decide +kernel
theorem dX8_lookOf_61 : decode cX8_lookOf 61 = .ok (.istore 4, 2) := by decide +kernel
theorem dX8_lookOf_63 : decode cX8_lookOf 63 = .ok (.iload 4, 2) := by decide +kernel
theorem dX8_lookOf_65 : decode cX8_lookOf 65 = .ok (.aload_n 0, 1) := by decide +kernel
theorem dX8_lookOf_66 : decode cX8_lookOf 66 = .ok (.getfield 28, 3) := by decide +kernel
theorem dX8_lookOf_69 : decode cX8_lookOf 69 = .ok (.iconst 0, 1) := by decide +kernel
theorem dX8_lookOf_70 : decode cX8_lookOf 70 = .ok (.iaload, 1) := by decide +kernel
theorem dX8_lookOf_71 : decode cX8_lookOf 71 = .ok (.if_icmp .ge 30, 3) := by decide +kernel
theorem dX8_lookOf_74 : decode cX8_lookOf 74 = .ok (.aload_n 0, 1) := by decide +kernel
theorem dX8_lookOf_75 : decode cX8_lookOf 75 = .ok (.getfield 79, 3) := by decide +kernel
theorem dX8_lookOf_78 : decode cX8_lookOf 78 = .ok (.bipush 10, 2) := by decide +kernel
theorem dX8_lookOf_80 : decode cX8_lookOf 80 = .ok (.iload 4, 2) := by decide +kernel
theorem dX8_lookOf_82 : decode cX8_lookOf 82 = .ok (.imul, 1) := by decide +kernel
theorem dX8_lookOf_83 : decode cX8_lookOf 83 = .ok (.aload_n 0, 1) := by decide +kernel
theorem dX8_lookOf_84 : decode cX8_lookOf 84 = .ok (.iload 4, 2) := by decide +kernel
theorem dX8_lookOf_86 : decode cX8_lookOf 86 = .ok (.invokevirtual 279, 3) := by decide +kernel
theorem dX8_lookOf_89 : decode cX8_lookOf 89 = .ok (.iadd, 1) := by decide +kernel
theorem dX8_lookOf_90 : decode cX8_lookOf 90 = .ok (.dup2, 1) := by decide +kernel
theorem dX8_lookOf_91 : decode cX8_lookOf 91 = .ok (.iaload, 1) := by decide +kernel
theorem dX8_lookOf_92 : decode cX8_lookOf 92 = .ok (.iconst 1, 1) := by decide +kernel
theorem dX8_lookOf_93 : decode cX8_lookOf 93 = .ok (.iadd, 1) := by decide +kernel
theorem dX8_lookOf_94 : decode cX8_lookOf 94 = .ok (.iastore, 1) := by decide +kernel
theorem dX8_lookOf_95 : decode cX8_lookOf 95 = .ok (.iinc 4 1, 3) := by decide +kernel
theorem dX8_lookOf_98 : decode cX8_lookOf 98 = .ok (.goto (-35), 3) := by decide +kernel
theorem dX8_lookOf_101 : decode cX8_lookOf 101 = .ok (.iinc 3 1, 3) := by decide +kernel
theorem dX8_lookOf_104 : decode cX8_lookOf 104 = .ok (.goto (-75), 3) := by decide +kernel
theorem dX8_lookOf_107 : decode cX8_lookOf 107 = .ok (.iconst (-1), 1) := by decide +kernel
theorem dX8_lookOf_108 : decode cX8_lookOf 108 = .ok (.istore_n 3, 1) := by decide +kernel
theorem dX8_lookOf_109 : decode cX8_lookOf 109 = .ok (.iconst 0, 1) := by decide +kernel
theorem dX8_lookOf_110 : decode cX8_lookOf 110 = .ok (.istore 4, 2) := by decide +kernel
theorem dX8_lookOf_112 : decode cX8_lookOf 112 = .ok (.iconst 0, 1) := by decide +kernel
theorem dX8_lookOf_113 : decode cX8_lookOf 113 = .ok (.istore 5, 2) := by decide +kernel
theorem dX8_lookOf_115 : decode cX8_lookOf 115 = .ok (.iload 5, 2) := by decide +kernel
theorem dX8_lookOf_117 : decode cX8_lookOf 117 = .ok (.aload_n 0, 1) := by decide +kernel
theorem dX8_lookOf_118 : decode cX8_lookOf 118 = .ok (.getfield 28, 3) := by decide +kernel
theorem dX8_lookOf_121 : decode cX8_lookOf 121 = .ok (.iconst 0, 1) := by decide +kernel
theorem dX8_lookOf_122 : decode cX8_lookOf 122 = .ok (.iaload, 1) := by decide +kernel
theorem dX8_lookOf_123 : decode cX8_lookOf 123 = .ok (.if_icmp .ge 93, 3) := by decide +kernel
theorem dX8_lookOf_126 : decode cX8_lookOf 126 = .ok (.iconst 0, 1) := by decide +kernel
theorem dX8_lookOf_127 : decode cX8_lookOf 127 = .ok (.istore 6, 2) := by decide +kernel
theorem dX8_lookOf_129 : decode cX8_lookOf 129 = .ok (.iconst 0, 1) := by decide +kernel
theorem dX8_lookOf_130 : decode cX8_lookOf 130 = .ok (.istore 7, 2) := by decide +kernel
theorem dX8_lookOf_132 : decode cX8_lookOf 132 = .ok (.iload 7, 2) := by decide +kernel
theorem dX8_lookOf_134 : decode cX8_lookOf 134 = .ok (.bipush 10, 2) := by decide +kernel
theorem dX8_lookOf_136 : decode cX8_lookOf 136 = .ok (.if_icmp .ge 29, 3) := by decide +kernel
theorem dX8_lookOf_139 : decode cX8_lookOf 139 = .ok (.aload_n 0, 1) := by decide +kernel
theorem dX8_lookOf_140 : decode cX8_lookOf 140 = .ok (.getfield 79, 3) := by decide +kernel
theorem dX8_lookOf_143 : decode cX8_lookOf 143 = .ok (.bipush 10, 2) := by decide +kernel
theorem dX8_lookOf_145 : decode cX8_lookOf 145 = .ok (.iload 5, 2) := by decide +kernel
theorem dX8_lookOf_147 : decode cX8_lookOf 147 = .ok (.imul, 1) := by decide +kernel
theorem dX8_lookOf_148 : decode cX8_lookOf 148 = .ok (.iload 7, 2) := by decide +kernel
theorem dX8_lookOf_150 : decode cX8_lookOf 150 = .ok (.iadd, 1) := by decide +kernel
theorem dX8_lookOf_151 : decode cX8_lookOf 151 = .ok (.iaload, 1) := by decide +kernel
theorem dX8_lookOf_152 : decode cX8_lookOf 152 = .ok (.iload 6, 2) := by decide +kernel
theorem dX8_lookOf_154 : decode cX8_lookOf 154 = .ok (.invokestatic 186, 3) := by decide +kernel
theorem dX8_lookOf_157 : decode cX8_lookOf 157 = .ok (.istore 6, 2) := by decide +kernel
theorem dX8_lookOf_159 : decode cX8_lookOf 159 = .ok (.iinc 7 1, 3) := by decide +kernel
theorem dX8_lookOf_162 : decode cX8_lookOf 162 = .ok (.goto (-30), 3) := by decide +kernel
theorem dX8_lookOf_165 : decode cX8_lookOf 165 = .ok (.iload_n 3, 1) := by decide +kernel
theorem dX8_lookOf_166 : decode cX8_lookOf 166 = .ok (.iconst (-1), 1) := by decide +kernel
theorem dX8_lookOf_167 : decode cX8_lookOf 167 = .ok (.if_icmp .eq 10, 3) := by decide +kernel
theorem dX8_lookOf_170 : decode cX8_lookOf 170 = .ok (.iload 6, 2) := by decide +kernel
theorem dX8_lookOf_172 : decode cX8_lookOf 172 = .ok (.iload 4, 2) := by decide +kernel
theorem dX8_lookOf_174 : decode cX8_lookOf 174 = .ok (.if_icmp .ge 7, 3) := by decide +kernel
theorem dX8_lookOf_177 : decode cX8_lookOf 177 = .ok (.iconst 1, 1) := by decide +kernel
theorem dX8_lookOf_178 : decode cX8_lookOf 178 = .ok (.goto 4, 3) := by decide +kernel
theorem dX8_lookOf_181 : decode cX8_lookOf 181 = .ok (.iconst 0, 1) := by decide +kernel
theorem dX8_lookOf_182 : decode cX8_lookOf 182 = .ok (.istore 7, 2) := by decide +kernel
theorem dX8_lookOf_184 : decode cX8_lookOf 184 = .ok (.iload 7, 2) := by decide +kernel
theorem dX8_lookOf_186 : decode cX8_lookOf 186 = .ok (.ifCond .eq 8, 3) := by decide +kernel
theorem dX8_lookOf_189 : decode cX8_lookOf 189 = .ok (.iload 5, 2) := by decide +kernel
theorem dX8_lookOf_191 : decode cX8_lookOf 191 = .ok (.goto 4, 3) := by decide +kernel
theorem dX8_lookOf_194 : decode cX8_lookOf 194 = .ok (.iload_n 3, 1) := by decide +kernel
theorem dX8_lookOf_195 : decode cX8_lookOf 195 = .ok (.istore_n 3, 1) := by decide +kernel
theorem dX8_lookOf_196 : decode cX8_lookOf 196 = .ok (.iload 7, 2) := by decide +kernel
theorem dX8_lookOf_198 : decode cX8_lookOf 198 = .ok (.ifCond .eq 8, 3) := by decide +kernel
theorem dX8_lookOf_201 : decode cX8_lookOf 201 = .ok (.iload 6, 2) := by decide +kernel
theorem dX8_lookOf_203 : decode cX8_lookOf 203 = .ok (.goto 5, 3) := by decide +kernel
theorem dX8_lookOf_206 : decode cX8_lookOf 206 = .ok (.iload 4, 2) := by decide +kernel
theorem dX8_lookOf_208 : decode cX8_lookOf 208 = .ok (.istore 4, 2) := by decide +kernel
theorem dX8_lookOf_210 : decode cX8_lookOf 210 = .ok (.iinc 5 1, 3) := by decide +kernel
theorem dX8_lookOf_213 : decode cX8_lookOf 213 = .ok (.goto (-98), 3) := by decide +kernel
theorem dX8_lookOf_216 : decode cX8_lookOf 216 = .ok (.iload_n 3, 1) := by decide +kernel
theorem dX8_lookOf_217 : decode cX8_lookOf 217 = .ok (.ireturn, 1) := by decide +kernel
theorem dX8_look_0 : decode cX8_look 0 = .ok (.aload_n 0, 1) := by decide +kernel
theorem dX8_look_1 : decode cX8_look 1 = .ok (.invokevirtual 142, 3) := by decide +kernel
theorem dX8_look_4 : decode cX8_look 4 = .ok (.iload_n 1, 1) := by decide +kernel
theorem dX8_look_5 : decode cX8_look 5 = .ok (.invokestatic 154, 3) := by decide +kernel
theorem dX8_look_8 : decode cX8_look 8 = .ok (.ifCond .eq 11, 3) := by decide +kernel
theorem dX8_look_11 : decode cX8_look 11 = .ok (.aload_n 0, 1) := by decide +kernel
theorem dX8_look_12 : decode cX8_look 12 = .ok (.iload_n 1, 1) := by decide +kernel
theorem dX8_look_13 : decode cX8_look 13 = .ok (.invokevirtual 289, 3) := by decide +kernel
theorem dX8_look_16 : decode cX8_look 16 = .ok (.goto 5, 3) := by decide +kernel
theorem dX8_look_19 : decode cX8_look 19 = .ok (.bipush (-2), 2) := by decide +kernel
theorem dX8_look_21 : decode cX8_look 21 = .ok (.ireturn, 1) := by decide +kernel
theorem dX8_mothsOf_0 : decode cX8_mothsOf 0 = .ok (.aload_n 0, 1) := by decide +kernel
theorem dX8_mothsOf_1 : decode cX8_mothsOf 1 = .ok (.iload_n 2, 1) := by decide +kernel
theorem dX8_mothsOf_2 : decode cX8_mothsOf 2 = .ok (.invokevirtual 218, 3) := by decide +kernel
theorem dX8_mothsOf_5 : decode cX8_mothsOf 5 = .ok (.lconst 1, 1) := by decide +kernel
theorem dX8_mothsOf_6 : decode cX8_mothsOf 6 = .ok (.lstore 5, 2) := by decide +kernel
theorem dX8_mothsOf_8 : decode cX8_mothsOf 8 = .ok (.lconst 1, 1) := by decide +kernel
theorem dX8_mothsOf_9 : decode cX8_mothsOf 9 = .ok (.lstore 7, 2) := by decide +kernel
theorem dX8_mothsOf_11 : decode cX8_mothsOf 11 = .ok (.iconst 0, 1) := by decide +kernel
theorem dX8_mothsOf_12 : decode cX8_mothsOf 12 = .ok (.istore 9, 2) := by decide +kernel
theorem dX8_mothsOf_14 : decode cX8_mothsOf 14 = .ok (.iload 9, 2) := by decide +kernel
theorem dX8_mothsOf_16 : decode cX8_mothsOf 16 = .ok (.aload_n 0, 1) := by decide +kernel
theorem dX8_mothsOf_17 : decode cX8_mothsOf 17 = .ok (.getfield 28, 3) := by decide +kernel
theorem dX8_mothsOf_20 : decode cX8_mothsOf 20 = .ok (.iconst 0, 1) := by decide +kernel
theorem dX8_mothsOf_21 : decode cX8_mothsOf 21 = .ok (.iaload, 1) := by decide +kernel
theorem dX8_mothsOf_22 : decode cX8_mothsOf 22 = .ok (.if_icmp .ge 97, 3) := by decide +kernel
theorem dX8_mothsOf_25 : decode cX8_mothsOf 25 = .ok (.aload_n 0, 1) := by decide +kernel
theorem dX8_mothsOf_26 : decode cX8_mothsOf 26 = .ok (.getfield 49, 3) := by decide +kernel
theorem dX8_mothsOf_29 : decode cX8_mothsOf 29 = .ok (.iload 9, 2) := by decide +kernel
theorem dX8_mothsOf_31 : decode cX8_mothsOf 31 = .ok (.iaload, 1) := by decide +kernel
theorem dX8_mothsOf_32 : decode cX8_mothsOf 32 = .ok (.iconst (-1), 1) := by decide +kernel
theorem dX8_mothsOf_33 : decode cX8_mothsOf 33 = .ok (.if_icmp .ne 80, 3) := by decide +kernel
theorem dX8_mothsOf_36 : decode cX8_mothsOf 36 = .ok (.aload_n 0, 1) := by decide +kernel
theorem dX8_mothsOf_37 : decode cX8_mothsOf 37 = .ok (.iload 9, 2) := by decide +kernel
theorem dX8_mothsOf_39 : decode cX8_mothsOf 39 = .ok (.iload_n 3, 1) := by decide +kernel
theorem dX8_mothsOf_40 : decode cX8_mothsOf 40 = .ok (.aload_n 0, 1) := by decide +kernel
theorem dX8_mothsOf_41 : decode cX8_mothsOf 41 = .ok (.getfield 43, 3) := by decide +kernel
theorem dX8_mothsOf_44 : decode cX8_mothsOf 44 = .ok (.iload 9, 2) := by decide +kernel
theorem dX8_mothsOf_46 : decode cX8_mothsOf 46 = .ok (.iaload, 1) := by decide +kernel
theorem dX8_mothsOf_47 : decode cX8_mothsOf 47 = .ok (.invokevirtual 240, 3) := by decide +kernel
theorem dX8_mothsOf_50 : decode cX8_mothsOf 50 = .ok (.ifCond .eq 7, 3) := by decide +kernel
theorem dX8_mothsOf_53 : decode cX8_mothsOf 53 = .ok (.iconst 0, 1) := by decide +kernel
theorem dX8_mothsOf_54 : decode cX8_mothsOf 54 = .ok (.goto 7, 3) := by decide +kernel
theorem dX8_mothsOf_57 : decode cX8_mothsOf 57 = .ok (.bipush 16, 2) := by decide +kernel
theorem dX8_mothsOf_59 : decode cX8_mothsOf 59 = .ok (.iload_n 1, 1) := by decide +kernel
theorem dX8_mothsOf_60 : decode cX8_mothsOf 60 = .ok (.isub, 1) := by decide +kernel
theorem dX8_mothsOf_61 : decode cX8_mothsOf 61 = .ok (.istore 10, 2) := by decide +kernel
theorem dX8_mothsOf_63 : decode cX8_mothsOf 63 = .ok (.iload 10, 2) := by decide +kernel
theorem dX8_mothsOf_65 : decode cX8_mothsOf 65 = .ok (.aload_n 0, 1) := by decide +kernel
theorem dX8_mothsOf_66 : decode cX8_mothsOf 66 = .ok (.iload 9, 2) := by decide +kernel
theorem dX8_mothsOf_68 : decode cX8_mothsOf 68 = .ok (.iload_n 3, 1) := by decide +kernel
theorem dX8_mothsOf_69 : decode cX8_mothsOf 69 = .ok (.aload_n 0, 1) := by decide +kernel
theorem dX8_mothsOf_70 : decode cX8_mothsOf 70 = .ok (.getfield 43, 3) := by decide +kernel
theorem dX8_mothsOf_73 : decode cX8_mothsOf 73 = .ok (.iload 9, 2) := by decide +kernel
theorem dX8_mothsOf_75 : decode cX8_mothsOf 75 = .ok (.iaload, 1) := by decide +kernel
theorem dX8_mothsOf_76 : decode cX8_mothsOf 76 = .ok (.iconst 1, 1) := by decide +kernel
theorem dX8_mothsOf_77 : decode cX8_mothsOf 77 = .ok (.iadd, 1) := by decide +kernel
theorem dX8_mothsOf_78 : decode cX8_mothsOf 78 = .ok (.bipush 9, 2) := by decide +kernel
theorem dX8_mothsOf_80 : decode cX8_mothsOf 80 = .ok (.invokestatic 189, 3) := by decide +kernel
theorem dX8_mothsOf_83 : decode cX8_mothsOf 83 = .ok (.invokevirtual 240, 3) := by decide +kernel
theorem dX8_mothsOf_86 : decode cX8_mothsOf 86 = .ok (.ifCond .eq 7, 3) := by decide +kernel
theorem dX8_mothsOf_89 : decode cX8_mothsOf 89 = .ok (.iconst 0, 1) := by decide +kernel
theorem dX8_mothsOf_90 : decode cX8_mothsOf 90 = .ok (.goto 4, 3) := by decide +kernel
theorem dX8_mothsOf_93 : decode cX8_mothsOf 93 = .ok (.iload_n 1, 1) := by decide +kernel
theorem dX8_mothsOf_94 : decode cX8_mothsOf 94 = .ok (.iadd, 1) := by decide +kernel
theorem dX8_mothsOf_95 : decode cX8_mothsOf 95 = .ok (.istore 10, 2) := by decide +kernel
theorem dX8_mothsOf_97 : decode cX8_mothsOf 97 = .ok (.lload 5, 2) := by decide +kernel
theorem dX8_mothsOf_99 : decode cX8_mothsOf 99 = .ok (.iload 10, 2) := by decide +kernel
theorem dX8_mothsOf_101 : decode cX8_mothsOf 101 = .ok (.i2l, 1) := by decide +kernel
theorem dX8_mothsOf_102 : decode cX8_mothsOf 102 = .ok (.lmul, 1) := by decide +kernel
theorem dX8_mothsOf_103 : decode cX8_mothsOf 103 = .ok (.lstore 5, 2) := by decide +kernel
theorem dX8_mothsOf_105 : decode cX8_mothsOf 105 = .ok (.lload 7, 2) := by decide +kernel
theorem dX8_mothsOf_107 : decode cX8_mothsOf 107 = .ok (.ldc2_w 292, 3) := by decide +kernel
theorem dX8_mothsOf_110 : decode cX8_mothsOf 110 = .ok (.lmul, 1) := by decide +kernel
theorem dX8_mothsOf_111 : decode cX8_mothsOf 111 = .ok (.lstore 7, 2) := by decide +kernel
theorem dX8_mothsOf_113 : decode cX8_mothsOf 113 = .ok (.iinc 9 1, 3) := by decide +kernel
theorem dX8_mothsOf_116 : decode cX8_mothsOf 116 = .ok (.goto (-102), 3) := by decide +kernel
theorem dX8_mothsOf_119 : decode cX8_mothsOf 119 = .ok (.lload 7, 2) := by decide +kernel
theorem dX8_mothsOf_121 : decode cX8_mothsOf 121 = .ok (.lload 5, 2) := by decide +kernel
theorem dX8_mothsOf_123 : decode cX8_mothsOf 123 = .ok (.lsub, 1) := by decide +kernel
theorem dX8_mothsOf_124 : decode cX8_mothsOf 124 = .ok (.lload 7, 2) := by decide +kernel
theorem dX8_mothsOf_126 : decode cX8_mothsOf 126 = .ok (.iload 4, 2) := by decide +kernel
theorem dX8_mothsOf_128 : decode cX8_mothsOf 128 = .ok (.invokestatic 294, 3) := by decide +kernel
theorem dX8_mothsOf_131 : decode cX8_mothsOf 131 = .ok (.lreturn, 1) := by decide +kernel
theorem dX8_moths_0 : decode cX8_moths 0 = .ok (.aload_n 0, 1) := by decide +kernel
theorem dX8_moths_1 : decode cX8_moths 1 = .ok (.invokevirtual 142, 3) := by decide +kernel
theorem dX8_moths_4 : decode cX8_moths 4 = .ok (.iload_n 1, 1) := by decide +kernel
theorem dX8_moths_5 : decode cX8_moths 5 = .ok (.i2l, 1) := by decide +kernel
theorem dX8_moths_6 : decode cX8_moths 6 = .ok (.lconst 0, 1) := by decide +kernel
theorem dX8_moths_7 : decode cX8_moths 7 = .ok (.ldc2_w 292, 3) := by decide +kernel
theorem dX8_moths_10 : decode cX8_moths 10 = .ok (.invokestatic 94, 3) := by decide +kernel
theorem dX8_moths_13 : decode cX8_moths 13 = .ok (.ifCond .eq 38, 3) := by decide +kernel
theorem dX8_moths_16 : decode cX8_moths 16 = .ok (.iload_n 2, 1) := by decide +kernel
theorem dX8_moths_17 : decode cX8_moths 17 = .ok (.invokestatic 154, 3) := by decide +kernel
theorem dX8_moths_20 : decode cX8_moths 20 = .ok (.ifCond .eq 31, 3) := by decide +kernel
theorem dX8_moths_23 : decode cX8_moths 23 = .ok (.aload_n 0, 1) := by decide +kernel
theorem dX8_moths_24 : decode cX8_moths 24 = .ok (.iload_n 3, 1) := by decide +kernel
theorem dX8_moths_25 : decode cX8_moths 25 = .ok (.invokevirtual 148, 3) := by decide +kernel
theorem dX8_moths_28 : decode cX8_moths 28 = .ok (.ifCond .eq 23, 3) := by decide +kernel
theorem dX8_moths_31 : decode cX8_moths 31 = .ok (.iload 4, 2) := by decide +kernel
theorem dX8_moths_33 : decode cX8_moths 33 = .ok (.invokestatic 122, 3) := by decide +kernel
theorem dX8_moths_36 : decode cX8_moths 36 = .ok (.ifCond .eq 15, 3) := by decide +kernel
theorem dX8_moths_39 : decode cX8_moths 39 = .ok (.aload_n 0, 1) := by decide +kernel
theorem dX8_moths_40 : decode cX8_moths 40 = .ok (.iload_n 1, 1) := by decide +kernel
theorem dX8_moths_41 : decode cX8_moths 41 = .ok (.iload_n 2, 1) := by decide +kernel
theorem dX8_moths_42 : decode cX8_moths 42 = .ok (.iload_n 3, 1) := by decide +kernel
theorem dX8_moths_43 : decode cX8_moths 43 = .ok (.iload 4, 2) := by decide +kernel
theorem dX8_moths_45 : decode cX8_moths 45 = .ok (.invokevirtual 298, 3) := by decide +kernel
theorem dX8_moths_48 : decode cX8_moths 48 = .ok (.goto 8, 3) := by decide +kernel
theorem dX8_moths_51 : decode cX8_moths 51 = .ok (.bipush (-2), 2) := by decide +kernel
theorem dX8_moths_53 : decode cX8_moths 53 = .ok (.invokestatic 302, 3) := by decide +kernel
theorem dX8_moths_56 : decode cX8_moths 56 = .ok (.lreturn, 1) := by decide +kernel
theorem dX8_lot_0 : decode cX8_lot 0 = .ok (.aload_n 0, 1) := by decide +kernel
theorem dX8_lot_1 : decode cX8_lot 1 = .ok (.ldc_w 306, 3) := by decide +kernel
theorem dX8_lot_4 : decode cX8_lot 4 = .ok (.aload_n 0, 1) := by decide +kernel
theorem dX8_lot_5 : decode cX8_lot 5 = .ok (.getfield 307, 3) := by decide +kernel
theorem dX8_lot_8 : decode cX8_lot 8 = .ok (.imul, 1) := by decide +kernel
theorem dX8_lot_9 : decode cX8_lot 9 = .ok (.sipush 12345, 3) := by decide +kernel
theorem dX8_lot_12 : decode cX8_lot 12 = .ok (.iadd, 1) := by decide +kernel
theorem dX8_lot_13 : decode cX8_lot 13 = .ok (.putfield 307, 3) := by decide +kernel
theorem dX8_lot_16 : decode cX8_lot 16 = .ok (.aload_n 0, 1) := by decide +kernel
theorem dX8_lot_17 : decode cX8_lot 17 = .ok (.getfield 307, 3) := by decide +kernel
theorem dX8_lot_20 : decode cX8_lot 20 = .ok (.bipush 16, 2) := by decide +kernel
theorem dX8_lot_22 : decode cX8_lot 22 = .ok (.iushr, 1) := by decide +kernel
theorem dX8_lot_23 : decode cX8_lot 23 = .ok (.iload_n 1, 1) := by decide +kernel
theorem dX8_lot_24 : decode cX8_lot 24 = .ok (.irem, 1) := by decide +kernel
theorem dX8_lot_25 : decode cX8_lot 25 = .ok (.ireturn, 1) := by decide +kernel
theorem dX8_runOf_0 : decode cX8_runOf 0 = .ok (.aload_n 0, 1) := by decide +kernel
theorem dX8_runOf_1 : decode cX8_runOf 1 = .ok (.getfield 151, 3) := by decide +kernel
theorem dX8_runOf_4 : decode cX8_runOf 4 = .ok (.istore 4, 2) := by decide +kernel
theorem dX8_runOf_6 : decode cX8_runOf 6 = .ok (.aload_n 0, 1) := by decide +kernel
theorem dX8_runOf_7 : decode cX8_runOf 7 = .ok (.iload_n 1, 1) := by decide +kernel
theorem dX8_runOf_8 : decode cX8_runOf 8 = .ok (.putfield 307, 3) := by decide +kernel
theorem dX8_runOf_11 : decode cX8_runOf 11 = .ok (.iconst 0, 1) := by decide +kernel
theorem dX8_runOf_12 : decode cX8_runOf 12 = .ok (.istore 5, 2) := by decide +kernel
theorem dX8_runOf_14 : decode cX8_runOf 14 = .ok (.iload 5, 2) := by decide +kernel
theorem dX8_runOf_16 : decode cX8_runOf 16 = .ok (.iload_n 2, 1) := by decide +kernel
theorem dX8_runOf_17 : decode cX8_runOf 17 = .ok (.if_icmp .ge 47, 3) := by decide +kernel
theorem dX8_runOf_20 : decode cX8_runOf 20 = .ok (.aload_n 0, 1) := by decide +kernel
theorem dX8_runOf_21 : decode cX8_runOf 21 = .ok (.getfield 28, 3) := by decide +kernel
theorem dX8_runOf_24 : decode cX8_runOf 24 = .ok (.iconst 0, 1) := by decide +kernel
theorem dX8_runOf_25 : decode cX8_runOf 25 = .ok (.iaload, 1) := by decide +kernel
theorem dX8_runOf_26 : decode cX8_runOf 26 = .ok (.ifCond .le 38, 3) := by decide +kernel
theorem dX8_runOf_29 : decode cX8_runOf 29 = .ok (.aload_n 0, 1) := by decide +kernel
theorem dX8_runOf_30 : decode cX8_runOf 30 = .ok (.aload_n 0, 1) := by decide +kernel
theorem dX8_runOf_31 : decode cX8_runOf 31 = .ok (.getfield 28, 3) := by decide +kernel
theorem dX8_runOf_34 : decode cX8_runOf 34 = .ok (.iconst 0, 1) := by decide +kernel
theorem dX8_runOf_35 : decode cX8_runOf 35 = .ok (.iaload, 1) := by decide +kernel
theorem dX8_runOf_36 : decode cX8_runOf 36 = .ok (.invokevirtual 310, 3) := by decide +kernel
theorem dX8_runOf_39 : decode cX8_runOf 39 = .ok (.istore 6, 2) := by decide +kernel
theorem dX8_runOf_41 : decode cX8_runOf 41 = .ok (.aload_n 0, 1) := by decide +kernel
theorem dX8_runOf_42 : decode cX8_runOf 42 = .ok (.iload 5, 2) := by decide +kernel
theorem dX8_runOf_44 : decode cX8_runOf 44 = .ok (.iload 6, 2) := by decide +kernel
theorem dX8_runOf_46 : decode cX8_runOf 46 = .ok (.iconst 0, 1) := by decide +kernel
theorem dX8_runOf_47 : decode cX8_runOf 47 = .ok (.aload_n 0, 1) := by decide +kernel
theorem dX8_runOf_48 : decode cX8_runOf 48 = .ok (.bipush 9, 2) := by decide +kernel
theorem dX8_runOf_50 : decode cX8_runOf 50 = .ok (.invokevirtual 310, 3) := by decide +kernel
theorem dX8_runOf_53 : decode cX8_runOf 53 = .ok (.iconst 1, 1) := by decide +kernel
theorem dX8_runOf_54 : decode cX8_runOf 54 = .ok (.iadd, 1) := by decide +kernel
theorem dX8_runOf_55 : decode cX8_runOf 55 = .ok (.invokevirtual 164, 3) := by decide +kernel
theorem dX8_runOf_58 : decode cX8_runOf 58 = .ok (.iinc 5 1, 3) := by decide +kernel
theorem dX8_runOf_61 : decode cX8_runOf 61 = .ok (.goto (-47), 3) := by decide +kernel
theorem dX8_runOf_64 : decode cX8_runOf 64 = .ok (.aload_n 0, 1) := by decide +kernel
theorem dX8_runOf_65 : decode cX8_runOf 65 = .ok (.iload_n 2, 1) := by decide +kernel
theorem dX8_runOf_66 : decode cX8_runOf 66 = .ok (.iconst 1, 1) := by decide +kernel
theorem dX8_runOf_67 : decode cX8_runOf 67 = .ok (.isub, 1) := by decide +kernel
theorem dX8_runOf_68 : decode cX8_runOf 68 = .ok (.invokevirtual 218, 3) := by decide +kernel
theorem dX8_runOf_71 : decode cX8_runOf 71 = .ok (.iconst 0, 1) := by decide +kernel
theorem dX8_runOf_72 : decode cX8_runOf 72 = .ok (.istore 5, 2) := by decide +kernel
theorem dX8_runOf_74 : decode cX8_runOf 74 = .ok (.iload 4, 2) := by decide +kernel
theorem dX8_runOf_76 : decode cX8_runOf 76 = .ok (.istore 6, 2) := by decide +kernel
theorem dX8_runOf_78 : decode cX8_runOf 78 = .ok (.iload 6, 2) := by decide +kernel
theorem dX8_runOf_80 : decode cX8_runOf 80 = .ok (.aload_n 0, 1) := by decide +kernel
theorem dX8_runOf_81 : decode cX8_runOf 81 = .ok (.getfield 151, 3) := by decide +kernel
theorem dX8_runOf_84 : decode cX8_runOf 84 = .ok (.if_icmp .ge 21, 3) := by decide +kernel
theorem dX8_runOf_87 : decode cX8_runOf 87 = .ok (.iload 5, 2) := by decide +kernel
theorem dX8_runOf_89 : decode cX8_runOf 89 = .ok (.aload_n 0, 1) := by decide +kernel
theorem dX8_runOf_90 : decode cX8_runOf 90 = .ok (.getfield 58, 3) := by decide +kernel
theorem dX8_runOf_93 : decode cX8_runOf 93 = .ok (.iload 6, 2) := by decide +kernel
theorem dX8_runOf_95 : decode cX8_runOf 95 = .ok (.iaload, 1) := by decide +kernel
theorem dX8_runOf_96 : decode cX8_runOf 96 = .ok (.iadd, 1) := by decide +kernel
theorem dX8_runOf_97 : decode cX8_runOf 97 = .ok (.istore 5, 2) := by decide +kernel
theorem dX8_runOf_99 : decode cX8_runOf 99 = .ok (.iinc 6 1, 3) := by decide +kernel
theorem dX8_runOf_102 : decode cX8_runOf 102 = .ok (.goto (-24), 3) := by decide +kernel
theorem dX8_runOf_105 : decode cX8_runOf 105 = .ok (.aload_n 0, 1) := by decide +kernel
theorem dX8_runOf_106 : decode cX8_runOf 106 = .ok (.iload 4, 2) := by decide +kernel
theorem dX8_runOf_108 : decode cX8_runOf 108 = .ok (.putfield 151, 3) := by decide +kernel
theorem dX8_runOf_111 : decode cX8_runOf 111 = .ok (.iload_n 3, 1) := by decide +kernel
theorem dX8_runOf_112 : decode cX8_runOf 112 = .ok (.ifCond .ne 10, 3) := by decide +kernel
theorem dX8_runOf_115 : decode cX8_runOf 115 = .ok (.aload_n 0, 1) := by decide +kernel
theorem dX8_runOf_116 : decode cX8_runOf 116 = .ok (.invokevirtual 224, 3) := by decide +kernel
theorem dX8_runOf_119 : decode cX8_runOf 119 = .ok (.goto 5, 3) := by decide +kernel
theorem dX8_runOf_122 : decode cX8_runOf 122 = .ok (.iload 5, 2) := by decide +kernel
theorem dX8_runOf_124 : decode cX8_runOf 124 = .ok (.ireturn, 1) := by decide +kernel
theorem dX8_run_0 : decode cX8_run 0 = .ok (.aload_n 0, 1) := by decide +kernel
theorem dX8_run_1 : decode cX8_run 1 = .ok (.invokevirtual 142, 3) := by decide +kernel
theorem dX8_run_4 : decode cX8_run 4 = .ok (.iload_n 2, 1) := by decide +kernel
theorem dX8_run_5 : decode cX8_run 5 = .ok (.i2l, 1) := by decide +kernel
theorem dX8_run_6 : decode cX8_run 6 = .ok (.lconst 1, 1) := by decide +kernel
theorem dX8_run_7 : decode cX8_run 7 = .ok (.ldc2_w 313, 3) := by decide +kernel
theorem dX8_run_10 : decode cX8_run 10 = .ok (.invokestatic 94, 3) := by decide +kernel
theorem dX8_run_13 : decode cX8_run 13 = .ok (.ifCond .eq 20, 3) := by decide +kernel
theorem dX8_run_16 : decode cX8_run 16 = .ok (.iload_n 3, 1) := by decide +kernel
theorem dX8_run_17 : decode cX8_run 17 = .ok (.invokestatic 122, 3) := by decide +kernel
theorem dX8_run_20 : decode cX8_run 20 = .ok (.ifCond .eq 13, 3) := by decide +kernel
theorem dX8_run_23 : decode cX8_run 23 = .ok (.aload_n 0, 1) := by decide +kernel
theorem dX8_run_24 : decode cX8_run 24 = .ok (.iload_n 1, 1) := by decide +kernel
theorem dX8_run_25 : decode cX8_run 25 = .ok (.iload_n 2, 1) := by decide +kernel
theorem dX8_run_26 : decode cX8_run 26 = .ok (.iload_n 3, 1) := by decide +kernel
theorem dX8_run_27 : decode cX8_run 27 = .ok (.invokevirtual 315, 3) := by decide +kernel
theorem dX8_run_30 : decode cX8_run 30 = .ok (.goto 5, 3) := by decide +kernel
theorem dX8_run_33 : decode cX8_run 33 = .ok (.bipush (-2), 2) := by decide +kernel
theorem dX8_run_35 : decode cX8_run 35 = .ok (.ireturn, 1) := by decide +kernel
theorem dX8_write_0 : decode cX8_write 0 = .ok (.iload_n 1, 1) := by decide +kernel
theorem dX8_write_1 : decode cX8_write 1 = .ok (.invokestatic 154, 3) := by decide +kernel
theorem dX8_write_4 : decode cX8_write 4 = .ok (.ifCond .eq 10, 3) := by decide +kernel
theorem dX8_write_7 : decode cX8_write 7 = .ok (.iload_n 2, 1) := by decide +kernel
theorem dX8_write_8 : decode cX8_write 8 = .ok (.invokestatic 103, 3) := by decide +kernel
theorem dX8_write_11 : decode cX8_write 11 = .ok (.ifCond .ne 6, 3) := by decide +kernel
theorem dX8_write_14 : decode cX8_write 14 = .ok (.bipush (-2), 2) := by decide +kernel
theorem dX8_write_16 : decode cX8_write 16 = .ok (.ireturn, 1) := by decide +kernel
theorem dX8_write_17 : decode cX8_write 17 = .ok (.aload_n 0, 1) := by decide +kernel
theorem dX8_write_18 : decode cX8_write 18 = .ok (.getfield 7, 3) := by decide +kernel
theorem dX8_write_21 : decode cX8_write 21 = .ok (.iload_n 2, 1) := by decide +kernel
theorem dX8_write_22 : decode cX8_write 22 = .ok (.iaload, 1) := by decide +kernel
theorem dX8_write_23 : decode cX8_write 23 = .ok (.ifCond .ge 9, 3) := by decide +kernel
theorem dX8_write_26 : decode cX8_write 26 = .ok (.aload_n 0, 1) := by decide +kernel
theorem dX8_write_27 : decode cX8_write 27 = .ok (.iconst 1, 1) := by decide +kernel
theorem dX8_write_28 : decode cX8_write 28 = .ok (.invokevirtual 109, 3) := by decide +kernel
theorem dX8_write_31 : decode cX8_write 31 = .ok (.ireturn, 1) := by decide +kernel
theorem dX8_write_32 : decode cX8_write 32 = .ok (.aload_n 0, 1) := by decide +kernel
theorem dX8_write_33 : decode cX8_write 33 = .ok (.invokevirtual 142, 3) := by decide +kernel
theorem dX8_write_36 : decode cX8_write 36 = .ok (.aload_n 0, 1) := by decide +kernel
theorem dX8_write_37 : decode cX8_write 37 = .ok (.iload_n 1, 1) := by decide +kernel
theorem dX8_write_38 : decode cX8_write 38 = .ok (.invokevirtual 218, 3) := by decide +kernel
theorem dX8_write_41 : decode cX8_write 41 = .ok (.aload_n 0, 1) := by decide +kernel
theorem dX8_write_42 : decode cX8_write 42 = .ok (.getfield 13, 3) := by decide +kernel
theorem dX8_write_45 : decode cX8_write 45 = .ok (.iload_n 2, 1) := by decide +kernel
theorem dX8_write_46 : decode cX8_write 46 = .ok (.iaload, 1) := by decide +kernel
theorem dX8_write_47 : decode cX8_write 47 = .ok (.aload_n 0, 1) := by decide +kernel
theorem dX8_write_48 : decode cX8_write 48 = .ok (.getfield 28, 3) := by decide +kernel
theorem dX8_write_51 : decode cX8_write 51 = .ok (.iconst 0, 1) := by decide +kernel
theorem dX8_write_52 : decode cX8_write 52 = .ok (.iaload, 1) := by decide +kernel
theorem dX8_write_53 : decode cX8_write 53 = .ok (.invokestatic 189, 3) := by decide +kernel
theorem dX8_write_56 : decode cX8_write 56 = .ok (.istore_n 3, 1) := by decide +kernel
theorem dX8_write_57 : decode cX8_write 57 = .ok (.iconst 0, 1) := by decide +kernel
theorem dX8_write_58 : decode cX8_write 58 = .ok (.istore 4, 2) := by decide +kernel
theorem dX8_write_60 : decode cX8_write 60 = .ok (.iload 4, 2) := by decide +kernel
theorem dX8_write_62 : decode cX8_write 62 = .ok (.iload_n 3, 1) := by decide +kernel
theorem dX8_write_63 : decode cX8_write 63 = .ok (.if_icmp .ge 36, 3) := by decide +kernel
theorem dX8_write_66 : decode cX8_write 66 = .ok (.aload_n 0, 1) := by decide +kernel
theorem dX8_write_67 : decode cX8_write 67 = .ok (.getfield 16, 3) := by decide +kernel
theorem dX8_write_70 : decode cX8_write 70 = .ok (.bipush 60, 2) := by decide +kernel
theorem dX8_write_72 : decode cX8_write 72 = .ok (.iload_n 2, 1) := by decide +kernel
theorem dX8_write_73 : decode cX8_write 73 = .ok (.imul, 1) := by decide +kernel
theorem dX8_write_74 : decode cX8_write 74 = .ok (.iload 4, 2) := by decide +kernel
theorem dX8_write_76 : decode cX8_write 76 = .ok (.iadd, 1) := by decide +kernel
theorem dX8_write_77 : decode cX8_write 77 = .ok (.aload_n 0, 1) := by decide +kernel
theorem dX8_write_78 : decode cX8_write 78 = .ok (.getfield 7, 3) := by decide +kernel
theorem dX8_write_81 : decode cX8_write 81 = .ok (.iload_n 2, 1) := by decide +kernel
theorem dX8_write_82 : decode cX8_write 82 = .ok (.iaload, 1) := by decide +kernel
theorem dX8_write_83 : decode cX8_write 83 = .ok (.aload_n 0, 1) := by decide +kernel
theorem dX8_write_84 : decode cX8_write 84 = .ok (.iload 4, 2) := by decide +kernel
theorem dX8_write_86 : decode cX8_write 86 = .ok (.invokevirtual 279, 3) := by decide +kernel
theorem dX8_write_89 : decode cX8_write 89 = .ok (.invokestatic 117, 3) := by decide +kernel
theorem dX8_write_92 : decode cX8_write 92 = .ok (.iastore, 1) := by decide +kernel
theorem dX8_write_93 : decode cX8_write 93 = .ok (.iinc 4 1, 3) := by decide +kernel
theorem dX8_write_96 : decode cX8_write 96 = .ok (.goto (-36), 3) := by decide +kernel
theorem dX8_write_99 : decode cX8_write 99 = .ok (.iload_n 3, 1) := by decide +kernel
theorem dX8_write_100 : decode cX8_write 100 = .ok (.ireturn, 1) := by decide +kernel
theorem dX8_counting_0 : decode cX8_counting 0 = .ok (.aload_n 0, 1) := by decide +kernel
theorem dX8_counting_1 : decode cX8_counting 1 = .ok (.bipush 39, 2) := by decide +kernel
theorem dX8_counting_3 : decode cX8_counting 3 = .ok (.invokevirtual 218, 3) := by decide +kernel
theorem dX8_counting_6 : decode cX8_counting 6 = .ok (.iconst 0, 1) := by decide +kernel
theorem dX8_counting_7 : decode cX8_counting 7 = .ok (.istore_n 1, 1) := by decide +kernel
theorem dX8_counting_8 : decode cX8_counting 8 = .ok (.iconst 0, 1) := by decide +kernel
theorem dX8_counting_9 : decode cX8_counting 9 = .ok (.istore_n 2, 1) := by decide +kernel
theorem dX8_counting_10 : decode cX8_counting 10 = .ok (.iload_n 2, 1) := by decide +kernel
theorem dX8_counting_11 : decode cX8_counting 11 = .ok (.aload_n 0, 1) := by decide +kernel
theorem dX8_counting_12 : decode cX8_counting 12 = .ok (.getfield 151, 3) := by decide +kernel
theorem dX8_counting_15 : decode cX8_counting 15 = .ok (.if_icmp .ge 18, 3) := by decide +kernel
theorem dX8_counting_18 : decode cX8_counting 18 = .ok (.iload_n 1, 1) := by decide +kernel
theorem dX8_counting_19 : decode cX8_counting 19 = .ok (.aload_n 0, 1) := by decide +kernel
theorem dX8_counting_20 : decode cX8_counting 20 = .ok (.getfield 58, 3) := by decide +kernel
theorem dX8_counting_23 : decode cX8_counting 23 = .ok (.iload_n 2, 1) := by decide +kernel
theorem dX8_counting_24 : decode cX8_counting 24 = .ok (.iaload, 1) := by decide +kernel
theorem dX8_counting_25 : decode cX8_counting 25 = .ok (.iadd, 1) := by decide +kernel
theorem dX8_counting_26 : decode cX8_counting 26 = .ok (.istore_n 1, 1) := by decide +kernel
theorem dX8_counting_27 : decode cX8_counting 27 = .ok (.iinc 2 1, 3) := by decide +kernel
theorem dX8_counting_30 : decode cX8_counting 30 = .ok (.goto (-20), 3) := by decide +kernel
theorem dX8_counting_33 : decode cX8_counting 33 = .ok (.iload_n 1, 1) := by decide +kernel
theorem dX8_counting_34 : decode cX8_counting 34 = .ok (.ireturn, 1) := by decide +kernel
theorem dX8_count_0 : decode cX8_count 0 = .ok (.aload_n 0, 1) := by decide +kernel
theorem dX8_count_1 : decode cX8_count 1 = .ok (.invokevirtual 142, 3) := by decide +kernel
theorem dX8_count_4 : decode cX8_count 4 = .ok (.iload_n 1, 1) := by decide +kernel
theorem dX8_count_5 : decode cX8_count 5 = .ok (.tableswitch 97 0 8 #[51, 51, 58, 58, 67, 72, 77, 87, 92], 51) := by decide +kernel
theorem dX8_count_56 : decode cX8_count 56 = .ok (.aload_n 0, 1) := by decide +kernel
theorem dX8_count_57 : decode cX8_count 57 = .ok (.getfield 28, 3) := by decide +kernel
theorem dX8_count_60 : decode cX8_count 60 = .ok (.iload_n 1, 1) := by decide +kernel
theorem dX8_count_61 : decode cX8_count 61 = .ok (.iaload, 1) := by decide +kernel
theorem dX8_count_62 : decode cX8_count 62 = .ok (.ireturn, 1) := by decide +kernel
theorem dX8_count_63 : decode cX8_count 63 = .ok (.aload_n 0, 1) := by decide +kernel
theorem dX8_count_64 : decode cX8_count 64 = .ok (.getfield 25, 3) := by decide +kernel
theorem dX8_count_67 : decode cX8_count 67 = .ok (.iload_n 1, 1) := by decide +kernel
theorem dX8_count_68 : decode cX8_count 68 = .ok (.iconst 2, 1) := by decide +kernel
theorem dX8_count_69 : decode cX8_count 69 = .ok (.isub, 1) := by decide +kernel
theorem dX8_count_70 : decode cX8_count 70 = .ok (.iaload, 1) := by decide +kernel
theorem dX8_count_71 : decode cX8_count 71 = .ok (.ireturn, 1) := by decide +kernel
theorem dX8_count_72 : decode cX8_count 72 = .ok (.aload_n 0, 1) := by decide +kernel
theorem dX8_count_73 : decode cX8_count 73 = .ok (.getfield 151, 3) := by decide +kernel
theorem dX8_count_76 : decode cX8_count 76 = .ok (.ireturn, 1) := by decide +kernel
theorem dX8_count_77 : decode cX8_count 77 = .ok (.aload_n 0, 1) := by decide +kernel
theorem dX8_count_78 : decode cX8_count 78 = .ok (.invokevirtual 318, 3) := by decide +kernel
theorem dX8_count_81 : decode cX8_count 81 = .ok (.ireturn, 1) := by decide +kernel
theorem dX8_count_82 : decode cX8_count 82 = .ok (.aload_n 0, 1) := by decide +kernel
theorem dX8_count_83 : decode cX8_count 83 = .ok (.getfield 168, 3) := by decide +kernel
theorem dX8_count_86 : decode cX8_count 86 = .ok (.aload_n 0, 1) := by decide +kernel
theorem dX8_count_87 : decode cX8_count 87 = .ok (.getfield 171, 3) := by decide +kernel
theorem dX8_count_90 : decode cX8_count 90 = .ok (.iadd, 1) := by decide +kernel
theorem dX8_count_91 : decode cX8_count 91 = .ok (.ireturn, 1) := by decide +kernel
theorem dX8_count_92 : decode cX8_count 92 = .ok (.aload_n 0, 1) := by decide +kernel
theorem dX8_count_93 : decode cX8_count 93 = .ok (.getfield 276, 3) := by decide +kernel
theorem dX8_count_96 : decode cX8_count 96 = .ok (.ireturn, 1) := by decide +kernel
theorem dX8_count_97 : decode cX8_count 97 = .ok (.aload_n 0, 1) := by decide +kernel
theorem dX8_count_98 : decode cX8_count 98 = .ok (.getfield 98, 3) := by decide +kernel
theorem dX8_count_101 : decode cX8_count 101 = .ok (.ireturn, 1) := by decide +kernel
theorem dX8_count_102 : decode cX8_count 102 = .ok (.bipush (-2), 2) := by decide +kernel
theorem dX8_count_104 : decode cX8_count 104 = .ok (.ireturn, 1) := by decide +kernel
theorem dX8_tellsHole_0 : decode cX8_tellsHole 0 = .ok (.lload_n 1, 1) := by decide +kernel
theorem dX8_tellsHole_1 : decode cX8_tellsHole 1 = .ok (.lstore 4, 2) := by decide +kernel
theorem dX8_tellsHole_3 : decode cX8_tellsHole 3 = .ok (.iconst 0, 1) := by decide +kernel
theorem dX8_tellsHole_4 : decode cX8_tellsHole 4 = .ok (.istore 6, 2) := by decide +kernel
theorem dX8_tellsHole_6 : decode cX8_tellsHole 6 = .ok (.iload 6, 2) := by decide +kernel
theorem dX8_tellsHole_8 : decode cX8_tellsHole 8 = .ok (.iconst 4, 1) := by decide +kernel
theorem dX8_tellsHole_9 : decode cX8_tellsHole 9 = .ok (.if_icmp .ge 30, 3) := by decide +kernel
theorem dX8_tellsHole_12 : decode cX8_tellsHole 12 = .ok (.ldc2_w 321, 3) := by decide +kernel
theorem dX8_tellsHole_15 : decode cX8_tellsHole 15 = .ok (.lload 4, 2) := by decide +kernel
theorem dX8_tellsHole_17 : decode cX8_tellsHole 17 = .ok (.lmul, 1) := by decide +kernel
theorem dX8_tellsHole_18 : decode cX8_tellsHole 18 = .ok (.aload_n 0, 1) := by decide +kernel
theorem dX8_tellsHole_19 : decode cX8_tellsHole 19 = .ok (.getfield 31, 3) := by decide +kernel
theorem dX8_tellsHole_22 : decode cX8_tellsHole 22 = .ok (.iconst 4, 1) := by decide +kernel
theorem dX8_tellsHole_23 : decode cX8_tellsHole 23 = .ok (.iload_n 3, 1) := by decide +kernel
theorem dX8_tellsHole_24 : decode cX8_tellsHole 24 = .ok (.imul, 1) := by decide +kernel
theorem dX8_tellsHole_25 : decode cX8_tellsHole 25 = .ok (.iload 6, 2) := by decide +kernel
theorem dX8_tellsHole_27 : decode cX8_tellsHole 27 = .ok (.iadd, 1) := by decide +kernel
theorem dX8_tellsHole_28 : decode cX8_tellsHole 28 = .ok (.iaload, 1) := by decide +kernel
theorem dX8_tellsHole_29 : decode cX8_tellsHole 29 = .ok (.i2l, 1) := by decide +kernel
theorem dX8_tellsHole_30 : decode cX8_tellsHole 30 = .ok (.ladd, 1) := by decide +kernel
theorem dX8_tellsHole_31 : decode cX8_tellsHole 31 = .ok (.lstore 4, 2) := by decide +kernel
theorem dX8_tellsHole_33 : decode cX8_tellsHole 33 = .ok (.iinc 6 1, 3) := by decide +kernel
theorem dX8_tellsHole_36 : decode cX8_tellsHole 36 = .ok (.goto (-30), 3) := by decide +kernel
theorem dX8_tellsHole_39 : decode cX8_tellsHole 39 = .ok (.iconst 0, 1) := by decide +kernel
theorem dX8_tellsHole_40 : decode cX8_tellsHole 40 = .ok (.istore 6, 2) := by decide +kernel
theorem dX8_tellsHole_42 : decode cX8_tellsHole 42 = .ok (.iload 6, 2) := by decide +kernel
theorem dX8_tellsHole_44 : decode cX8_tellsHole 44 = .ok (.bipush 6, 2) := by decide +kernel
theorem dX8_tellsHole_46 : decode cX8_tellsHole 46 = .ok (.if_icmp .ge 40, 3) := by decide +kernel
theorem dX8_tellsHole_49 : decode cX8_tellsHole 49 = .ok (.ldc2_w 321, 3) := by decide +kernel
theorem dX8_tellsHole_52 : decode cX8_tellsHole 52 = .ok (.lload 4, 2) := by decide +kernel
theorem dX8_tellsHole_54 : decode cX8_tellsHole 54 = .ok (.lmul, 1) := by decide +kernel
theorem dX8_tellsHole_55 : decode cX8_tellsHole 55 = .ok (.aload_n 0, 1) := by decide +kernel
theorem dX8_tellsHole_56 : decode cX8_tellsHole 56 = .ok (.iload 6, 2) := by decide +kernel
theorem dX8_tellsHole_58 : decode cX8_tellsHole 58 = .ok (.iconst 3, 1) := by decide +kernel
theorem dX8_tellsHole_59 : decode cX8_tellsHole 59 = .ok (.if_icmp .ge 7, 3) := by decide +kernel
theorem dX8_tellsHole_62 : decode cX8_tellsHole 62 = .ok (.iconst 5, 1) := by decide +kernel
theorem dX8_tellsHole_63 : decode cX8_tellsHole 63 = .ok (.goto 5, 3) := by decide +kernel
theorem dX8_tellsHole_66 : decode cX8_tellsHole 66 = .ok (.bipush 39, 2) := by decide +kernel
theorem dX8_tellsHole_68 : decode cX8_tellsHole 68 = .ok (.iload_n 3, 1) := by decide +kernel
theorem dX8_tellsHole_69 : decode cX8_tellsHole 69 = .ok (.iload 6, 2) := by decide +kernel
theorem dX8_tellsHole_71 : decode cX8_tellsHole 71 = .ok (.iconst 3, 1) := by decide +kernel
theorem dX8_tellsHole_72 : decode cX8_tellsHole 72 = .ok (.irem, 1) := by decide +kernel
theorem dX8_tellsHole_73 : decode cX8_tellsHole 73 = .ok (.invokevirtual 221, 3) := by decide +kernel
theorem dX8_tellsHole_76 : decode cX8_tellsHole 76 = .ok (.i2l, 1) := by decide +kernel
theorem dX8_tellsHole_77 : decode cX8_tellsHole 77 = .ok (.ladd, 1) := by decide +kernel
theorem dX8_tellsHole_78 : decode cX8_tellsHole 78 = .ok (.lstore 4, 2) := by decide +kernel
theorem dX8_tellsHole_80 : decode cX8_tellsHole 80 = .ok (.iinc 6 1, 3) := by decide +kernel
theorem dX8_tellsHole_83 : decode cX8_tellsHole 83 = .ok (.goto (-41), 3) := by decide +kernel
theorem dX8_tellsHole_86 : decode cX8_tellsHole 86 = .ok (.ldc2_w 321, 3) := by decide +kernel
theorem dX8_tellsHole_89 : decode cX8_tellsHole 89 = .ok (.lload 4, 2) := by decide +kernel
theorem dX8_tellsHole_91 : decode cX8_tellsHole 91 = .ok (.lmul, 1) := by decide +kernel
theorem dX8_tellsHole_92 : decode cX8_tellsHole 92 = .ok (.aload_n 0, 1) := by decide +kernel
theorem dX8_tellsHole_93 : decode cX8_tellsHole 93 = .ok (.iconst 5, 1) := by decide +kernel
theorem dX8_tellsHole_94 : decode cX8_tellsHole 94 = .ok (.iload_n 3, 1) := by decide +kernel
theorem dX8_tellsHole_95 : decode cX8_tellsHole 95 = .ok (.invokevirtual 247, 3) := by decide +kernel
theorem dX8_tellsHole_98 : decode cX8_tellsHole 98 = .ok (.i2l, 1) := by decide +kernel
theorem dX8_tellsHole_99 : decode cX8_tellsHole 99 = .ok (.ladd, 1) := by decide +kernel
theorem dX8_tellsHole_100 : decode cX8_tellsHole 100 = .ok (.lreturn, 1) := by decide +kernel
theorem dX8_tellsWork_0 : decode cX8_tellsWork 0 = .ok (.lload_n 1, 1) := by decide +kernel
theorem dX8_tellsWork_1 : decode cX8_tellsWork 1 = .ok (.lstore 4, 2) := by decide +kernel
theorem dX8_tellsWork_3 : decode cX8_tellsWork 3 = .ok (.iconst 0, 1) := by decide +kernel
theorem dX8_tellsWork_4 : decode cX8_tellsWork 4 = .ok (.istore 6, 2) := by decide +kernel
theorem dX8_tellsWork_6 : decode cX8_tellsWork 6 = .ok (.iload 6, 2) := by decide +kernel
theorem dX8_tellsWork_8 : decode cX8_tellsWork 8 = .ok (.iconst 4, 1) := by decide +kernel
theorem dX8_tellsWork_9 : decode cX8_tellsWork 9 = .ok (.if_icmp .ge 33, 3) := by decide +kernel
theorem dX8_tellsWork_12 : decode cX8_tellsWork 12 = .ok (.ldc2_w 321, 3) := by decide +kernel
theorem dX8_tellsWork_15 : decode cX8_tellsWork 15 = .ok (.lload 4, 2) := by decide +kernel
theorem dX8_tellsWork_17 : decode cX8_tellsWork 17 = .ok (.lmul, 1) := by decide +kernel
theorem dX8_tellsWork_18 : decode cX8_tellsWork 18 = .ok (.aload_n 0, 1) := by decide +kernel
theorem dX8_tellsWork_19 : decode cX8_tellsWork 19 = .ok (.getfield 31, 3) := by decide +kernel
theorem dX8_tellsWork_22 : decode cX8_tellsWork 22 = .ok (.bipush 32, 2) := by decide +kernel
theorem dX8_tellsWork_24 : decode cX8_tellsWork 24 = .ok (.iconst 4, 1) := by decide +kernel
theorem dX8_tellsWork_25 : decode cX8_tellsWork 25 = .ok (.iload_n 3, 1) := by decide +kernel
theorem dX8_tellsWork_26 : decode cX8_tellsWork 26 = .ok (.imul, 1) := by decide +kernel
theorem dX8_tellsWork_27 : decode cX8_tellsWork 27 = .ok (.iadd, 1) := by decide +kernel
theorem dX8_tellsWork_28 : decode cX8_tellsWork 28 = .ok (.iload 6, 2) := by decide +kernel
theorem dX8_tellsWork_30 : decode cX8_tellsWork 30 = .ok (.iadd, 1) := by decide +kernel
theorem dX8_tellsWork_31 : decode cX8_tellsWork 31 = .ok (.iaload, 1) := by decide +kernel
theorem dX8_tellsWork_32 : decode cX8_tellsWork 32 = .ok (.i2l, 1) := by decide +kernel
theorem dX8_tellsWork_33 : decode cX8_tellsWork 33 = .ok (.ladd, 1) := by decide +kernel
theorem dX8_tellsWork_34 : decode cX8_tellsWork 34 = .ok (.lstore 4, 2) := by decide +kernel
theorem dX8_tellsWork_36 : decode cX8_tellsWork 36 = .ok (.iinc 6 1, 3) := by decide +kernel
theorem dX8_tellsWork_39 : decode cX8_tellsWork 39 = .ok (.goto (-33), 3) := by decide +kernel
theorem dX8_tellsWork_42 : decode cX8_tellsWork 42 = .ok (.ldc2_w 321, 3) := by decide +kernel
theorem dX8_tellsWork_45 : decode cX8_tellsWork 45 = .ok (.lload 4, 2) := by decide +kernel
theorem dX8_tellsWork_47 : decode cX8_tellsWork 47 = .ok (.lmul, 1) := by decide +kernel
theorem dX8_tellsWork_48 : decode cX8_tellsWork 48 = .ok (.aload_n 0, 1) := by decide +kernel
theorem dX8_tellsWork_49 : decode cX8_tellsWork 49 = .ok (.iload_n 3, 1) := by decide +kernel
theorem dX8_tellsWork_50 : decode cX8_tellsWork 50 = .ok (.iconst 3, 1) := by decide +kernel
theorem dX8_tellsWork_51 : decode cX8_tellsWork 51 = .ok (.iconst (-1), 1) := by decide +kernel
theorem dX8_tellsWork_52 : decode cX8_tellsWork 52 = .ok (.invokevirtual 270, 3) := by decide +kernel
theorem dX8_tellsWork_55 : decode cX8_tellsWork 55 = .ok (.i2l, 1) := by decide +kernel
theorem dX8_tellsWork_56 : decode cX8_tellsWork 56 = .ok (.ladd, 1) := by decide +kernel
theorem dX8_tellsWork_57 : decode cX8_tellsWork 57 = .ok (.lstore 4, 2) := by decide +kernel
theorem dX8_tellsWork_59 : decode cX8_tellsWork 59 = .ok (.ldc2_w 321, 3) := by decide +kernel
theorem dX8_tellsWork_62 : decode cX8_tellsWork 62 = .ok (.lload 4, 2) := by decide +kernel
theorem dX8_tellsWork_64 : decode cX8_tellsWork 64 = .ok (.lmul, 1) := by decide +kernel
theorem dX8_tellsWork_65 : decode cX8_tellsWork 65 = .ok (.aload_n 0, 1) := by decide +kernel
theorem dX8_tellsWork_66 : decode cX8_tellsWork 66 = .ok (.iload_n 3, 1) := by decide +kernel
theorem dX8_tellsWork_67 : decode cX8_tellsWork 67 = .ok (.iconst 3, 1) := by decide +kernel
theorem dX8_tellsWork_68 : decode cX8_tellsWork 68 = .ok (.iconst 0, 1) := by decide +kernel
theorem dX8_tellsWork_69 : decode cX8_tellsWork 69 = .ok (.invokevirtual 270, 3) := by decide +kernel
theorem dX8_tellsWork_72 : decode cX8_tellsWork 72 = .ok (.i2l, 1) := by decide +kernel
theorem dX8_tellsWork_73 : decode cX8_tellsWork 73 = .ok (.ladd, 1) := by decide +kernel
theorem dX8_tellsWork_74 : decode cX8_tellsWork 74 = .ok (.lstore 4, 2) := by decide +kernel
theorem dX8_tellsWork_76 : decode cX8_tellsWork 76 = .ok (.ldc2_w 321, 3) := by decide +kernel
theorem dX8_tellsWork_79 : decode cX8_tellsWork 79 = .ok (.lload 4, 2) := by decide +kernel
theorem dX8_tellsWork_81 : decode cX8_tellsWork 81 = .ok (.lmul, 1) := by decide +kernel
theorem dX8_tellsWork_82 : decode cX8_tellsWork 82 = .ok (.aload_n 0, 1) := by decide +kernel
theorem dX8_tellsWork_83 : decode cX8_tellsWork 83 = .ok (.iconst 5, 1) := by decide +kernel
theorem dX8_tellsWork_84 : decode cX8_tellsWork 84 = .ok (.bipush 9, 2) := by decide +kernel
theorem dX8_tellsWork_86 : decode cX8_tellsWork 86 = .ok (.iload_n 3, 1) := by decide +kernel
theorem dX8_tellsWork_87 : decode cX8_tellsWork 87 = .ok (.iconst 0, 1) := by decide +kernel
theorem dX8_tellsWork_88 : decode cX8_tellsWork 88 = .ok (.invokevirtual 298, 3) := by decide +kernel
theorem dX8_tellsWork_91 : decode cX8_tellsWork 91 = .ok (.ladd, 1) := by decide +kernel
theorem dX8_tellsWork_92 : decode cX8_tellsWork 92 = .ok (.lstore 4, 2) := by decide +kernel
theorem dX8_tellsWork_94 : decode cX8_tellsWork 94 = .ok (.ldc2_w 321, 3) := by decide +kernel
theorem dX8_tellsWork_97 : decode cX8_tellsWork 97 = .ok (.lload 4, 2) := by decide +kernel
theorem dX8_tellsWork_99 : decode cX8_tellsWork 99 = .ok (.lmul, 1) := by decide +kernel
theorem dX8_tellsWork_100 : decode cX8_tellsWork 100 = .ok (.aload_n 0, 1) := by decide +kernel
theorem dX8_tellsWork_101 : decode cX8_tellsWork 101 = .ok (.iconst 5, 1) := by decide +kernel
theorem dX8_tellsWork_102 : decode cX8_tellsWork 102 = .ok (.bipush 9, 2) := by decide +kernel
theorem dX8_tellsWork_104 : decode cX8_tellsWork 104 = .ok (.iload_n 3, 1) := by decide +kernel
theorem dX8_tellsWork_105 : decode cX8_tellsWork 105 = .ok (.iconst 1, 1) := by decide +kernel
theorem dX8_tellsWork_106 : decode cX8_tellsWork 106 = .ok (.invokevirtual 298, 3) := by decide +kernel
theorem dX8_tellsWork_109 : decode cX8_tellsWork 109 = .ok (.ladd, 1) := by decide +kernel
theorem dX8_tellsWork_110 : decode cX8_tellsWork 110 = .ok (.lreturn, 1) := by decide +kernel
theorem dX8_tellsDay_0 : decode cX8_tellsDay 0 = .ok (.ldc2_w 321, 3) := by decide +kernel
theorem dX8_tellsDay_3 : decode cX8_tellsDay 3 = .ok (.lload_n 1, 1) := by decide +kernel
theorem dX8_tellsDay_4 : decode cX8_tellsDay 4 = .ok (.lmul, 1) := by decide +kernel
theorem dX8_tellsDay_5 : decode cX8_tellsDay 5 = .ok (.aload_n 0, 1) := by decide +kernel
theorem dX8_tellsDay_6 : decode cX8_tellsDay 6 = .ok (.iload_n 3, 1) := by decide +kernel
theorem dX8_tellsDay_7 : decode cX8_tellsDay 7 = .ok (.iconst 0, 1) := by decide +kernel
theorem dX8_tellsDay_8 : decode cX8_tellsDay 8 = .ok (.invokevirtual 228, 3) := by decide +kernel
theorem dX8_tellsDay_11 : decode cX8_tellsDay 11 = .ok (.i2l, 1) := by decide +kernel
theorem dX8_tellsDay_12 : decode cX8_tellsDay 12 = .ok (.ladd, 1) := by decide +kernel
theorem dX8_tellsDay_13 : decode cX8_tellsDay 13 = .ok (.lstore 4, 2) := by decide +kernel
theorem dX8_tellsDay_15 : decode cX8_tellsDay 15 = .ok (.ldc2_w 321, 3) := by decide +kernel
theorem dX8_tellsDay_18 : decode cX8_tellsDay 18 = .ok (.lload 4, 2) := by decide +kernel
theorem dX8_tellsDay_20 : decode cX8_tellsDay 20 = .ok (.lmul, 1) := by decide +kernel
theorem dX8_tellsDay_21 : decode cX8_tellsDay 21 = .ok (.aload_n 0, 1) := by decide +kernel
theorem dX8_tellsDay_22 : decode cX8_tellsDay 22 = .ok (.iload_n 3, 1) := by decide +kernel
theorem dX8_tellsDay_23 : decode cX8_tellsDay 23 = .ok (.iconst 1, 1) := by decide +kernel
theorem dX8_tellsDay_24 : decode cX8_tellsDay 24 = .ok (.invokevirtual 228, 3) := by decide +kernel
theorem dX8_tellsDay_27 : decode cX8_tellsDay 27 = .ok (.i2l, 1) := by decide +kernel
theorem dX8_tellsDay_28 : decode cX8_tellsDay 28 = .ok (.ladd, 1) := by decide +kernel
theorem dX8_tellsDay_29 : decode cX8_tellsDay 29 = .ok (.lstore 4, 2) := by decide +kernel
theorem dX8_tellsDay_31 : decode cX8_tellsDay 31 = .ok (.ldc2_w 321, 3) := by decide +kernel
theorem dX8_tellsDay_34 : decode cX8_tellsDay 34 = .ok (.lload 4, 2) := by decide +kernel
theorem dX8_tellsDay_36 : decode cX8_tellsDay 36 = .ok (.lmul, 1) := by decide +kernel
theorem dX8_tellsDay_37 : decode cX8_tellsDay 37 = .ok (.aload_n 0, 1) := by decide +kernel
theorem dX8_tellsDay_38 : decode cX8_tellsDay 38 = .ok (.iload_n 3, 1) := by decide +kernel
theorem dX8_tellsDay_39 : decode cX8_tellsDay 39 = .ok (.iconst (-1), 1) := by decide +kernel
theorem dX8_tellsDay_40 : decode cX8_tellsDay 40 = .ok (.invokevirtual 261, 3) := by decide +kernel
theorem dX8_tellsDay_43 : decode cX8_tellsDay 43 = .ok (.i2l, 1) := by decide +kernel
theorem dX8_tellsDay_44 : decode cX8_tellsDay 44 = .ok (.ladd, 1) := by decide +kernel
theorem dX8_tellsDay_45 : decode cX8_tellsDay 45 = .ok (.lstore 4, 2) := by decide +kernel
theorem dX8_tellsDay_47 : decode cX8_tellsDay 47 = .ok (.ldc2_w 321, 3) := by decide +kernel
theorem dX8_tellsDay_50 : decode cX8_tellsDay 50 = .ok (.lload 4, 2) := by decide +kernel
theorem dX8_tellsDay_52 : decode cX8_tellsDay 52 = .ok (.lmul, 1) := by decide +kernel
theorem dX8_tellsDay_53 : decode cX8_tellsDay 53 = .ok (.aload_n 0, 1) := by decide +kernel
theorem dX8_tellsDay_54 : decode cX8_tellsDay 54 = .ok (.iload_n 3, 1) := by decide +kernel
theorem dX8_tellsDay_55 : decode cX8_tellsDay 55 = .ok (.iconst 0, 1) := by decide +kernel
theorem dX8_tellsDay_56 : decode cX8_tellsDay 56 = .ok (.invokevirtual 261, 3) := by decide +kernel
theorem dX8_tellsDay_59 : decode cX8_tellsDay 59 = .ok (.i2l, 1) := by decide +kernel
theorem dX8_tellsDay_60 : decode cX8_tellsDay 60 = .ok (.ladd, 1) := by decide +kernel
theorem dX8_tellsDay_61 : decode cX8_tellsDay 61 = .ok (.lstore 4, 2) := by decide +kernel
theorem dX8_tellsDay_63 : decode cX8_tellsDay 63 = .ok (.ldc2_w 321, 3) := by decide +kernel
theorem dX8_tellsDay_66 : decode cX8_tellsDay 66 = .ok (.lload 4, 2) := by decide +kernel
theorem dX8_tellsDay_68 : decode cX8_tellsDay 68 = .ok (.lmul, 1) := by decide +kernel
theorem dX8_tellsDay_69 : decode cX8_tellsDay 69 = .ok (.aload_n 0, 1) := by decide +kernel
theorem dX8_tellsDay_70 : decode cX8_tellsDay 70 = .ok (.iload_n 3, 1) := by decide +kernel
theorem dX8_tellsDay_71 : decode cX8_tellsDay 71 = .ok (.iconst 0, 1) := by decide +kernel
theorem dX8_tellsDay_72 : decode cX8_tellsDay 72 = .ok (.invokevirtual 273, 3) := by decide +kernel
theorem dX8_tellsDay_75 : decode cX8_tellsDay 75 = .ok (.i2l, 1) := by decide +kernel
theorem dX8_tellsDay_76 : decode cX8_tellsDay 76 = .ok (.ladd, 1) := by decide +kernel
theorem dX8_tellsDay_77 : decode cX8_tellsDay 77 = .ok (.lstore 4, 2) := by decide +kernel
theorem dX8_tellsDay_79 : decode cX8_tellsDay 79 = .ok (.ldc2_w 321, 3) := by decide +kernel
theorem dX8_tellsDay_82 : decode cX8_tellsDay 82 = .ok (.lload 4, 2) := by decide +kernel
theorem dX8_tellsDay_84 : decode cX8_tellsDay 84 = .ok (.lmul, 1) := by decide +kernel
theorem dX8_tellsDay_85 : decode cX8_tellsDay 85 = .ok (.aload_n 0, 1) := by decide +kernel
theorem dX8_tellsDay_86 : decode cX8_tellsDay 86 = .ok (.iload_n 3, 1) := by decide +kernel
theorem dX8_tellsDay_87 : decode cX8_tellsDay 87 = .ok (.iconst 1, 1) := by decide +kernel
theorem dX8_tellsDay_88 : decode cX8_tellsDay 88 = .ok (.invokevirtual 273, 3) := by decide +kernel
theorem dX8_tellsDay_91 : decode cX8_tellsDay 91 = .ok (.i2l, 1) := by decide +kernel
theorem dX8_tellsDay_92 : decode cX8_tellsDay 92 = .ok (.ladd, 1) := by decide +kernel
theorem dX8_tellsDay_93 : decode cX8_tellsDay 93 = .ok (.lstore 4, 2) := by decide +kernel
theorem dX8_tellsDay_95 : decode cX8_tellsDay 95 = .ok (.ldc2_w 321, 3) := by decide +kernel
theorem dX8_tellsDay_98 : decode cX8_tellsDay 98 = .ok (.lload 4, 2) := by decide +kernel
theorem dX8_tellsDay_100 : decode cX8_tellsDay 100 = .ok (.lmul, 1) := by decide +kernel
theorem dX8_tellsDay_101 : decode cX8_tellsDay 101 = .ok (.aload_n 0, 1) := by decide +kernel
theorem dX8_tellsDay_102 : decode cX8_tellsDay 102 = .ok (.iload_n 3, 1) := by decide +kernel
theorem dX8_tellsDay_103 : decode cX8_tellsDay 103 = .ok (.invokevirtual 289, 3) := by decide +kernel
theorem dX8_tellsDay_106 : decode cX8_tellsDay 106 = .ok (.i2l, 1) := by decide +kernel
theorem dX8_tellsDay_107 : decode cX8_tellsDay 107 = .ok (.ladd, 1) := by decide +kernel
theorem dX8_tellsDay_108 : decode cX8_tellsDay 108 = .ok (.lreturn, 1) := by decide +kernel
theorem dX8_digest_0 : decode cX8_digest 0 = .ok (.ldc2_w 323, 3) := by decide +kernel
theorem dX8_digest_3 : decode cX8_digest 3 = .ok (.lstore_n 1, 1) := by decide +kernel
theorem dX8_digest_4 : decode cX8_digest 4 = .ok (.iconst 0, 1) := by decide +kernel
theorem dX8_digest_5 : decode cX8_digest 5 = .ok (.istore_n 3, 1) := by decide +kernel
theorem dX8_digest_6 : decode cX8_digest 6 = .ok (.iload_n 3, 1) := by decide +kernel
theorem dX8_digest_7 : decode cX8_digest 7 = .ok (.bipush 8, 2) := by decide +kernel
theorem dX8_digest_9 : decode cX8_digest 9 = .ok (.if_icmp .ge 22, 3) := by decide +kernel
theorem dX8_digest_12 : decode cX8_digest 12 = .ok (.ldc2_w 321, 3) := by decide +kernel
theorem dX8_digest_15 : decode cX8_digest 15 = .ok (.lload_n 1, 1) := by decide +kernel
theorem dX8_digest_16 : decode cX8_digest 16 = .ok (.lmul, 1) := by decide +kernel
theorem dX8_digest_17 : decode cX8_digest 17 = .ok (.aload_n 0, 1) := by decide +kernel
theorem dX8_digest_18 : decode cX8_digest 18 = .ok (.iload_n 3, 1) := by decide +kernel
theorem dX8_digest_19 : decode cX8_digest 19 = .ok (.invokevirtual 325, 3) := by decide +kernel
theorem dX8_digest_22 : decode cX8_digest 22 = .ok (.i2l, 1) := by decide +kernel
theorem dX8_digest_23 : decode cX8_digest 23 = .ok (.ladd, 1) := by decide +kernel
theorem dX8_digest_24 : decode cX8_digest 24 = .ok (.lstore_n 1, 1) := by decide +kernel
theorem dX8_digest_25 : decode cX8_digest 25 = .ok (.iinc 3 1, 3) := by decide +kernel
theorem dX8_digest_28 : decode cX8_digest 28 = .ok (.goto (-22), 3) := by decide +kernel
theorem dX8_digest_31 : decode cX8_digest 31 = .ok (.ldc2_w 321, 3) := by decide +kernel
theorem dX8_digest_34 : decode cX8_digest 34 = .ok (.lload_n 1, 1) := by decide +kernel
theorem dX8_digest_35 : decode cX8_digest 35 = .ok (.lmul, 1) := by decide +kernel
theorem dX8_digest_36 : decode cX8_digest 36 = .ok (.aload_n 0, 1) := by decide +kernel
theorem dX8_digest_37 : decode cX8_digest 37 = .ok (.iconst 0, 1) := by decide +kernel
theorem dX8_digest_38 : decode cX8_digest 38 = .ok (.invokevirtual 135, 3) := by decide +kernel
theorem dX8_digest_41 : decode cX8_digest 41 = .ok (.i2l, 1) := by decide +kernel
theorem dX8_digest_42 : decode cX8_digest 42 = .ok (.ladd, 1) := by decide +kernel
theorem dX8_digest_43 : decode cX8_digest 43 = .ok (.lstore_n 1, 1) := by decide +kernel
theorem dX8_digest_44 : decode cX8_digest 44 = .ok (.ldc2_w 321, 3) := by decide +kernel
theorem dX8_digest_47 : decode cX8_digest 47 = .ok (.lload_n 1, 1) := by decide +kernel
theorem dX8_digest_48 : decode cX8_digest 48 = .ok (.lmul, 1) := by decide +kernel
theorem dX8_digest_49 : decode cX8_digest 49 = .ok (.aload_n 0, 1) := by decide +kernel
theorem dX8_digest_50 : decode cX8_digest 50 = .ok (.iconst 1, 1) := by decide +kernel
theorem dX8_digest_51 : decode cX8_digest 51 = .ok (.invokevirtual 135, 3) := by decide +kernel
theorem dX8_digest_54 : decode cX8_digest 54 = .ok (.i2l, 1) := by decide +kernel
theorem dX8_digest_55 : decode cX8_digest 55 = .ok (.ladd, 1) := by decide +kernel
theorem dX8_digest_56 : decode cX8_digest 56 = .ok (.lstore_n 1, 1) := by decide +kernel
theorem dX8_digest_57 : decode cX8_digest 57 = .ok (.iconst 0, 1) := by decide +kernel
theorem dX8_digest_58 : decode cX8_digest 58 = .ok (.istore_n 3, 1) := by decide +kernel
theorem dX8_digest_59 : decode cX8_digest 59 = .ok (.iload_n 3, 1) := by decide +kernel
theorem dX8_digest_60 : decode cX8_digest 60 = .ok (.aload_n 0, 1) := by decide +kernel
theorem dX8_digest_61 : decode cX8_digest 61 = .ok (.getfield 28, 3) := by decide +kernel
theorem dX8_digest_64 : decode cX8_digest 64 = .ok (.iconst 0, 1) := by decide +kernel
theorem dX8_digest_65 : decode cX8_digest 65 = .ok (.iaload, 1) := by decide +kernel
theorem dX8_digest_66 : decode cX8_digest 66 = .ok (.if_icmp .ge 16, 3) := by decide +kernel
theorem dX8_digest_69 : decode cX8_digest 69 = .ok (.aload_n 0, 1) := by decide +kernel
theorem dX8_digest_70 : decode cX8_digest 70 = .ok (.lload_n 1, 1) := by decide +kernel
theorem dX8_digest_71 : decode cX8_digest 71 = .ok (.iload_n 3, 1) := by decide +kernel
theorem dX8_digest_72 : decode cX8_digest 72 = .ok (.invokevirtual 328, 3) := by decide +kernel
theorem dX8_digest_75 : decode cX8_digest 75 = .ok (.lstore_n 1, 1) := by decide +kernel
theorem dX8_digest_76 : decode cX8_digest 76 = .ok (.iinc 3 1, 3) := by decide +kernel
theorem dX8_digest_79 : decode cX8_digest 79 = .ok (.goto (-20), 3) := by decide +kernel
theorem dX8_digest_82 : decode cX8_digest 82 = .ok (.iconst 0, 1) := by decide +kernel
theorem dX8_digest_83 : decode cX8_digest 83 = .ok (.istore_n 3, 1) := by decide +kernel
theorem dX8_digest_84 : decode cX8_digest 84 = .ok (.iload_n 3, 1) := by decide +kernel
theorem dX8_digest_85 : decode cX8_digest 85 = .ok (.aload_n 0, 1) := by decide +kernel
theorem dX8_digest_86 : decode cX8_digest 86 = .ok (.getfield 28, 3) := by decide +kernel
theorem dX8_digest_89 : decode cX8_digest 89 = .ok (.iconst 1, 1) := by decide +kernel
theorem dX8_digest_90 : decode cX8_digest 90 = .ok (.iaload, 1) := by decide +kernel
theorem dX8_digest_91 : decode cX8_digest 91 = .ok (.if_icmp .ge 16, 3) := by decide +kernel
theorem dX8_digest_94 : decode cX8_digest 94 = .ok (.aload_n 0, 1) := by decide +kernel
theorem dX8_digest_95 : decode cX8_digest 95 = .ok (.lload_n 1, 1) := by decide +kernel
theorem dX8_digest_96 : decode cX8_digest 96 = .ok (.iload_n 3, 1) := by decide +kernel
theorem dX8_digest_97 : decode cX8_digest 97 = .ok (.invokevirtual 332, 3) := by decide +kernel
theorem dX8_digest_100 : decode cX8_digest 100 = .ok (.lstore_n 1, 1) := by decide +kernel
theorem dX8_digest_101 : decode cX8_digest 101 = .ok (.iinc 3 1, 3) := by decide +kernel
theorem dX8_digest_104 : decode cX8_digest 104 = .ok (.goto (-20), 3) := by decide +kernel
theorem dX8_digest_107 : decode cX8_digest 107 = .ok (.iconst 0, 1) := by decide +kernel
theorem dX8_digest_108 : decode cX8_digest 108 = .ok (.istore_n 3, 1) := by decide +kernel
theorem dX8_digest_109 : decode cX8_digest 109 = .ok (.iload_n 3, 1) := by decide +kernel
theorem dX8_digest_110 : decode cX8_digest 110 = .ok (.aload_n 0, 1) := by decide +kernel
theorem dX8_digest_111 : decode cX8_digest 111 = .ok (.getfield 151, 3) := by decide +kernel
theorem dX8_digest_114 : decode cX8_digest 114 = .ok (.if_icmp .ge 39, 3) := by decide +kernel
theorem dX8_digest_117 : decode cX8_digest 117 = .ok (.iconst 0, 1) := by decide +kernel
theorem dX8_digest_118 : decode cX8_digest 118 = .ok (.istore 4, 2) := by decide +kernel
theorem dX8_digest_120 : decode cX8_digest 120 = .ok (.iload 4, 2) := by decide +kernel
theorem dX8_digest_122 : decode cX8_digest 122 = .ok (.iconst 3, 1) := by decide +kernel
theorem dX8_digest_123 : decode cX8_digest 123 = .ok (.if_icmp .ge 24, 3) := by decide +kernel
theorem dX8_digest_126 : decode cX8_digest 126 = .ok (.ldc2_w 321, 3) := by decide +kernel
theorem dX8_digest_129 : decode cX8_digest 129 = .ok (.lload_n 1, 1) := by decide +kernel
theorem dX8_digest_130 : decode cX8_digest 130 = .ok (.lmul, 1) := by decide +kernel
theorem dX8_digest_131 : decode cX8_digest 131 = .ok (.aload_n 0, 1) := by decide +kernel
theorem dX8_digest_132 : decode cX8_digest 132 = .ok (.iload_n 3, 1) := by decide +kernel
theorem dX8_digest_133 : decode cX8_digest 133 = .ok (.iload 4, 2) := by decide +kernel
theorem dX8_digest_135 : decode cX8_digest 135 = .ok (.invokevirtual 231, 3) := by decide +kernel
theorem dX8_digest_138 : decode cX8_digest 138 = .ok (.i2l, 1) := by decide +kernel
theorem dX8_digest_139 : decode cX8_digest 139 = .ok (.ladd, 1) := by decide +kernel
theorem dX8_digest_140 : decode cX8_digest 140 = .ok (.lstore_n 1, 1) := by decide +kernel
theorem dX8_digest_141 : decode cX8_digest 141 = .ok (.iinc 4 1, 3) := by decide +kernel
theorem dX8_digest_144 : decode cX8_digest 144 = .ok (.goto (-24), 3) := by decide +kernel
theorem dX8_digest_147 : decode cX8_digest 147 = .ok (.iinc 3 1, 3) := by decide +kernel
theorem dX8_digest_150 : decode cX8_digest 150 = .ok (.goto (-41), 3) := by decide +kernel
theorem dX8_digest_153 : decode cX8_digest 153 = .ok (.aload_n 0, 1) := by decide +kernel
theorem dX8_digest_154 : decode cX8_digest 154 = .ok (.aload_n 0, 1) := by decide +kernel
theorem dX8_digest_155 : decode cX8_digest 155 = .ok (.aload_n 0, 1) := by decide +kernel
theorem dX8_digest_156 : decode cX8_digest 156 = .ok (.lload_n 1, 1) := by decide +kernel
theorem dX8_digest_157 : decode cX8_digest 157 = .ok (.iconst 0, 1) := by decide +kernel
theorem dX8_digest_158 : decode cX8_digest 158 = .ok (.invokevirtual 335, 3) := by decide +kernel
theorem dX8_digest_161 : decode cX8_digest 161 = .ok (.iconst 5, 1) := by decide +kernel
theorem dX8_digest_162 : decode cX8_digest 162 = .ok (.invokevirtual 335, 3) := by decide +kernel
theorem dX8_digest_165 : decode cX8_digest 165 = .ok (.bipush 39, 2) := by decide +kernel
theorem dX8_digest_167 : decode cX8_digest 167 = .ok (.invokevirtual 335, 3) := by decide +kernel
theorem dX8_digest_170 : decode cX8_digest 170 = .ok (.lstore_n 1, 1) := by decide +kernel
theorem dX8_digest_171 : decode cX8_digest 171 = .ok (.iconst 0, 1) := by decide +kernel
theorem dX8_digest_172 : decode cX8_digest 172 = .ok (.istore_n 3, 1) := by decide +kernel
theorem dX8_digest_173 : decode cX8_digest 173 = .ok (.iload_n 3, 1) := by decide +kernel
theorem dX8_digest_174 : decode cX8_digest 174 = .ok (.bipush 6, 2) := by decide +kernel
theorem dX8_digest_176 : decode cX8_digest 176 = .ok (.if_icmp .ge 22, 3) := by decide +kernel
theorem dX8_digest_179 : decode cX8_digest 179 = .ok (.ldc2_w 321, 3) := by decide +kernel
theorem dX8_digest_182 : decode cX8_digest 182 = .ok (.lload_n 1, 1) := by decide +kernel
theorem dX8_digest_183 : decode cX8_digest 183 = .ok (.lmul, 1) := by decide +kernel
theorem dX8_digest_184 : decode cX8_digest 184 = .ok (.aload_n 0, 1) := by decide +kernel
theorem dX8_digest_185 : decode cX8_digest 185 = .ok (.iload_n 3, 1) := by decide +kernel
theorem dX8_digest_186 : decode cX8_digest 186 = .ok (.invokevirtual 234, 3) := by decide +kernel
theorem dX8_digest_189 : decode cX8_digest 189 = .ok (.i2l, 1) := by decide +kernel
theorem dX8_digest_190 : decode cX8_digest 190 = .ok (.ladd, 1) := by decide +kernel
theorem dX8_digest_191 : decode cX8_digest 191 = .ok (.lstore_n 1, 1) := by decide +kernel
theorem dX8_digest_192 : decode cX8_digest 192 = .ok (.iinc 3 1, 3) := by decide +kernel
theorem dX8_digest_195 : decode cX8_digest 195 = .ok (.goto (-22), 3) := by decide +kernel
theorem dX8_digest_198 : decode cX8_digest 198 = .ok (.ldc2_w 321, 3) := by decide +kernel
theorem dX8_digest_201 : decode cX8_digest 201 = .ok (.lload_n 1, 1) := by decide +kernel
theorem dX8_digest_202 : decode cX8_digest 202 = .ok (.lmul, 1) := by decide +kernel
theorem dX8_digest_203 : decode cX8_digest 203 = .ok (.aload_n 0, 1) := by decide +kernel
theorem dX8_digest_204 : decode cX8_digest 204 = .ok (.invokevirtual 237, 3) := by decide +kernel
theorem dX8_digest_207 : decode cX8_digest 207 = .ok (.i2l, 1) := by decide +kernel
theorem dX8_digest_208 : decode cX8_digest 208 = .ok (.ladd, 1) := by decide +kernel
theorem dX8_digest_209 : decode cX8_digest 209 = .ok (.lstore_n 1, 1) := by decide +kernel
theorem dX8_digest_210 : decode cX8_digest 210 = .ok (.ldc2_w 321, 3) := by decide +kernel
theorem dX8_digest_213 : decode cX8_digest 213 = .ok (.lload_n 1, 1) := by decide +kernel
theorem dX8_digest_214 : decode cX8_digest 214 = .ok (.lmul, 1) := by decide +kernel
theorem dX8_digest_215 : decode cX8_digest 215 = .ok (.aload_n 0, 1) := by decide +kernel
theorem dX8_digest_216 : decode cX8_digest 216 = .ok (.iconst 0, 1) := by decide +kernel
theorem dX8_digest_217 : decode cX8_digest 217 = .ok (.invokevirtual 286, 3) := by decide +kernel
theorem dX8_digest_220 : decode cX8_digest 220 = .ok (.i2l, 1) := by decide +kernel
theorem dX8_digest_221 : decode cX8_digest 221 = .ok (.ladd, 1) := by decide +kernel
theorem dX8_digest_222 : decode cX8_digest 222 = .ok (.lstore_n 1, 1) := by decide +kernel
theorem dX8_digest_223 : decode cX8_digest 223 = .ok (.ldc2_w 321, 3) := by decide +kernel
theorem dX8_digest_226 : decode cX8_digest 226 = .ok (.lload_n 1, 1) := by decide +kernel
theorem dX8_digest_227 : decode cX8_digest 227 = .ok (.lmul, 1) := by decide +kernel
theorem dX8_digest_228 : decode cX8_digest 228 = .ok (.aload_n 0, 1) := by decide +kernel
theorem dX8_digest_229 : decode cX8_digest 229 = .ok (.iconst 1, 1) := by decide +kernel
theorem dX8_digest_230 : decode cX8_digest 230 = .ok (.invokevirtual 286, 3) := by decide +kernel
theorem dX8_digest_233 : decode cX8_digest 233 = .ok (.i2l, 1) := by decide +kernel
theorem dX8_digest_234 : decode cX8_digest 234 = .ok (.ladd, 1) := by decide +kernel
theorem dX8_digest_235 : decode cX8_digest 235 = .ok (.lstore_n 1, 1) := by decide +kernel
theorem dX8_digest_236 : decode cX8_digest 236 = .ok (.ldc2_w 321, 3) := by decide +kernel
theorem dX8_digest_239 : decode cX8_digest 239 = .ok (.lload_n 1, 1) := by decide +kernel
theorem dX8_digest_240 : decode cX8_digest 240 = .ok (.lmul, 1) := by decide +kernel
theorem dX8_digest_241 : decode cX8_digest 241 = .ok (.aload_n 0, 1) := by decide +kernel
theorem dX8_digest_242 : decode cX8_digest 242 = .ok (.bipush 7, 2) := by decide +kernel
theorem dX8_digest_244 : decode cX8_digest 244 = .ok (.bipush 20, 2) := by decide +kernel
theorem dX8_digest_246 : decode cX8_digest 246 = .ok (.iconst 0, 1) := by decide +kernel
theorem dX8_digest_247 : decode cX8_digest 247 = .ok (.invokevirtual 315, 3) := by decide +kernel
theorem dX8_digest_250 : decode cX8_digest 250 = .ok (.i2l, 1) := by decide +kernel
theorem dX8_digest_251 : decode cX8_digest 251 = .ok (.ladd, 1) := by decide +kernel
theorem dX8_digest_252 : decode cX8_digest 252 = .ok (.lstore_n 1, 1) := by decide +kernel
theorem dX8_digest_253 : decode cX8_digest 253 = .ok (.ldc2_w 321, 3) := by decide +kernel
theorem dX8_digest_256 : decode cX8_digest 256 = .ok (.lload_n 1, 1) := by decide +kernel
theorem dX8_digest_257 : decode cX8_digest 257 = .ok (.lmul, 1) := by decide +kernel
theorem dX8_digest_258 : decode cX8_digest 258 = .ok (.aload_n 0, 1) := by decide +kernel
theorem dX8_digest_259 : decode cX8_digest 259 = .ok (.bipush 7, 2) := by decide +kernel
theorem dX8_digest_261 : decode cX8_digest 261 = .ok (.bipush 20, 2) := by decide +kernel
theorem dX8_digest_263 : decode cX8_digest 263 = .ok (.iconst 1, 1) := by decide +kernel
theorem dX8_digest_264 : decode cX8_digest 264 = .ok (.invokevirtual 315, 3) := by decide +kernel
theorem dX8_digest_267 : decode cX8_digest 267 = .ok (.i2l, 1) := by decide +kernel
theorem dX8_digest_268 : decode cX8_digest 268 = .ok (.ladd, 1) := by decide +kernel
theorem dX8_digest_269 : decode cX8_digest 269 = .ok (.lreturn, 1) := by decide +kernel
theorem dJ7_fill_53178_0 : decode cJ7_fill_53178 0 = .ok (.iconst 0, 1) := by decide +kernel
theorem dJ7_fill_53178_1 : decode cJ7_fill_53178 1 = .ok (.istore_n 2, 1) := by decide +kernel
theorem dJ7_fill_53178_2 : decode cJ7_fill_53178 2 = .ok (.aload_n 0, 1) := by decide +kernel
theorem dJ7_fill_53178_3 : decode cJ7_fill_53178 3 = .ok (.arraylength, 1) := by decide +kernel
theorem dJ7_fill_53178_4 : decode cJ7_fill_53178 4 = .ok (.istore_n 3, 1) := by decide +kernel
theorem dJ7_fill_53178_5 : decode cJ7_fill_53178 5 = .ok (.iload_n 2, 1) := by decide +kernel
theorem dJ7_fill_53178_6 : decode cJ7_fill_53178 6 = .ok (.iload_n 3, 1) := by decide +kernel
theorem dJ7_fill_53178_7 : decode cJ7_fill_53178 7 = .ok (.if_icmp .ge 13, 3) := by decide +kernel
theorem dJ7_fill_53178_10 : decode cJ7_fill_53178 10 = .ok (.aload_n 0, 1) := by decide +kernel
theorem dJ7_fill_53178_11 : decode cJ7_fill_53178 11 = .ok (.iload_n 2, 1) := by decide +kernel
theorem dJ7_fill_53178_12 : decode cJ7_fill_53178 12 = .ok (.iload_n 1, 1) := by decide +kernel
theorem dJ7_fill_53178_13 : decode cJ7_fill_53178 13 = .ok (.iastore, 1) := by decide +kernel
theorem dJ7_fill_53178_14 : decode cJ7_fill_53178 14 = .ok (.iinc 2 1, 3) := by decide +kernel
theorem dJ7_fill_53178_17 : decode cJ7_fill_53178 17 = .ok (.goto (-12), 3) := by decide +kernel
theorem dJ7_fill_53178_20 : decode cJ7_fill_53178 20 = .ok (.return_, 1) := by decide +kernel
theorem dJ0_length_8abf5_0 : decode cJ0_length_8abf5 0 = .ok (.aload_n 0, 1) := by decide +kernel
theorem dJ0_length_8abf5_1 : decode cJ0_length_8abf5 1 = .ok (.getfield 9, 3) := by decide +kernel
theorem dJ0_length_8abf5_4 : decode cJ0_length_8abf5 4 = .ok (.arraylength, 1) := by decide +kernel
theorem dJ0_length_8abf5_5 : decode cJ0_length_8abf5 5 = .ok (.aload_n 0, 1) := by decide +kernel
theorem dJ0_length_8abf5_6 : decode cJ0_length_8abf5 6 = .ok (.invokevirtual 335, 3) := by decide +kernel
theorem dJ0_length_8abf5_9 : decode cJ0_length_8abf5 9 = .ok (.ishr, 1) := by decide +kernel
theorem dJ0_length_8abf5_10 : decode cJ0_length_8abf5 10 = .ok (.ireturn, 1) := by decide +kernel
theorem dJ0_indexOf_0f7a4_0 : decode cJ0_indexOf_0f7a4 0 = .ok (.aload_n 0, 1) := by decide +kernel
theorem dJ0_indexOf_0f7a4_1 : decode cJ0_indexOf_0f7a4 1 = .ok (.iload_n 1, 1) := by decide +kernel
theorem dJ0_indexOf_0f7a4_2 : decode cJ0_indexOf_0f7a4 2 = .ok (.iconst 0, 1) := by decide +kernel
theorem dJ0_indexOf_0f7a4_3 : decode cJ0_indexOf_0f7a4 3 = .ok (.invokevirtual 633, 3) := by decide +kernel
theorem dJ0_indexOf_0f7a4_6 : decode cJ0_indexOf_0f7a4 6 = .ok (.ireturn, 1) := by decide +kernel
theorem dJ0_indexOf_7cf53_0 : decode cJ0_indexOf_7cf53 0 = .ok (.aload_n 0, 1) := by decide +kernel
theorem dJ0_indexOf_7cf53_1 : decode cJ0_indexOf_7cf53 1 = .ok (.invokevirtual 492, 3) := by decide +kernel
theorem dJ0_indexOf_7cf53_4 : decode cJ0_indexOf_7cf53 4 = .ok (.ifCond .eq 19, 3) := by decide +kernel
theorem dJ0_indexOf_7cf53_7 : decode cJ0_indexOf_7cf53 7 = .ok (.aload_n 0, 1) := by decide +kernel
theorem dJ0_indexOf_7cf53_8 : decode cJ0_indexOf_7cf53 8 = .ok (.getfield 9, 3) := by decide +kernel
theorem dJ0_indexOf_7cf53_11 : decode cJ0_indexOf_7cf53 11 = .ok (.iload_n 1, 1) := by decide +kernel
theorem dJ0_indexOf_7cf53_12 : decode cJ0_indexOf_7cf53 12 = .ok (.iload_n 2, 1) := by decide +kernel
theorem dJ0_indexOf_7cf53_13 : decode cJ0_indexOf_7cf53 13 = .ok (.aload_n 0, 1) := by decide +kernel
theorem dJ0_indexOf_7cf53_14 : decode cJ0_indexOf_7cf53 14 = .ok (.invokevirtual 505, 3) := by decide +kernel
theorem dJ0_indexOf_7cf53_17 : decode cJ0_indexOf_7cf53 17 = .ok (.invokestatic 637, 3) := by decide +kernel
theorem dJ0_indexOf_7cf53_20 : decode cJ0_indexOf_7cf53 20 = .ok (.goto 16, 3) := by decide +kernel
theorem dJ0_indexOf_7cf53_23 : decode cJ0_indexOf_7cf53 23 = .ok (.aload_n 0, 1) := by decide +kernel
theorem dJ0_indexOf_7cf53_24 : decode cJ0_indexOf_7cf53 24 = .ok (.getfield 9, 3) := by decide +kernel
theorem dJ0_indexOf_7cf53_27 : decode cJ0_indexOf_7cf53 27 = .ok (.iload_n 1, 1) := by decide +kernel
theorem dJ0_indexOf_7cf53_28 : decode cJ0_indexOf_7cf53 28 = .ok (.iload_n 2, 1) := by decide +kernel
theorem dJ0_indexOf_7cf53_29 : decode cJ0_indexOf_7cf53 29 = .ok (.aload_n 0, 1) := by decide +kernel
theorem dJ0_indexOf_7cf53_30 : decode cJ0_indexOf_7cf53 30 = .ok (.invokevirtual 505, 3) := by decide +kernel
theorem dJ0_indexOf_7cf53_33 : decode cJ0_indexOf_7cf53 33 = .ok (.invokestatic 640, 3) := by decide +kernel
theorem dJ0_indexOf_7cf53_36 : decode cJ0_indexOf_7cf53 36 = .ok (.ireturn, 1) := by decide +kernel
theorem dJ0_coder_7d493_0 : decode cJ0_coder_7d493 0 = .ok (.getstatic 38, 3) := by decide +kernel
theorem dJ0_coder_7d493_3 : decode cJ0_coder_7d493 3 = .ok (.ifCond .eq 10, 3) := by decide +kernel
theorem dJ0_coder_7d493_6 : decode cJ0_coder_7d493 6 = .ok (.aload_n 0, 1) := by decide +kernel
theorem dJ0_coder_7d493_7 : decode cJ0_coder_7d493 7 = .ok (.getfield 15, 3) := by decide +kernel
theorem dJ0_coder_7d493_10 : decode cJ0_coder_7d493 10 = .ok (.goto 4, 3) := by decide +kernel
theorem dJ0_coder_7d493_13 : decode cJ0_coder_7d493 13 = .ok (.iconst 1, 1) := by decide +kernel
theorem dJ0_coder_7d493_14 : decode cJ0_coder_7d493 14 = .ok (.ireturn, 1) := by decide +kernel
theorem dJ0_isLatin1_aae02_0 : decode cJ0_isLatin1_aae02 0 = .ok (.getstatic 38, 3) := by decide +kernel
theorem dJ0_isLatin1_aae02_3 : decode cJ0_isLatin1_aae02 3 = .ok (.ifCond .eq 14, 3) := by decide +kernel
theorem dJ0_isLatin1_aae02_6 : decode cJ0_isLatin1_aae02 6 = .ok (.aload_n 0, 1) := by decide +kernel
theorem dJ0_isLatin1_aae02_7 : decode cJ0_isLatin1_aae02 7 = .ok (.getfield 15, 3) := by decide +kernel
theorem dJ0_isLatin1_aae02_10 : decode cJ0_isLatin1_aae02 10 = .ok (.ifCond .ne 7, 3) := by decide +kernel
theorem dJ0_isLatin1_aae02_13 : decode cJ0_isLatin1_aae02 13 = .ok (.iconst 1, 1) := by decide +kernel
theorem dJ0_isLatin1_aae02_14 : decode cJ0_isLatin1_aae02 14 = .ok (.goto 4, 3) := by decide +kernel
theorem dJ0_isLatin1_aae02_17 : decode cJ0_isLatin1_aae02 17 = .ok (.iconst 0, 1) := by decide +kernel
theorem dJ0_isLatin1_aae02_18 : decode cJ0_isLatin1_aae02 18 = .ok (.ireturn, 1) := by decide +kernel
theorem dJ0_checkBoundsBeginEnd_23922_0 : decode cJ0_checkBoundsBeginEnd_23922 0 = .ok (.iload_n 0, 1) := by decide +kernel
theorem dJ0_checkBoundsBeginEnd_23922_1 : decode cJ0_checkBoundsBeginEnd_23922 1 = .ok (.iload_n 1, 1) := by decide +kernel
theorem dJ0_checkBoundsBeginEnd_23922_2 : decode cJ0_checkBoundsBeginEnd_23922 2 = .ok (.iload_n 2, 1) := by decide +kernel
theorem dJ0_checkBoundsBeginEnd_23922_3 : decode cJ0_checkBoundsBeginEnd_23922 3 = .ok (.getstatic 1053, 3) := by decide +kernel
theorem dJ0_checkBoundsBeginEnd_23922_6 : decode cJ0_checkBoundsBeginEnd_23922 6 = .ok (.invokestatic 1062, 3) := by decide +kernel
theorem dJ0_checkBoundsBeginEnd_23922_9 : decode cJ0_checkBoundsBeginEnd_23922 9 = .ok (.pop, 1) := by decide +kernel
theorem dJ0_checkBoundsBeginEnd_23922_10 : decode cJ0_checkBoundsBeginEnd_23922 10 = .ok (.return_, 1) := by decide +kernel
theorem dJ1_canEncode_9a6ad_0 : decode cJ1_canEncode_9a6ad 0 = .ok (.iload_n 0, 1) := by decide +kernel
theorem dJ1_canEncode_9a6ad_1 : decode cJ1_canEncode_9a6ad 1 = .ok (.ifCond .lt 14, 3) := by decide +kernel
theorem dJ1_canEncode_9a6ad_4 : decode cJ1_canEncode_9a6ad 4 = .ok (.iload_n 0, 1) := by decide +kernel
theorem dJ1_canEncode_9a6ad_5 : decode cJ1_canEncode_9a6ad 5 = .ok (.sipush 255, 3) := by decide +kernel
theorem dJ1_canEncode_9a6ad_8 : decode cJ1_canEncode_9a6ad 8 = .ok (.if_icmp .gt 7, 3) := by decide +kernel
theorem dJ1_canEncode_9a6ad_11 : decode cJ1_canEncode_9a6ad 11 = .ok (.iconst 1, 1) := by decide +kernel
theorem dJ1_canEncode_9a6ad_12 : decode cJ1_canEncode_9a6ad 12 = .ok (.goto 4, 3) := by decide +kernel
theorem dJ1_canEncode_9a6ad_15 : decode cJ1_canEncode_9a6ad 15 = .ok (.iconst 0, 1) := by decide +kernel
theorem dJ1_canEncode_9a6ad_16 : decode cJ1_canEncode_9a6ad 16 = .ok (.ireturn, 1) := by decide +kernel
theorem dJ1_indexOf_4cfef_0 : decode cJ1_indexOf_4cfef 0 = .ok (.iload_n 1, 1) := by decide +kernel
theorem dJ1_indexOf_4cfef_1 : decode cJ1_indexOf_4cfef 1 = .ok (.invokestatic 88, 3) := by decide +kernel
theorem dJ1_indexOf_4cfef_4 : decode cJ1_indexOf_4cfef 4 = .ok (.ifCond .ne 5, 3) := by decide +kernel
theorem dJ1_indexOf_4cfef_7 : decode cJ1_indexOf_4cfef 7 = .ok (.iconst (-1), 1) := by decide +kernel
theorem dJ1_indexOf_4cfef_8 : decode cJ1_indexOf_4cfef 8 = .ok (.ireturn, 1) := by decide +kernel
theorem dJ1_indexOf_4cfef_9 : decode cJ1_indexOf_4cfef 9 = .ok (.iload_n 2, 1) := by decide +kernel
theorem dJ1_indexOf_4cfef_10 : decode cJ1_indexOf_4cfef 10 = .ok (.iconst 0, 1) := by decide +kernel
theorem dJ1_indexOf_4cfef_11 : decode cJ1_indexOf_4cfef 11 = .ok (.invokestatic 92, 3) := by decide +kernel
theorem dJ1_indexOf_4cfef_14 : decode cJ1_indexOf_4cfef 14 = .ok (.istore_n 2, 1) := by decide +kernel
theorem dJ1_indexOf_4cfef_15 : decode cJ1_indexOf_4cfef 15 = .ok (.iload_n 3, 1) := by decide +kernel
theorem dJ1_indexOf_4cfef_16 : decode cJ1_indexOf_4cfef 16 = .ok (.aload_n 0, 1) := by decide +kernel
theorem dJ1_indexOf_4cfef_17 : decode cJ1_indexOf_4cfef 17 = .ok (.arraylength, 1) := by decide +kernel
theorem dJ1_indexOf_4cfef_18 : decode cJ1_indexOf_4cfef 18 = .ok (.invokestatic 38, 3) := by decide +kernel
theorem dJ1_indexOf_4cfef_21 : decode cJ1_indexOf_4cfef 21 = .ok (.istore_n 3, 1) := by decide +kernel
theorem dJ1_indexOf_4cfef_22 : decode cJ1_indexOf_4cfef 22 = .ok (.iload_n 2, 1) := by decide +kernel
theorem dJ1_indexOf_4cfef_23 : decode cJ1_indexOf_4cfef 23 = .ok (.iload_n 3, 1) := by decide +kernel
