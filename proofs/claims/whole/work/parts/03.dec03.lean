theorem dX7_count_76 : decode cX7_count 76 = .ok (.aload_n 0, 1) := by decide +kernel
theorem dX7_count_77 : decode cX7_count 77 = .ok (.getfield 22, 3) := by decide +kernel
theorem dX7_count_80 : decode cX7_count 80 = .ok (.getfield 91, 3) := by decide +kernel
theorem dX7_count_83 : decode cX7_count 83 = .ok (.ireturn, 1) := by decide +kernel
theorem dX7_count_84 : decode cX7_count 84 = .ok (.aload_n 0, 1) := by decide +kernel
theorem dX7_count_85 : decode cX7_count 85 = .ok (.getfield 30, 3) := by decide +kernel
theorem dX7_count_88 : decode cX7_count 88 = .ok (.getfield 119, 3) := by decide +kernel
theorem dX7_count_91 : decode cX7_count 91 = .ok (.getfield 140, 3) := by decide +kernel
theorem dX7_count_94 : decode cX7_count 94 = .ok (.ireturn, 1) := by decide +kernel
theorem dX7_count_95 : decode cX7_count 95 = .ok (.aload_n 0, 1) := by decide +kernel
theorem dX7_count_96 : decode cX7_count 96 = .ok (.invokevirtual 159, 3) := by decide +kernel
theorem dX7_count_99 : decode cX7_count 99 = .ok (.iconst 0, 1) := by decide +kernel
theorem dX7_count_100 : decode cX7_count 100 = .ok (.aload_n 0, 1) := by decide +kernel
theorem dX7_count_101 : decode cX7_count 101 = .ok (.getfield 30, 3) := by decide +kernel
theorem dX7_count_104 : decode cX7_count 104 = .ok (.getfield 119, 3) := by decide +kernel
theorem dX7_count_107 : decode cX7_count 107 = .ok (.getfield 140, 3) := by decide +kernel
theorem dX7_count_110 : decode cX7_count 110 = .ok (.invokevirtual 271, 3) := by decide +kernel
theorem dX7_count_113 : decode cX7_count 113 = .ok (.ireturn, 1) := by decide +kernel
theorem dX7_count_114 : decode cX7_count 114 = .ok (.aload_n 0, 1) := by decide +kernel
theorem dX7_count_115 : decode cX7_count 115 = .ok (.getfield 30, 3) := by decide +kernel
theorem dX7_count_118 : decode cX7_count 118 = .ok (.getfield 130, 3) := by decide +kernel
theorem dX7_count_121 : decode cX7_count 121 = .ok (.getfield 140, 3) := by decide +kernel
theorem dX7_count_124 : decode cX7_count 124 = .ok (.aload_n 0, 1) := by decide +kernel
theorem dX7_count_125 : decode cX7_count 125 = .ok (.getfield 30, 3) := by decide +kernel
theorem dX7_count_128 : decode cX7_count 128 = .ok (.getfield 137, 3) := by decide +kernel
theorem dX7_count_131 : decode cX7_count 131 = .ok (.getfield 140, 3) := by decide +kernel
theorem dX7_count_134 : decode cX7_count 134 = .ok (.iadd, 1) := by decide +kernel
theorem dX7_count_135 : decode cX7_count 135 = .ok (.ireturn, 1) := by decide +kernel
theorem dX7_count_136 : decode cX7_count 136 = .ok (.aload_n 0, 1) := by decide +kernel
theorem dX7_count_137 : decode cX7_count 137 = .ok (.getfield 37, 3) := by decide +kernel
theorem dX7_count_140 : decode cX7_count 140 = .ok (.getfield 140, 3) := by decide +kernel
theorem dX7_count_143 : decode cX7_count 143 = .ok (.ireturn, 1) := by decide +kernel
theorem dX7_count_144 : decode cX7_count 144 = .ok (.aload_n 0, 1) := by decide +kernel
theorem dX7_count_145 : decode cX7_count 145 = .ok (.getfield 79, 3) := by decide +kernel
theorem dX7_count_148 : decode cX7_count 148 = .ok (.ireturn, 1) := by decide +kernel
theorem dX7_count_149 : decode cX7_count 149 = .ok (.bipush (-2), 2) := by decide +kernel
theorem dX7_count_151 : decode cX7_count 151 = .ok (.ireturn, 1) := by decide +kernel
theorem dX7_digest_0 : decode cX7_digest 0 = .ok (.ldc2_w 305, 3) := by decide +kernel
theorem dX7_digest_3 : decode cX7_digest 3 = .ok (.lstore_n 1, 1) := by decide +kernel
theorem dX7_digest_4 : decode cX7_digest 4 = .ok (.iconst 0, 1) := by decide +kernel
theorem dX7_digest_5 : decode cX7_digest 5 = .ok (.istore_n 3, 1) := by decide +kernel
theorem dX7_digest_6 : decode cX7_digest 6 = .ok (.iload_n 3, 1) := by decide +kernel
theorem dX7_digest_7 : decode cX7_digest 7 = .ok (.bipush 7, 2) := by decide +kernel
theorem dX7_digest_9 : decode cX7_digest 9 = .ok (.if_icmp .gt 22, 3) := by decide +kernel
theorem dX7_digest_12 : decode cX7_digest 12 = .ok (.ldc2_w 307, 3) := by decide +kernel
theorem dX7_digest_15 : decode cX7_digest 15 = .ok (.lload_n 1, 1) := by decide +kernel
theorem dX7_digest_16 : decode cX7_digest 16 = .ok (.lmul, 1) := by decide +kernel
theorem dX7_digest_17 : decode cX7_digest 17 = .ok (.aload_n 0, 1) := by decide +kernel
theorem dX7_digest_18 : decode cX7_digest 18 = .ok (.iload_n 3, 1) := by decide +kernel
theorem dX7_digest_19 : decode cX7_digest 19 = .ok (.invokevirtual 309, 3) := by decide +kernel
theorem dX7_digest_22 : decode cX7_digest 22 = .ok (.i2l, 1) := by decide +kernel
theorem dX7_digest_23 : decode cX7_digest 23 = .ok (.ladd, 1) := by decide +kernel
theorem dX7_digest_24 : decode cX7_digest 24 = .ok (.lstore_n 1, 1) := by decide +kernel
theorem dX7_digest_25 : decode cX7_digest 25 = .ok (.iinc 3 1, 3) := by decide +kernel
theorem dX7_digest_28 : decode cX7_digest 28 = .ok (.goto (-22), 3) := by decide +kernel
theorem dX7_digest_31 : decode cX7_digest 31 = .ok (.iconst 0, 1) := by decide +kernel
theorem dX7_digest_32 : decode cX7_digest 32 = .ok (.istore_n 3, 1) := by decide +kernel
theorem dX7_digest_33 : decode cX7_digest 33 = .ok (.iload_n 3, 1) := by decide +kernel
theorem dX7_digest_34 : decode cX7_digest 34 = .ok (.iconst 2, 1) := by decide +kernel
theorem dX7_digest_35 : decode cX7_digest 35 = .ok (.if_icmp .ge 22, 3) := by decide +kernel
theorem dX7_digest_38 : decode cX7_digest 38 = .ok (.ldc2_w 307, 3) := by decide +kernel
theorem dX7_digest_41 : decode cX7_digest 41 = .ok (.lload_n 1, 1) := by decide +kernel
theorem dX7_digest_42 : decode cX7_digest 42 = .ok (.lmul, 1) := by decide +kernel
theorem dX7_digest_43 : decode cX7_digest 43 = .ok (.aload_n 0, 1) := by decide +kernel
theorem dX7_digest_44 : decode cX7_digest 44 = .ok (.iload_n 3, 1) := by decide +kernel
theorem dX7_digest_45 : decode cX7_digest 45 = .ok (.invokevirtual 312, 3) := by decide +kernel
theorem dX7_digest_48 : decode cX7_digest 48 = .ok (.i2l, 1) := by decide +kernel
theorem dX7_digest_49 : decode cX7_digest 49 = .ok (.ladd, 1) := by decide +kernel
theorem dX7_digest_50 : decode cX7_digest 50 = .ok (.lstore_n 1, 1) := by decide +kernel
theorem dX7_digest_51 : decode cX7_digest 51 = .ok (.iinc 3 1, 3) := by decide +kernel
theorem dX7_digest_54 : decode cX7_digest 54 = .ok (.goto (-21), 3) := by decide +kernel
theorem dX7_digest_57 : decode cX7_digest 57 = .ok (.iconst 0, 1) := by decide +kernel
theorem dX7_digest_58 : decode cX7_digest 58 = .ok (.istore_n 3, 1) := by decide +kernel
theorem dX7_digest_59 : decode cX7_digest 59 = .ok (.iload_n 3, 1) := by decide +kernel
theorem dX7_digest_60 : decode cX7_digest 60 = .ok (.aload_n 0, 1) := by decide +kernel
theorem dX7_digest_61 : decode cX7_digest 61 = .ok (.getfield 16, 3) := by decide +kernel
theorem dX7_digest_64 : decode cX7_digest 64 = .ok (.getfield 190, 3) := by decide +kernel
theorem dX7_digest_67 : decode cX7_digest 67 = .ok (.if_icmp .ge 16, 3) := by decide +kernel
theorem dX7_digest_70 : decode cX7_digest 70 = .ok (.aload_n 0, 1) := by decide +kernel
theorem dX7_digest_71 : decode cX7_digest 71 = .ok (.lload_n 1, 1) := by decide +kernel
theorem dX7_digest_72 : decode cX7_digest 72 = .ok (.iload_n 3, 1) := by decide +kernel
theorem dX7_digest_73 : decode cX7_digest 73 = .ok (.invokevirtual 314, 3) := by decide +kernel
theorem dX7_digest_76 : decode cX7_digest 76 = .ok (.lstore_n 1, 1) := by decide +kernel
theorem dX7_digest_77 : decode cX7_digest 77 = .ok (.iinc 3 1, 3) := by decide +kernel
theorem dX7_digest_80 : decode cX7_digest 80 = .ok (.goto (-21), 3) := by decide +kernel
theorem dX7_digest_83 : decode cX7_digest 83 = .ok (.iconst 0, 1) := by decide +kernel
theorem dX7_digest_84 : decode cX7_digest 84 = .ok (.istore_n 3, 1) := by decide +kernel
theorem dX7_digest_85 : decode cX7_digest 85 = .ok (.iload_n 3, 1) := by decide +kernel
theorem dX7_digest_86 : decode cX7_digest 86 = .ok (.aload_n 0, 1) := by decide +kernel
theorem dX7_digest_87 : decode cX7_digest 87 = .ok (.getfield 22, 3) := by decide +kernel
theorem dX7_digest_90 : decode cX7_digest 90 = .ok (.getfield 190, 3) := by decide +kernel
theorem dX7_digest_93 : decode cX7_digest 93 = .ok (.if_icmp .ge 16, 3) := by decide +kernel
theorem dX7_digest_96 : decode cX7_digest 96 = .ok (.aload_n 0, 1) := by decide +kernel
theorem dX7_digest_97 : decode cX7_digest 97 = .ok (.lload_n 1, 1) := by decide +kernel
theorem dX7_digest_98 : decode cX7_digest 98 = .ok (.iload_n 3, 1) := by decide +kernel
theorem dX7_digest_99 : decode cX7_digest 99 = .ok (.invokevirtual 318, 3) := by decide +kernel
theorem dX7_digest_102 : decode cX7_digest 102 = .ok (.lstore_n 1, 1) := by decide +kernel
theorem dX7_digest_103 : decode cX7_digest 103 = .ok (.iinc 3 1, 3) := by decide +kernel
theorem dX7_digest_106 : decode cX7_digest 106 = .ok (.goto (-21), 3) := by decide +kernel
theorem dX7_digest_109 : decode cX7_digest 109 = .ok (.iconst 0, 1) := by decide +kernel
theorem dX7_digest_110 : decode cX7_digest 110 = .ok (.istore_n 3, 1) := by decide +kernel
theorem dX7_digest_111 : decode cX7_digest 111 = .ok (.iload_n 3, 1) := by decide +kernel
theorem dX7_digest_112 : decode cX7_digest 112 = .ok (.aload_n 0, 1) := by decide +kernel
theorem dX7_digest_113 : decode cX7_digest 113 = .ok (.getfield 30, 3) := by decide +kernel
theorem dX7_digest_116 : decode cX7_digest 116 = .ok (.getfield 119, 3) := by decide +kernel
theorem dX7_digest_119 : decode cX7_digest 119 = .ok (.getfield 140, 3) := by decide +kernel
theorem dX7_digest_122 : decode cX7_digest 122 = .ok (.if_icmp .ge 39, 3) := by decide +kernel
theorem dX7_digest_125 : decode cX7_digest 125 = .ok (.iconst 0, 1) := by decide +kernel
theorem dX7_digest_126 : decode cX7_digest 126 = .ok (.istore 4, 2) := by decide +kernel
theorem dX7_digest_128 : decode cX7_digest 128 = .ok (.iload 4, 2) := by decide +kernel
theorem dX7_digest_130 : decode cX7_digest 130 = .ok (.iconst 3, 1) := by decide +kernel
theorem dX7_digest_131 : decode cX7_digest 131 = .ok (.if_icmp .ge 24, 3) := by decide +kernel
theorem dX7_digest_134 : decode cX7_digest 134 = .ok (.ldc2_w 307, 3) := by decide +kernel
theorem dX7_digest_137 : decode cX7_digest 137 = .ok (.lload_n 1, 1) := by decide +kernel
theorem dX7_digest_138 : decode cX7_digest 138 = .ok (.lmul, 1) := by decide +kernel
theorem dX7_digest_139 : decode cX7_digest 139 = .ok (.aload_n 0, 1) := by decide +kernel
theorem dX7_digest_140 : decode cX7_digest 140 = .ok (.iload_n 3, 1) := by decide +kernel
theorem dX7_digest_141 : decode cX7_digest 141 = .ok (.iload 4, 2) := by decide +kernel
theorem dX7_digest_143 : decode cX7_digest 143 = .ok (.invokevirtual 321, 3) := by decide +kernel
theorem dX7_digest_146 : decode cX7_digest 146 = .ok (.i2l, 1) := by decide +kernel
theorem dX7_digest_147 : decode cX7_digest 147 = .ok (.ladd, 1) := by decide +kernel
theorem dX7_digest_148 : decode cX7_digest 148 = .ok (.lstore_n 1, 1) := by decide +kernel
theorem dX7_digest_149 : decode cX7_digest 149 = .ok (.iinc 4 1, 3) := by decide +kernel
theorem dX7_digest_152 : decode cX7_digest 152 = .ok (.goto (-24), 3) := by decide +kernel
theorem dX7_digest_155 : decode cX7_digest 155 = .ok (.iinc 3 1, 3) := by decide +kernel
theorem dX7_digest_158 : decode cX7_digest 158 = .ok (.goto (-47), 3) := by decide +kernel
theorem dX7_digest_161 : decode cX7_digest 161 = .ok (.aload_n 0, 1) := by decide +kernel
theorem dX7_digest_162 : decode cX7_digest 162 = .ok (.lload_n 1, 1) := by decide +kernel
theorem dX7_digest_163 : decode cX7_digest 163 = .ok (.iconst 0, 1) := by decide +kernel
theorem dX7_digest_164 : decode cX7_digest 164 = .ok (.invokevirtual 324, 3) := by decide +kernel
theorem dX7_digest_167 : decode cX7_digest 167 = .ok (.lstore_n 1, 1) := by decide +kernel
theorem dX7_digest_168 : decode cX7_digest 168 = .ok (.aload_n 0, 1) := by decide +kernel
theorem dX7_digest_169 : decode cX7_digest 169 = .ok (.lload_n 1, 1) := by decide +kernel
theorem dX7_digest_170 : decode cX7_digest 170 = .ok (.iconst 5, 1) := by decide +kernel
theorem dX7_digest_171 : decode cX7_digest 171 = .ok (.invokevirtual 324, 3) := by decide +kernel
theorem dX7_digest_174 : decode cX7_digest 174 = .ok (.lstore_n 1, 1) := by decide +kernel
theorem dX7_digest_175 : decode cX7_digest 175 = .ok (.aload_n 0, 1) := by decide +kernel
theorem dX7_digest_176 : decode cX7_digest 176 = .ok (.lload_n 1, 1) := by decide +kernel
theorem dX7_digest_177 : decode cX7_digest 177 = .ok (.bipush 39, 2) := by decide +kernel
theorem dX7_digest_179 : decode cX7_digest 179 = .ok (.invokevirtual 324, 3) := by decide +kernel
theorem dX7_digest_182 : decode cX7_digest 182 = .ok (.lstore_n 1, 1) := by decide +kernel
theorem dX7_digest_183 : decode cX7_digest 183 = .ok (.iconst 0, 1) := by decide +kernel
theorem dX7_digest_184 : decode cX7_digest 184 = .ok (.istore_n 3, 1) := by decide +kernel
theorem dX7_digest_185 : decode cX7_digest 185 = .ok (.iload_n 3, 1) := by decide +kernel
theorem dX7_digest_186 : decode cX7_digest 186 = .ok (.bipush 6, 2) := by decide +kernel
theorem dX7_digest_188 : decode cX7_digest 188 = .ok (.if_icmp .ge 22, 3) := by decide +kernel
theorem dX7_digest_191 : decode cX7_digest 191 = .ok (.ldc2_w 307, 3) := by decide +kernel
theorem dX7_digest_194 : decode cX7_digest 194 = .ok (.lload_n 1, 1) := by decide +kernel
theorem dX7_digest_195 : decode cX7_digest 195 = .ok (.lmul, 1) := by decide +kernel
theorem dX7_digest_196 : decode cX7_digest 196 = .ok (.aload_n 0, 1) := by decide +kernel
theorem dX7_digest_197 : decode cX7_digest 197 = .ok (.iload_n 3, 1) := by decide +kernel
theorem dX7_digest_198 : decode cX7_digest 198 = .ok (.invokevirtual 327, 3) := by decide +kernel
theorem dX7_digest_201 : decode cX7_digest 201 = .ok (.i2l, 1) := by decide +kernel
theorem dX7_digest_202 : decode cX7_digest 202 = .ok (.ladd, 1) := by decide +kernel
theorem dX7_digest_203 : decode cX7_digest 203 = .ok (.lstore_n 1, 1) := by decide +kernel
theorem dX7_digest_204 : decode cX7_digest 204 = .ok (.iinc 3 1, 3) := by decide +kernel
theorem dX7_digest_207 : decode cX7_digest 207 = .ok (.goto (-22), 3) := by decide +kernel
theorem dX7_digest_210 : decode cX7_digest 210 = .ok (.ldc2_w 307, 3) := by decide +kernel
theorem dX7_digest_213 : decode cX7_digest 213 = .ok (.lload_n 1, 1) := by decide +kernel
theorem dX7_digest_214 : decode cX7_digest 214 = .ok (.lmul, 1) := by decide +kernel
theorem dX7_digest_215 : decode cX7_digest 215 = .ok (.aload_n 0, 1) := by decide +kernel
theorem dX7_digest_216 : decode cX7_digest 216 = .ok (.invokevirtual 330, 3) := by decide +kernel
theorem dX7_digest_219 : decode cX7_digest 219 = .ok (.i2l, 1) := by decide +kernel
theorem dX7_digest_220 : decode cX7_digest 220 = .ok (.ladd, 1) := by decide +kernel
theorem dX7_digest_221 : decode cX7_digest 221 = .ok (.lstore_n 1, 1) := by decide +kernel
theorem dX7_digest_222 : decode cX7_digest 222 = .ok (.ldc2_w 307, 3) := by decide +kernel
theorem dX7_digest_225 : decode cX7_digest 225 = .ok (.lload_n 1, 1) := by decide +kernel
theorem dX7_digest_226 : decode cX7_digest 226 = .ok (.lmul, 1) := by decide +kernel
theorem dX7_digest_227 : decode cX7_digest 227 = .ok (.aload_n 0, 1) := by decide +kernel
theorem dX7_digest_228 : decode cX7_digest 228 = .ok (.iconst 0, 1) := by decide +kernel
theorem dX7_digest_229 : decode cX7_digest 229 = .ok (.invokevirtual 333, 3) := by decide +kernel
theorem dX7_digest_232 : decode cX7_digest 232 = .ok (.i2l, 1) := by decide +kernel
theorem dX7_digest_233 : decode cX7_digest 233 = .ok (.ladd, 1) := by decide +kernel
theorem dX7_digest_234 : decode cX7_digest 234 = .ok (.lstore_n 1, 1) := by decide +kernel
theorem dX7_digest_235 : decode cX7_digest 235 = .ok (.ldc2_w 307, 3) := by decide +kernel
theorem dX7_digest_238 : decode cX7_digest 238 = .ok (.lload_n 1, 1) := by decide +kernel
theorem dX7_digest_239 : decode cX7_digest 239 = .ok (.lmul, 1) := by decide +kernel
theorem dX7_digest_240 : decode cX7_digest 240 = .ok (.aload_n 0, 1) := by decide +kernel
theorem dX7_digest_241 : decode cX7_digest 241 = .ok (.iconst 1, 1) := by decide +kernel
theorem dX7_digest_242 : decode cX7_digest 242 = .ok (.invokevirtual 333, 3) := by decide +kernel
theorem dX7_digest_245 : decode cX7_digest 245 = .ok (.i2l, 1) := by decide +kernel
theorem dX7_digest_246 : decode cX7_digest 246 = .ok (.ladd, 1) := by decide +kernel
theorem dX7_digest_247 : decode cX7_digest 247 = .ok (.lstore_n 1, 1) := by decide +kernel
theorem dX7_digest_248 : decode cX7_digest 248 = .ok (.ldc2_w 307, 3) := by decide +kernel
theorem dX7_digest_251 : decode cX7_digest 251 = .ok (.lload_n 1, 1) := by decide +kernel
theorem dX7_digest_252 : decode cX7_digest 252 = .ok (.lmul, 1) := by decide +kernel
theorem dX7_digest_253 : decode cX7_digest 253 = .ok (.aload_n 0, 1) := by decide +kernel
theorem dX7_digest_254 : decode cX7_digest 254 = .ok (.bipush 7, 2) := by decide +kernel
theorem dX7_digest_256 : decode cX7_digest 256 = .ok (.bipush 20, 2) := by decide +kernel
theorem dX7_digest_258 : decode cX7_digest 258 = .ok (.iconst 0, 1) := by decide +kernel
theorem dX7_digest_259 : decode cX7_digest 259 = .ok (.invokevirtual 336, 3) := by decide +kernel
theorem dX7_digest_262 : decode cX7_digest 262 = .ok (.i2l, 1) := by decide +kernel
theorem dX7_digest_263 : decode cX7_digest 263 = .ok (.ladd, 1) := by decide +kernel
theorem dX7_digest_264 : decode cX7_digest 264 = .ok (.lstore_n 1, 1) := by decide +kernel
theorem dX7_digest_265 : decode cX7_digest 265 = .ok (.ldc2_w 307, 3) := by decide +kernel
theorem dX7_digest_268 : decode cX7_digest 268 = .ok (.lload_n 1, 1) := by decide +kernel
theorem dX7_digest_269 : decode cX7_digest 269 = .ok (.lmul, 1) := by decide +kernel
theorem dX7_digest_270 : decode cX7_digest 270 = .ok (.aload_n 0, 1) := by decide +kernel
theorem dX7_digest_271 : decode cX7_digest 271 = .ok (.bipush 7, 2) := by decide +kernel
theorem dX7_digest_273 : decode cX7_digest 273 = .ok (.bipush 20, 2) := by decide +kernel
theorem dX7_digest_275 : decode cX7_digest 275 = .ok (.iconst 1, 1) := by decide +kernel
theorem dX7_digest_276 : decode cX7_digest 276 = .ok (.invokevirtual 336, 3) := by decide +kernel
theorem dX7_digest_279 : decode cX7_digest 279 = .ok (.i2l, 1) := by decide +kernel
theorem dX7_digest_280 : decode cX7_digest 280 = .ok (.ladd, 1) := by decide +kernel
theorem dX7_digest_281 : decode cX7_digest 281 = .ok (.lreturn, 1) := by decide +kernel
theorem dX7_digestHole_0 : decode cX7_digestHole 0 = .ok (.lload_n 1, 1) := by decide +kernel
theorem dX7_digestHole_1 : decode cX7_digestHole 1 = .ok (.lstore 4, 2) := by decide +kernel
theorem dX7_digestHole_3 : decode cX7_digestHole 3 = .ok (.iconst 0, 1) := by decide +kernel
theorem dX7_digestHole_4 : decode cX7_digestHole 4 = .ok (.istore 6, 2) := by decide +kernel
theorem dX7_digestHole_6 : decode cX7_digestHole 6 = .ok (.iload 6, 2) := by decide +kernel
theorem dX7_digestHole_8 : decode cX7_digestHole 8 = .ok (.iconst 4, 1) := by decide +kernel
theorem dX7_digestHole_9 : decode cX7_digestHole 9 = .ok (.if_icmp .ge 26, 3) := by decide +kernel
theorem dX7_digestHole_12 : decode cX7_digestHole 12 = .ok (.ldc2_w 307, 3) := by decide +kernel
theorem dX7_digestHole_15 : decode cX7_digestHole 15 = .ok (.lload 4, 2) := by decide +kernel
theorem dX7_digestHole_17 : decode cX7_digestHole 17 = .ok (.lmul, 1) := by decide +kernel
theorem dX7_digestHole_18 : decode cX7_digestHole 18 = .ok (.aload_n 0, 1) := by decide +kernel
theorem dX7_digestHole_19 : decode cX7_digestHole 19 = .ok (.iload_n 3, 1) := by decide +kernel
theorem dX7_digestHole_20 : decode cX7_digestHole 20 = .ok (.iload 6, 2) := by decide +kernel
theorem dX7_digestHole_22 : decode cX7_digestHole 22 = .ok (.invokevirtual 340, 3) := by decide +kernel
theorem dX7_digestHole_25 : decode cX7_digestHole 25 = .ok (.i2l, 1) := by decide +kernel
theorem dX7_digestHole_26 : decode cX7_digestHole 26 = .ok (.ladd, 1) := by decide +kernel
theorem dX7_digestHole_27 : decode cX7_digestHole 27 = .ok (.lstore 4, 2) := by decide +kernel
theorem dX7_digestHole_29 : decode cX7_digestHole 29 = .ok (.iinc 6 1, 3) := by decide +kernel
theorem dX7_digestHole_32 : decode cX7_digestHole 32 = .ok (.goto (-26), 3) := by decide +kernel
theorem dX7_digestHole_35 : decode cX7_digestHole 35 = .ok (.iconst 0, 1) := by decide +kernel
theorem dX7_digestHole_36 : decode cX7_digestHole 36 = .ok (.istore 6, 2) := by decide +kernel
theorem dX7_digestHole_38 : decode cX7_digestHole 38 = .ok (.iload 6, 2) := by decide +kernel
theorem dX7_digestHole_40 : decode cX7_digestHole 40 = .ok (.iconst 3, 1) := by decide +kernel
theorem dX7_digestHole_41 : decode cX7_digestHole 41 = .ok (.if_icmp .ge 27, 3) := by decide +kernel
theorem dX7_digestHole_44 : decode cX7_digestHole 44 = .ok (.ldc2_w 307, 3) := by decide +kernel
theorem dX7_digestHole_47 : decode cX7_digestHole 47 = .ok (.lload 4, 2) := by decide +kernel
theorem dX7_digestHole_49 : decode cX7_digestHole 49 = .ok (.lmul, 1) := by decide +kernel
theorem dX7_digestHole_50 : decode cX7_digestHole 50 = .ok (.aload_n 0, 1) := by decide +kernel
theorem dX7_digestHole_51 : decode cX7_digestHole 51 = .ok (.iconst 5, 1) := by decide +kernel
theorem dX7_digestHole_52 : decode cX7_digestHole 52 = .ok (.iload_n 3, 1) := by decide +kernel
theorem dX7_digestHole_53 : decode cX7_digestHole 53 = .ok (.iload 6, 2) := by decide +kernel
theorem dX7_digestHole_55 : decode cX7_digestHole 55 = .ok (.invokevirtual 343, 3) := by decide +kernel
theorem dX7_digestHole_58 : decode cX7_digestHole 58 = .ok (.i2l, 1) := by decide +kernel
theorem dX7_digestHole_59 : decode cX7_digestHole 59 = .ok (.ladd, 1) := by decide +kernel
theorem dX7_digestHole_60 : decode cX7_digestHole 60 = .ok (.lstore 4, 2) := by decide +kernel
theorem dX7_digestHole_62 : decode cX7_digestHole 62 = .ok (.iinc 6 1, 3) := by decide +kernel
theorem dX7_digestHole_65 : decode cX7_digestHole 65 = .ok (.goto (-27), 3) := by decide +kernel
theorem dX7_digestHole_68 : decode cX7_digestHole 68 = .ok (.iconst 0, 1) := by decide +kernel
theorem dX7_digestHole_69 : decode cX7_digestHole 69 = .ok (.istore 6, 2) := by decide +kernel
theorem dX7_digestHole_71 : decode cX7_digestHole 71 = .ok (.iload 6, 2) := by decide +kernel
theorem dX7_digestHole_73 : decode cX7_digestHole 73 = .ok (.iconst 3, 1) := by decide +kernel
theorem dX7_digestHole_74 : decode cX7_digestHole 74 = .ok (.if_icmp .ge 28, 3) := by decide +kernel
theorem dX7_digestHole_77 : decode cX7_digestHole 77 = .ok (.ldc2_w 307, 3) := by decide +kernel
theorem dX7_digestHole_80 : decode cX7_digestHole 80 = .ok (.lload 4, 2) := by decide +kernel
theorem dX7_digestHole_82 : decode cX7_digestHole 82 = .ok (.lmul, 1) := by decide +kernel
theorem dX7_digestHole_83 : decode cX7_digestHole 83 = .ok (.aload_n 0, 1) := by decide +kernel
theorem dX7_digestHole_84 : decode cX7_digestHole 84 = .ok (.bipush 39, 2) := by decide +kernel
theorem dX7_digestHole_86 : decode cX7_digestHole 86 = .ok (.iload_n 3, 1) := by decide +kernel
theorem dX7_digestHole_87 : decode cX7_digestHole 87 = .ok (.iload 6, 2) := by decide +kernel
theorem dX7_digestHole_89 : decode cX7_digestHole 89 = .ok (.invokevirtual 343, 3) := by decide +kernel
theorem dX7_digestHole_92 : decode cX7_digestHole 92 = .ok (.i2l, 1) := by decide +kernel
theorem dX7_digestHole_93 : decode cX7_digestHole 93 = .ok (.ladd, 1) := by decide +kernel
theorem dX7_digestHole_94 : decode cX7_digestHole 94 = .ok (.lstore 4, 2) := by decide +kernel
theorem dX7_digestHole_96 : decode cX7_digestHole 96 = .ok (.iinc 6 1, 3) := by decide +kernel
theorem dX7_digestHole_99 : decode cX7_digestHole 99 = .ok (.goto (-28), 3) := by decide +kernel
theorem dX7_digestHole_102 : decode cX7_digestHole 102 = .ok (.ldc2_w 307, 3) := by decide +kernel
theorem dX7_digestHole_105 : decode cX7_digestHole 105 = .ok (.lload 4, 2) := by decide +kernel
theorem dX7_digestHole_107 : decode cX7_digestHole 107 = .ok (.lmul, 1) := by decide +kernel
theorem dX7_digestHole_108 : decode cX7_digestHole 108 = .ok (.aload_n 0, 1) := by decide +kernel
theorem dX7_digestHole_109 : decode cX7_digestHole 109 = .ok (.iconst 5, 1) := by decide +kernel
theorem dX7_digestHole_110 : decode cX7_digestHole 110 = .ok (.iload_n 3, 1) := by decide +kernel
theorem dX7_digestHole_111 : decode cX7_digestHole 111 = .ok (.invokevirtual 346, 3) := by decide +kernel
theorem dX7_digestHole_114 : decode cX7_digestHole 114 = .ok (.i2l, 1) := by decide +kernel
theorem dX7_digestHole_115 : decode cX7_digestHole 115 = .ok (.ladd, 1) := by decide +kernel
theorem dX7_digestHole_116 : decode cX7_digestHole 116 = .ok (.lreturn, 1) := by decide +kernel
theorem dX7_digestWork_0 : decode cX7_digestWork 0 = .ok (.lload_n 1, 1) := by decide +kernel
theorem dX7_digestWork_1 : decode cX7_digestWork 1 = .ok (.lstore 4, 2) := by decide +kernel
theorem dX7_digestWork_3 : decode cX7_digestWork 3 = .ok (.iconst 0, 1) := by decide +kernel
theorem dX7_digestWork_4 : decode cX7_digestWork 4 = .ok (.istore 6, 2) := by decide +kernel
theorem dX7_digestWork_6 : decode cX7_digestWork 6 = .ok (.iload 6, 2) := by decide +kernel
theorem dX7_digestWork_8 : decode cX7_digestWork 8 = .ok (.iconst 4, 1) := by decide +kernel
theorem dX7_digestWork_9 : decode cX7_digestWork 9 = .ok (.if_icmp .ge 26, 3) := by decide +kernel
theorem dX7_digestWork_12 : decode cX7_digestWork 12 = .ok (.ldc2_w 307, 3) := by decide +kernel
theorem dX7_digestWork_15 : decode cX7_digestWork 15 = .ok (.lload 4, 2) := by decide +kernel
theorem dX7_digestWork_17 : decode cX7_digestWork 17 = .ok (.lmul, 1) := by decide +kernel
theorem dX7_digestWork_18 : decode cX7_digestWork 18 = .ok (.aload_n 0, 1) := by decide +kernel
theorem dX7_digestWork_19 : decode cX7_digestWork 19 = .ok (.iload_n 3, 1) := by decide +kernel
theorem dX7_digestWork_20 : decode cX7_digestWork 20 = .ok (.iload 6, 2) := by decide +kernel
theorem dX7_digestWork_22 : decode cX7_digestWork 22 = .ok (.invokevirtual 349, 3) := by decide +kernel
theorem dX7_digestWork_25 : decode cX7_digestWork 25 = .ok (.i2l, 1) := by decide +kernel
theorem dX7_digestWork_26 : decode cX7_digestWork 26 = .ok (.ladd, 1) := by decide +kernel
theorem dX7_digestWork_27 : decode cX7_digestWork 27 = .ok (.lstore 4, 2) := by decide +kernel
theorem dX7_digestWork_29 : decode cX7_digestWork 29 = .ok (.iinc 6 1, 3) := by decide +kernel
theorem dX7_digestWork_32 : decode cX7_digestWork 32 = .ok (.goto (-26), 3) := by decide +kernel
theorem dX7_digestWork_35 : decode cX7_digestWork 35 = .ok (.ldc2_w 307, 3) := by decide +kernel
theorem dX7_digestWork_38 : decode cX7_digestWork 38 = .ok (.lload 4, 2) := by decide +kernel
theorem dX7_digestWork_40 : decode cX7_digestWork 40 = .ok (.lmul, 1) := by decide +kernel
theorem dX7_digestWork_41 : decode cX7_digestWork 41 = .ok (.aload_n 0, 1) := by decide +kernel
theorem dX7_digestWork_42 : decode cX7_digestWork 42 = .ok (.iload_n 3, 1) := by decide +kernel
theorem dX7_digestWork_43 : decode cX7_digestWork 43 = .ok (.iconst 3, 1) := by decide +kernel
theorem dX7_digestWork_44 : decode cX7_digestWork 44 = .ok (.iconst (-1), 1) := by decide +kernel
theorem dX7_digestWork_45 : decode cX7_digestWork 45 = .ok (.invokevirtual 352, 3) := by decide +kernel
theorem dX7_digestWork_48 : decode cX7_digestWork 48 = .ok (.i2l, 1) := by decide +kernel
theorem dX7_digestWork_49 : decode cX7_digestWork 49 = .ok (.ladd, 1) := by decide +kernel
theorem dX7_digestWork_50 : decode cX7_digestWork 50 = .ok (.lstore 4, 2) := by decide +kernel
theorem dX7_digestWork_52 : decode cX7_digestWork 52 = .ok (.ldc2_w 307, 3) := by decide +kernel
theorem dX7_digestWork_55 : decode cX7_digestWork 55 = .ok (.lload 4, 2) := by decide +kernel
theorem dX7_digestWork_57 : decode cX7_digestWork 57 = .ok (.lmul, 1) := by decide +kernel
theorem dX7_digestWork_58 : decode cX7_digestWork 58 = .ok (.aload_n 0, 1) := by decide +kernel
theorem dX7_digestWork_59 : decode cX7_digestWork 59 = .ok (.iload_n 3, 1) := by decide +kernel
theorem dX7_digestWork_60 : decode cX7_digestWork 60 = .ok (.iconst 3, 1) := by decide +kernel
theorem dX7_digestWork_61 : decode cX7_digestWork 61 = .ok (.iconst 0, 1) := by decide +kernel
theorem dX7_digestWork_62 : decode cX7_digestWork 62 = .ok (.invokevirtual 352, 3) := by decide +kernel
theorem dX7_digestWork_65 : decode cX7_digestWork 65 = .ok (.i2l, 1) := by decide +kernel
theorem dX7_digestWork_66 : decode cX7_digestWork 66 = .ok (.ladd, 1) := by decide +kernel
theorem dX7_digestWork_67 : decode cX7_digestWork 67 = .ok (.lstore 4, 2) := by decide +kernel
theorem dX7_digestWork_69 : decode cX7_digestWork 69 = .ok (.ldc2_w 307, 3) := by decide +kernel
theorem dX7_digestWork_72 : decode cX7_digestWork 72 = .ok (.lload 4, 2) := by decide +kernel
theorem dX7_digestWork_74 : decode cX7_digestWork 74 = .ok (.lmul, 1) := by decide +kernel
theorem dX7_digestWork_75 : decode cX7_digestWork 75 = .ok (.aload_n 0, 1) := by decide +kernel
theorem dX7_digestWork_76 : decode cX7_digestWork 76 = .ok (.iconst 5, 1) := by decide +kernel
theorem dX7_digestWork_77 : decode cX7_digestWork 77 = .ok (.bipush 9, 2) := by decide +kernel
theorem dX7_digestWork_79 : decode cX7_digestWork 79 = .ok (.iload_n 3, 1) := by decide +kernel
theorem dX7_digestWork_80 : decode cX7_digestWork 80 = .ok (.iconst 0, 1) := by decide +kernel
theorem dX7_digestWork_81 : decode cX7_digestWork 81 = .ok (.invokevirtual 355, 3) := by decide +kernel
theorem dX7_digestWork_84 : decode cX7_digestWork 84 = .ok (.ladd, 1) := by decide +kernel
theorem dX7_digestWork_85 : decode cX7_digestWork 85 = .ok (.lstore 4, 2) := by decide +kernel
theorem dX7_digestWork_87 : decode cX7_digestWork 87 = .ok (.ldc2_w 307, 3) := by decide +kernel
theorem dX7_digestWork_90 : decode cX7_digestWork 90 = .ok (.lload 4, 2) := by decide +kernel
theorem dX7_digestWork_92 : decode cX7_digestWork 92 = .ok (.lmul, 1) := by decide +kernel
theorem dX7_digestWork_93 : decode cX7_digestWork 93 = .ok (.aload_n 0, 1) := by decide +kernel
theorem dX7_digestWork_94 : decode cX7_digestWork 94 = .ok (.iconst 5, 1) := by decide +kernel
theorem dX7_digestWork_95 : decode cX7_digestWork 95 = .ok (.bipush 9, 2) := by decide +kernel
theorem dX7_digestWork_97 : decode cX7_digestWork 97 = .ok (.iload_n 3, 1) := by decide +kernel
theorem dX7_digestWork_98 : decode cX7_digestWork 98 = .ok (.iconst 1, 1) := by decide +kernel
theorem dX7_digestWork_99 : decode cX7_digestWork 99 = .ok (.invokevirtual 355, 3) := by decide +kernel
theorem dX7_digestWork_102 : decode cX7_digestWork 102 = .ok (.ladd, 1) := by decide +kernel
theorem dX7_digestWork_103 : decode cX7_digestWork 103 = .ok (.lreturn, 1) := by decide +kernel
theorem dX7_digestDay_0 : decode cX7_digestDay 0 = .ok (.lload_n 1, 1) := by decide +kernel
theorem dX7_digestDay_1 : decode cX7_digestDay 1 = .ok (.lstore 4, 2) := by decide +kernel
theorem dX7_digestDay_3 : decode cX7_digestDay 3 = .ok (.ldc2_w 307, 3) := by decide +kernel
theorem dX7_digestDay_6 : decode cX7_digestDay 6 = .ok (.lload 4, 2) := by decide +kernel
theorem dX7_digestDay_8 : decode cX7_digestDay 8 = .ok (.lmul, 1) := by decide +kernel
theorem dX7_digestDay_9 : decode cX7_digestDay 9 = .ok (.aload_n 0, 1) := by decide +kernel
theorem dX7_digestDay_10 : decode cX7_digestDay 10 = .ok (.iload_n 3, 1) := by decide +kernel
theorem dX7_digestDay_11 : decode cX7_digestDay 11 = .ok (.iconst 0, 1) := by decide +kernel
theorem dX7_digestDay_12 : decode cX7_digestDay 12 = .ok (.invokevirtual 359, 3) := by decide +kernel
theorem dX7_digestDay_15 : decode cX7_digestDay 15 = .ok (.i2l, 1) := by decide +kernel
theorem dX7_digestDay_16 : decode cX7_digestDay 16 = .ok (.ladd, 1) := by decide +kernel
theorem dX7_digestDay_17 : decode cX7_digestDay 17 = .ok (.lstore 4, 2) := by decide +kernel
theorem dX7_digestDay_19 : decode cX7_digestDay 19 = .ok (.ldc2_w 307, 3) := by decide +kernel
theorem dX7_digestDay_22 : decode cX7_digestDay 22 = .ok (.lload 4, 2) := by decide +kernel
theorem dX7_digestDay_24 : decode cX7_digestDay 24 = .ok (.lmul, 1) := by decide +kernel
theorem dX7_digestDay_25 : decode cX7_digestDay 25 = .ok (.aload_n 0, 1) := by decide +kernel
theorem dX7_digestDay_26 : decode cX7_digestDay 26 = .ok (.iload_n 3, 1) := by decide +kernel
theorem dX7_digestDay_27 : decode cX7_digestDay 27 = .ok (.iconst 1, 1) := by decide +kernel
theorem dX7_digestDay_28 : decode cX7_digestDay 28 = .ok (.invokevirtual 359, 3) := by decide +kernel
theorem dX7_digestDay_31 : decode cX7_digestDay 31 = .ok (.i2l, 1) := by decide +kernel
theorem dX7_digestDay_32 : decode cX7_digestDay 32 = .ok (.ladd, 1) := by decide +kernel
theorem dX7_digestDay_33 : decode cX7_digestDay 33 = .ok (.lstore 4, 2) := by decide +kernel
theorem dX7_digestDay_35 : decode cX7_digestDay 35 = .ok (.ldc2_w 307, 3) := by decide +kernel
theorem dX7_digestDay_38 : decode cX7_digestDay 38 = .ok (.lload 4, 2) := by decide +kernel
theorem dX7_digestDay_40 : decode cX7_digestDay 40 = .ok (.lmul, 1) := by decide +kernel
theorem dX7_digestDay_41 : decode cX7_digestDay 41 = .ok (.aload_n 0, 1) := by decide +kernel
theorem dX7_digestDay_42 : decode cX7_digestDay 42 = .ok (.iload_n 3, 1) := by decide +kernel
theorem dX7_digestDay_43 : decode cX7_digestDay 43 = .ok (.iconst (-1), 1) := by decide +kernel
theorem dX7_digestDay_44 : decode cX7_digestDay 44 = .ok (.invokevirtual 362, 3) := by decide +kernel
theorem dX7_digestDay_47 : decode cX7_digestDay 47 = .ok (.i2l, 1) := by decide +kernel
theorem dX7_digestDay_48 : decode cX7_digestDay 48 = .ok (.ladd, 1) := by decide +kernel
theorem dX7_digestDay_49 : decode cX7_digestDay 49 = .ok (.lstore 4, 2) := by decide +kernel
theorem dX7_digestDay_51 : decode cX7_digestDay 51 = .ok (.ldc2_w 307, 3) := by decide +kernel
theorem dX7_digestDay_54 : decode cX7_digestDay 54 = .ok (.lload 4, 2) := by decide +kernel
theorem dX7_digestDay_56 : decode cX7_digestDay 56 = .ok (.lmul, 1) := by decide +kernel
theorem dX7_digestDay_57 : decode cX7_digestDay 57 = .ok (.aload_n 0, 1) := by decide +kernel
theorem dX7_digestDay_58 : decode cX7_digestDay 58 = .ok (.iload_n 3, 1) := by decide +kernel
theorem dX7_digestDay_59 : decode cX7_digestDay 59 = .ok (.iconst 0, 1) := by decide +kernel
theorem dX7_digestDay_60 : decode cX7_digestDay 60 = .ok (.invokevirtual 362, 3) := by decide +kernel
theorem dX7_digestDay_63 : decode cX7_digestDay 63 = .ok (.i2l, 1) := by decide +kernel
theorem dX7_digestDay_64 : decode cX7_digestDay 64 = .ok (.ladd, 1) := by decide +kernel
theorem dX7_digestDay_65 : decode cX7_digestDay 65 = .ok (.lstore 4, 2) := by decide +kernel
theorem dX7_digestDay_67 : decode cX7_digestDay 67 = .ok (.ldc2_w 307, 3) := by decide +kernel
theorem dX7_digestDay_70 : decode cX7_digestDay 70 = .ok (.lload 4, 2) := by decide +kernel
theorem dX7_digestDay_72 : decode cX7_digestDay 72 = .ok (.lmul, 1) := by decide +kernel
theorem dX7_digestDay_73 : decode cX7_digestDay 73 = .ok (.aload_n 0, 1) := by decide +kernel
theorem dX7_digestDay_74 : decode cX7_digestDay 74 = .ok (.iload_n 3, 1) := by decide +kernel
theorem dX7_digestDay_75 : decode cX7_digestDay 75 = .ok (.iconst 0, 1) := by decide +kernel
theorem dX7_digestDay_76 : decode cX7_digestDay 76 = .ok (.invokevirtual 365, 3) := by decide +kernel
theorem dX7_digestDay_79 : decode cX7_digestDay 79 = .ok (.i2l, 1) := by decide +kernel
theorem dX7_digestDay_80 : decode cX7_digestDay 80 = .ok (.ladd, 1) := by decide +kernel
theorem dX7_digestDay_81 : decode cX7_digestDay 81 = .ok (.lstore 4, 2) := by decide +kernel
theorem dX7_digestDay_83 : decode cX7_digestDay 83 = .ok (.ldc2_w 307, 3) := by decide +kernel
theorem dX7_digestDay_86 : decode cX7_digestDay 86 = .ok (.lload 4, 2) := by decide +kernel
theorem dX7_digestDay_88 : decode cX7_digestDay 88 = .ok (.lmul, 1) := by decide +kernel
theorem dX7_digestDay_89 : decode cX7_digestDay 89 = .ok (.aload_n 0, 1) := by decide +kernel
theorem dX7_digestDay_90 : decode cX7_digestDay 90 = .ok (.iload_n 3, 1) := by decide +kernel
theorem dX7_digestDay_91 : decode cX7_digestDay 91 = .ok (.iconst 1, 1) := by decide +kernel
theorem dX7_digestDay_92 : decode cX7_digestDay 92 = .ok (.invokevirtual 365, 3) := by decide +kernel
theorem dX7_digestDay_95 : decode cX7_digestDay 95 = .ok (.i2l, 1) := by decide +kernel
theorem dX7_digestDay_96 : decode cX7_digestDay 96 = .ok (.ladd, 1) := by decide +kernel
theorem dX7_digestDay_97 : decode cX7_digestDay 97 = .ok (.lstore 4, 2) := by decide +kernel
theorem dX7_digestDay_99 : decode cX7_digestDay 99 = .ok (.ldc2_w 307, 3) := by decide +kernel
theorem dX7_digestDay_102 : decode cX7_digestDay 102 = .ok (.lload 4, 2) := by decide +kernel
theorem dX7_digestDay_104 : decode cX7_digestDay 104 = .ok (.lmul, 1) := by decide +kernel
theorem dX7_digestDay_105 : decode cX7_digestDay 105 = .ok (.aload_n 0, 1) := by decide +kernel
theorem dX7_digestDay_106 : decode cX7_digestDay 106 = .ok (.iload_n 3, 1) := by decide +kernel
theorem dX7_digestDay_107 : decode cX7_digestDay 107 = .ok (.invokevirtual 368, 3) := by decide +kernel
theorem dX7_digestDay_110 : decode cX7_digestDay 110 = .ok (.i2l, 1) := by decide +kernel
theorem dX7_digestDay_111 : decode cX7_digestDay 111 = .ok (.ladd, 1) := by decide +kernel
theorem dX7_digestDay_112 : decode cX7_digestDay 112 = .ok (.lreturn, 1) := by decide +kernel
theorem dX7_isBelow_0 : decode cX7_isBelow 0 = .ok (.iload_n 0, 1) := by decide +kernel
theorem dX7_isBelow_1 : decode cX7_isBelow 1 = .ok (.ifCond .lt 12, 3) := by decide +kernel
theorem dX7_isBelow_4 : decode cX7_isBelow 4 = .ok (.iload_n 0, 1) := by decide +kernel
theorem dX7_isBelow_5 : decode cX7_isBelow 5 = .ok (.iload_n 1, 1) := by decide +kernel
theorem dX7_isBelow_6 : decode cX7_isBelow 6 = .ok (.if_icmp .ge 7, 3) := by decide +kernel
theorem dX7_isBelow_9 : decode cX7_isBelow 9 = .ok (.iconst 1, 1) := by decide +kernel
theorem dX7_isBelow_10 : decode cX7_isBelow 10 = .ok (.goto 4, 3) := by decide +kernel
theorem dX7_isBelow_13 : decode cX7_isBelow 13 = .ok (.iconst 0, 1) := by decide +kernel
theorem dX7_isBelow_14 : decode cX7_isBelow 14 = .ok (.ireturn, 1) := by decide +kernel
theorem dX7_isHole_0 : decode cX7_isHole 0 = .ok (.iload_n 1, 1) := by decide +kernel
theorem dX7_isHole_1 : decode cX7_isHole 1 = .ok (.aload_n 0, 1) := by decide +kernel
theorem dX7_isHole_2 : decode cX7_isHole 2 = .ok (.getfield 16, 3) := by decide +kernel
theorem dX7_isHole_5 : decode cX7_isHole 5 = .ok (.getfield 190, 3) := by decide +kernel
theorem dX7_isHole_8 : decode cX7_isHole 8 = .ok (.invokestatic 83, 3) := by decide +kernel
theorem dX7_isHole_11 : decode cX7_isHole 11 = .ok (.ireturn, 1) := by decide +kernel
theorem dX7_isWork_0 : decode cX7_isWork 0 = .ok (.iload_n 1, 1) := by decide +kernel
theorem dX7_isWork_1 : decode cX7_isWork 1 = .ok (.aload_n 0, 1) := by decide +kernel
theorem dX7_isWork_2 : decode cX7_isWork 2 = .ok (.getfield 22, 3) := by decide +kernel
theorem dX7_isWork_5 : decode cX7_isWork 5 = .ok (.getfield 190, 3) := by decide +kernel
theorem dX7_isWork_8 : decode cX7_isWork 8 = .ok (.invokestatic 83, 3) := by decide +kernel
theorem dX7_isWork_11 : decode cX7_isWork 11 = .ok (.ireturn, 1) := by decide +kernel
theorem dX7_mayBeLoan_0 : decode cX7_mayBeLoan 0 = .ok (.iload_n 0, 1) := by decide +kernel
theorem dX7_mayBeLoan_1 : decode cX7_mayBeLoan 1 = .ok (.bipush 40, 2) := by decide +kernel
theorem dX7_mayBeLoan_3 : decode cX7_mayBeLoan 3 = .ok (.invokestatic 83, 3) := by decide +kernel
theorem dX7_mayBeLoan_6 : decode cX7_mayBeLoan 6 = .ok (.ifCond .eq 36, 3) := by decide +kernel
theorem dX7_mayBeLoan_9 : decode cX7_mayBeLoan 9 = .ok (.iload_n 1, 1) := by decide +kernel
theorem dX7_mayBeLoan_10 : decode cX7_mayBeLoan 10 = .ok (.bipush 8, 2) := by decide +kernel
theorem dX7_mayBeLoan_12 : decode cX7_mayBeLoan 12 = .ok (.invokestatic 83, 3) := by decide +kernel
theorem dX7_mayBeLoan_15 : decode cX7_mayBeLoan 15 = .ok (.ifCond .eq 27, 3) := by decide +kernel
theorem dX7_mayBeLoan_18 : decode cX7_mayBeLoan 18 = .ok (.iload_n 2, 1) := by decide +kernel
theorem dX7_mayBeLoan_19 : decode cX7_mayBeLoan 19 = .ok (.bipush 6, 2) := by decide +kernel
theorem dX7_mayBeLoan_21 : decode cX7_mayBeLoan 21 = .ok (.invokestatic 83, 3) := by decide +kernel
theorem dX7_mayBeLoan_24 : decode cX7_mayBeLoan 24 = .ok (.ifCond .eq 18, 3) := by decide +kernel
theorem dX7_mayBeLoan_27 : decode cX7_mayBeLoan 27 = .ok (.iload_n 3, 1) := by decide +kernel
theorem dX7_mayBeLoan_28 : decode cX7_mayBeLoan 28 = .ok (.iconst 1, 1) := by decide +kernel
theorem dX7_mayBeLoan_29 : decode cX7_mayBeLoan 29 = .ok (.if_icmp .lt 13, 3) := by decide +kernel
theorem dX7_mayBeLoan_32 : decode cX7_mayBeLoan 32 = .ok (.iload_n 3, 1) := by decide +kernel
theorem dX7_mayBeLoan_33 : decode cX7_mayBeLoan 33 = .ok (.bipush 9, 2) := by decide +kernel
theorem dX7_mayBeLoan_35 : decode cX7_mayBeLoan 35 = .ok (.if_icmp .gt 7, 3) := by decide +kernel
theorem dX7_mayBeLoan_38 : decode cX7_mayBeLoan 38 = .ok (.iconst 1, 1) := by decide +kernel
theorem dX7_mayBeLoan_39 : decode cX7_mayBeLoan 39 = .ok (.goto 4, 3) := by decide +kernel
theorem dX7_mayBeLoan_42 : decode cX7_mayBeLoan 42 = .ok (.iconst 0, 1) := by decide +kernel
theorem dX7_mayBeLoan_43 : decode cX7_mayBeLoan 43 = .ok (.ireturn, 1) := by decide +kernel
theorem dX7_tell_0 : decode cX7_tell 0 = .ok (.iload_n 2, 1) := by decide +kernel
theorem dX7_tell_1 : decode cX7_tell 1 = .ok (.bipush 40, 2) := by decide +kernel
theorem dX7_tell_3 : decode cX7_tell 3 = .ok (.invokestatic 83, 3) := by decide +kernel
theorem dX7_tell_6 : decode cX7_tell 6 = .ok (.ifCond .eq 12, 3) := by decide +kernel
theorem dX7_tell_9 : decode cX7_tell 9 = .ok (.iload_n 3, 1) := by decide +kernel
theorem dX7_tell_10 : decode cX7_tell 10 = .ok (.bipush 8, 2) := by decide +kernel
theorem dX7_tell_12 : decode cX7_tell 12 = .ok (.invokestatic 83, 3) := by decide +kernel
theorem dX7_tell_15 : decode cX7_tell 15 = .ok (.ifCond .ne 6, 3) := by decide +kernel
theorem dX7_tell_18 : decode cX7_tell 18 = .ok (.bipush (-2), 2) := by decide +kernel
theorem dX7_tell_20 : decode cX7_tell 20 = .ok (.ireturn, 1) := by decide +kernel
theorem dX7_tell_21 : decode cX7_tell 21 = .ok (.aload_n 1, 1) := by decide +kernel
theorem dX7_tell_22 : decode cX7_tell 22 = .ok (.invokevirtual 122, 3) := by decide +kernel
theorem dX7_tell_25 : decode cX7_tell 25 = .ok (.ifCond .eq 6, 3) := by decide +kernel
theorem dX7_tell_28 : decode cX7_tell 28 = .ok (.bipush (-4), 2) := by decide +kernel
theorem dX7_tell_30 : decode cX7_tell 30 = .ok (.ireturn, 1) := by decide +kernel
theorem dX7_tell_31 : decode cX7_tell 31 = .ok (.aload_n 0, 1) := by decide +kernel
theorem dX7_tell_32 : decode cX7_tell 32 = .ok (.iconst 1, 1) := by decide +kernel
theorem dX7_tell_33 : decode cX7_tell 33 = .ok (.putfield 48, 3) := by decide +kernel
theorem dX7_tell_36 : decode cX7_tell 36 = .ok (.aload_n 1, 1) := by decide +kernel
theorem dX7_tell_37 : decode cX7_tell 37 = .ok (.iload_n 2, 1) := by decide +kernel
theorem dX7_tell_38 : decode cX7_tell 38 = .ok (.iload_n 3, 1) := by decide +kernel
theorem dX7_tell_39 : decode cX7_tell 39 = .ok (.iconst 0, 1) := by decide +kernel
theorem dX7_tell_40 : decode cX7_tell 40 = .ok (.iconst 0, 1) := by decide +kernel
theorem dX7_tell_41 : decode cX7_tell 41 = .ok (.invokevirtual 126, 3) := by decide +kernel
theorem dX7_tell_44 : decode cX7_tell 44 = .ok (.ireturn, 1) := by decide +kernel
theorem dX7_textOf_0 : decode cX7_textOf 0 = .ok (.iload_n 1, 1) := by decide +kernel
theorem dX7_textOf_1 : decode cX7_textOf 1 = .ok (.ifCond .ne 10, 3) := by decide +kernel
theorem dX7_textOf_4 : decode cX7_textOf 4 = .ok (.aload_n 0, 1) := by decide +kernel
theorem dX7_textOf_5 : decode cX7_textOf 5 = .ok (.getfield 16, 3) := by decide +kernel
theorem dX7_textOf_8 : decode cX7_textOf 8 = .ok (.goto 7, 3) := by decide +kernel
theorem dX7_textOf_11 : decode cX7_textOf 11 = .ok (.aload_n 0, 1) := by decide +kernel
theorem dX7_textOf_12 : decode cX7_textOf 12 = .ok (.getfield 22, 3) := by decide +kernel
theorem dX7_textOf_15 : decode cX7_textOf 15 = .ok (.areturn, 1) := by decide +kernel
theorem dX7_found_0 : decode cX7_found 0 = .ok (.aload_n 0, 1) := by decide +kernel
theorem dX7_found_1 : decode cX7_found 1 = .ok (.iload_n 1, 1) := by decide +kernel
theorem dX7_found_2 : decode cX7_found 2 = .ok (.putfield 79, 3) := by decide +kernel
theorem dX7_found_5 : decode cX7_found 5 = .ok (.bipush (-10), 2) := by decide +kernel
theorem dX7_found_7 : decode cX7_found 7 = .ok (.iload_n 1, 1) := by decide +kernel
theorem dX7_found_8 : decode cX7_found 8 = .ok (.isub, 1) := by decide +kernel
theorem dX7_found_9 : decode cX7_found 9 = .ok (.ireturn, 1) := by decide +kernel
theorem dX7_toldCourse_0 : decode cX7_toldCourse 0 = .ok (.aload_n 0, 1) := by decide +kernel
theorem dX7_toldCourse_1 : decode cX7_toldCourse 1 = .ok (.getfield 48, 3) := by decide +kernel
theorem dX7_toldCourse_4 : decode cX7_toldCourse 4 = .ok (.ifCond .eq 25, 3) := by decide +kernel
theorem dX7_toldCourse_7 : decode cX7_toldCourse 7 = .ok (.aload_n 0, 1) := by decide +kernel
theorem dX7_toldCourse_8 : decode cX7_toldCourse 8 = .ok (.getfield 44, 3) := by decide +kernel
theorem dX7_toldCourse_11 : decode cX7_toldCourse 11 = .ok (.aload_n 0, 1) := by decide +kernel
theorem dX7_toldCourse_12 : decode cX7_toldCourse 12 = .ok (.getfield 16, 3) := by decide +kernel
theorem dX7_toldCourse_15 : decode cX7_toldCourse 15 = .ok (.aload_n 0, 1) := by decide +kernel
theorem dX7_toldCourse_16 : decode cX7_toldCourse 16 = .ok (.getfield 30, 3) := by decide +kernel
theorem dX7_toldCourse_19 : decode cX7_toldCourse 19 = .ok (.bipush 39, 2) := by decide +kernel
theorem dX7_toldCourse_21 : decode cX7_toldCourse 21 = .ok (.invokevirtual 267, 3) := by decide +kernel
theorem dX7_toldCourse_24 : decode cX7_toldCourse 24 = .ok (.aload_n 0, 1) := by decide +kernel
theorem dX7_toldCourse_25 : decode cX7_toldCourse 25 = .ok (.iconst 0, 1) := by decide +kernel
theorem dX7_toldCourse_26 : decode cX7_toldCourse 26 = .ok (.putfield 48, 3) := by decide +kernel
theorem dX7_toldCourse_29 : decode cX7_toldCourse 29 = .ok (.aload_n 0, 1) := by decide +kernel
theorem dX7_toldCourse_30 : decode cX7_toldCourse 30 = .ok (.getfield 44, 3) := by decide +kernel
theorem dX7_toldCourse_33 : decode cX7_toldCourse 33 = .ok (.areturn, 1) := by decide +kernel
theorem dX7_courseWithoutLoan_0 : decode cX7_courseWithoutLoan 0 = .ok (.aload_n 0, 1) := by decide +kernel
theorem dX7_courseWithoutLoan_1 : decode cX7_courseWithoutLoan 1 = .ok (.getfield 52, 3) := by decide +kernel
theorem dX7_courseWithoutLoan_4 : decode cX7_courseWithoutLoan 4 = .ok (.aload_n 0, 1) := by decide +kernel
theorem dX7_courseWithoutLoan_5 : decode cX7_courseWithoutLoan 5 = .ok (.getfield 30, 3) := by decide +kernel
theorem dX7_courseWithoutLoan_8 : decode cX7_courseWithoutLoan 8 = .ok (.invokevirtual 257, 3) := by decide +kernel
theorem dX7_courseWithoutLoan_11 : decode cX7_courseWithoutLoan 11 = .ok (.aload_n 0, 1) := by decide +kernel
theorem dX7_courseWithoutLoan_12 : decode cX7_courseWithoutLoan 12 = .ok (.getfield 52, 3) := by decide +kernel
theorem dX7_courseWithoutLoan_15 : decode cX7_courseWithoutLoan 15 = .ok (.getfield 119, 3) := by decide +kernel
theorem dX7_courseWithoutLoan_18 : decode cX7_courseWithoutLoan 18 = .ok (.iload_n 1, 1) := by decide +kernel
theorem dX7_courseWithoutLoan_19 : decode cX7_courseWithoutLoan 19 = .ok (.invokevirtual 143, 3) := by decide +kernel
theorem dX7_courseWithoutLoan_22 : decode cX7_courseWithoutLoan 22 = .ok (.pop, 1) := by decide +kernel
theorem dX7_courseWithoutLoan_23 : decode cX7_courseWithoutLoan 23 = .ok (.aload_n 0, 1) := by decide +kernel
theorem dX7_courseWithoutLoan_24 : decode cX7_courseWithoutLoan 24 = .ok (.getfield 55, 3) := by decide +kernel
theorem dX7_courseWithoutLoan_27 : decode cX7_courseWithoutLoan 27 = .ok (.aload_n 0, 1) := by decide +kernel
theorem dX7_courseWithoutLoan_28 : decode cX7_courseWithoutLoan 28 = .ok (.getfield 16, 3) := by decide +kernel
theorem dX7_courseWithoutLoan_31 : decode cX7_courseWithoutLoan 31 = .ok (.aload_n 0, 1) := by decide +kernel
theorem dX7_courseWithoutLoan_32 : decode cX7_courseWithoutLoan 32 = .ok (.getfield 52, 3) := by decide +kernel
theorem dX7_courseWithoutLoan_35 : decode cX7_courseWithoutLoan 35 = .ok (.iload_n 2, 1) := by decide +kernel
theorem dX7_courseWithoutLoan_36 : decode cX7_courseWithoutLoan 36 = .ok (.invokevirtual 267, 3) := by decide +kernel
theorem dX7_courseWithoutLoan_39 : decode cX7_courseWithoutLoan 39 = .ok (.aload_n 0, 1) := by decide +kernel
theorem dX7_courseWithoutLoan_40 : decode cX7_courseWithoutLoan 40 = .ok (.getfield 55, 3) := by decide +kernel
theorem dX7_courseWithoutLoan_43 : decode cX7_courseWithoutLoan 43 = .ok (.areturn, 1) := by decide +kernel
theorem dX7_courseWithoutPatch_0 : decode cX7_courseWithoutPatch 0 = .ok (.aload_n 0, 1) := by decide +kernel
theorem dX7_courseWithoutPatch_1 : decode cX7_courseWithoutPatch 1 = .ok (.getfield 52, 3) := by decide +kernel
theorem dX7_courseWithoutPatch_4 : decode cX7_courseWithoutPatch 4 = .ok (.aload_n 0, 1) := by decide +kernel
theorem dX7_courseWithoutPatch_5 : decode cX7_courseWithoutPatch 5 = .ok (.getfield 30, 3) := by decide +kernel
theorem dX7_courseWithoutPatch_8 : decode cX7_courseWithoutPatch 8 = .ok (.invokevirtual 257, 3) := by decide +kernel
theorem dX7_courseWithoutPatch_11 : decode cX7_courseWithoutPatch 11 = .ok (.aload_n 0, 1) := by decide +kernel
theorem dX7_courseWithoutPatch_12 : decode cX7_courseWithoutPatch 12 = .ok (.getfield 52, 3) := by decide +kernel
theorem dX7_courseWithoutPatch_15 : decode cX7_courseWithoutPatch 15 = .ok (.getfield 137, 3) := by decide +kernel
theorem dX7_courseWithoutPatch_18 : decode cX7_courseWithoutPatch 18 = .ok (.iload_n 1, 1) := by decide +kernel
theorem dX7_courseWithoutPatch_19 : decode cX7_courseWithoutPatch 19 = .ok (.invokevirtual 143, 3) := by decide +kernel
theorem dX7_courseWithoutPatch_22 : decode cX7_courseWithoutPatch 22 = .ok (.pop, 1) := by decide +kernel
theorem dX7_courseWithoutPatch_23 : decode cX7_courseWithoutPatch 23 = .ok (.aload_n 0, 1) := by decide +kernel
theorem dX7_courseWithoutPatch_24 : decode cX7_courseWithoutPatch 24 = .ok (.getfield 55, 3) := by decide +kernel
theorem dX7_courseWithoutPatch_27 : decode cX7_courseWithoutPatch 27 = .ok (.aload_n 0, 1) := by decide +kernel
theorem dX7_courseWithoutPatch_28 : decode cX7_courseWithoutPatch 28 = .ok (.getfield 16, 3) := by decide +kernel
theorem dX7_courseWithoutPatch_31 : decode cX7_courseWithoutPatch 31 = .ok (.aload_n 0, 1) := by decide +kernel
theorem dX7_courseWithoutPatch_32 : decode cX7_courseWithoutPatch 32 = .ok (.getfield 52, 3) := by decide +kernel
theorem dX7_courseWithoutPatch_35 : decode cX7_courseWithoutPatch 35 = .ok (.iload_n 2, 1) := by decide +kernel
theorem dX7_courseWithoutPatch_36 : decode cX7_courseWithoutPatch 36 = .ok (.invokevirtual 267, 3) := by decide +kernel
theorem dX7_courseWithoutPatch_39 : decode cX7_courseWithoutPatch 39 = .ok (.aload_n 0, 1) := by decide +kernel
theorem dX7_courseWithoutPatch_40 : decode cX7_courseWithoutPatch 40 = .ok (.getfield 55, 3) := by decide +kernel
theorem dX7_courseWithoutPatch_43 : decode cX7_courseWithoutPatch 43 = .ok (.areturn, 1) := by decide +kernel
theorem dX7_suits_0 : decode cX7_suits 0 = .ok (.aload_n 0, 1) := by decide +kernel
theorem dX7_suits_1 : decode cX7_suits 1 = .ok (.getfield 22, 3) := by decide +kernel
theorem dX7_suits_4 : decode cX7_suits 4 = .ok (.iload_n 1, 1) := by decide +kernel
theorem dX7_suits_5 : decode cX7_suits 5 = .ok (.iconst 0, 1) := by decide +kernel
theorem dX7_suits_6 : decode cX7_suits 6 = .ok (.invokevirtual 108, 3) := by decide +kernel
theorem dX7_suits_9 : decode cX7_suits 9 = .ok (.istore 5, 2) := by decide +kernel
theorem dX7_suits_11 : decode cX7_suits 11 = .ok (.aload_n 0, 1) := by decide +kernel
theorem dX7_suits_12 : decode cX7_suits 12 = .ok (.getfield 22, 3) := by decide +kernel
theorem dX7_suits_15 : decode cX7_suits 15 = .ok (.iload_n 1, 1) := by decide +kernel
theorem dX7_suits_16 : decode cX7_suits 16 = .ok (.iconst 1, 1) := by decide +kernel
theorem dX7_suits_17 : decode cX7_suits 17 = .ok (.invokevirtual 108, 3) := by decide +kernel
theorem dX7_suits_20 : decode cX7_suits 20 = .ok (.istore 6, 2) := by decide +kernel
theorem dX7_suits_22 : decode cX7_suits 22 = .ok (.iload 5, 2) := by decide +kernel
theorem dX7_suits_24 : decode cX7_suits 24 = .ok (.iconst 3, 1) := by decide +kernel
theorem dX7_suits_25 : decode cX7_suits 25 = .ok (.if_icmp .eq 17, 3) := by decide +kernel
theorem dX7_suits_28 : decode cX7_suits 28 = .ok (.iload 5, 2) := by decide +kernel
theorem dX7_suits_30 : decode cX7_suits 30 = .ok (.aload_n 0, 1) := by decide +kernel
theorem dX7_suits_31 : decode cX7_suits 31 = .ok (.getfield 16, 3) := by decide +kernel
theorem dX7_suits_34 : decode cX7_suits 34 = .ok (.iload_n 2, 1) := by decide +kernel
theorem dX7_suits_35 : decode cX7_suits 35 = .ok (.iconst 0, 1) := by decide +kernel
theorem dX7_suits_36 : decode cX7_suits 36 = .ok (.invokevirtual 108, 3) := by decide +kernel
theorem dX7_suits_39 : decode cX7_suits 39 = .ok (.if_icmp .ne 38, 3) := by decide +kernel
theorem dX7_suits_42 : decode cX7_suits 42 = .ok (.iload_n 3, 1) := by decide +kernel
theorem dX7_suits_43 : decode cX7_suits 43 = .ok (.iload 6, 2) := by decide +kernel
theorem dX7_suits_45 : decode cX7_suits 45 = .ok (.if_icmp .lt 32, 3) := by decide +kernel
theorem dX7_suits_48 : decode cX7_suits 48 = .ok (.iload_n 3, 1) := by decide +kernel
theorem dX7_suits_49 : decode cX7_suits 49 = .ok (.iload 6, 2) := by decide +kernel
theorem dX7_suits_51 : decode cX7_suits 51 = .ok (.aload_n 0, 1) := by decide +kernel
theorem dX7_suits_52 : decode cX7_suits 52 = .ok (.getfield 75, 3) := by decide +kernel
theorem dX7_suits_55 : decode cX7_suits 55 = .ok (.iadd, 1) := by decide +kernel
theorem dX7_suits_56 : decode cX7_suits 56 = .ok (.if_icmp .gt 21, 3) := by decide +kernel
theorem dX7_suits_59 : decode cX7_suits 59 = .ok (.iload 4, 2) := by decide +kernel
theorem dX7_suits_61 : decode cX7_suits 61 = .ok (.aload_n 0, 1) := by decide +kernel
theorem dX7_suits_62 : decode cX7_suits 62 = .ok (.getfield 22, 3) := by decide +kernel
theorem dX7_suits_65 : decode cX7_suits 65 = .ok (.iload_n 1, 1) := by decide +kernel
theorem dX7_suits_66 : decode cX7_suits 66 = .ok (.iconst 2, 1) := by decide +kernel
theorem dX7_suits_67 : decode cX7_suits 67 = .ok (.invokevirtual 108, 3) := by decide +kernel
theorem dX7_suits_70 : decode cX7_suits 70 = .ok (.if_icmp .lt 7, 3) := by decide +kernel
theorem dX7_suits_73 : decode cX7_suits 73 = .ok (.iconst 1, 1) := by decide +kernel
theorem dX7_suits_74 : decode cX7_suits 74 = .ok (.goto 4, 3) := by decide +kernel
theorem dX7_suits_77 : decode cX7_suits 77 = .ok (.iconst 0, 1) := by decide +kernel
theorem dX7_suits_78 : decode cX7_suits 78 = .ok (.ireturn, 1) := by decide +kernel
theorem dX7_mostWorth_0 : decode cX7_mostWorth 0 = .ok (.aload_n 0, 1) := by decide +kernel
theorem dX7_mostWorth_1 : decode cX7_mostWorth 1 = .ok (.getfield 61, 3) := by decide +kernel
theorem dX7_mostWorth_4 : decode cX7_mostWorth 4 = .ok (.aload_n 0, 1) := by decide +kernel
theorem dX7_mostWorth_5 : decode cX7_mostWorth 5 = .ok (.getfield 22, 3) := by decide +kernel
theorem dX7_mostWorth_8 : decode cX7_mostWorth 8 = .ok (.getfield 190, 3) := by decide +kernel
theorem dX7_mostWorth_11 : decode cX7_mostWorth 11 = .ok (.invokevirtual 371, 3) := by decide +kernel
theorem dX7_mostWorth_14 : decode cX7_mostWorth 14 = .ok (.iconst 0, 1) := by decide +kernel
theorem dX7_mostWorth_15 : decode cX7_mostWorth 15 = .ok (.istore_n 3, 1) := by decide +kernel
theorem dX7_mostWorth_16 : decode cX7_mostWorth 16 = .ok (.iload_n 3, 1) := by decide +kernel
theorem dX7_mostWorth_17 : decode cX7_mostWorth 17 = .ok (.aload_n 0, 1) := by decide +kernel
theorem dX7_mostWorth_18 : decode cX7_mostWorth 18 = .ok (.getfield 22, 3) := by decide +kernel
theorem dX7_mostWorth_21 : decode cX7_mostWorth 21 = .ok (.getfield 190, 3) := by decide +kernel
theorem dX7_mostWorth_24 : decode cX7_mostWorth 24 = .ok (.if_icmp .ge 96, 3) := by decide +kernel
theorem dX7_mostWorth_27 : decode cX7_mostWorth 27 = .ok (.iconst 0, 1) := by decide +kernel
theorem dX7_mostWorth_28 : decode cX7_mostWorth 28 = .ok (.istore 4, 2) := by decide +kernel
theorem dX7_mostWorth_30 : decode cX7_mostWorth 30 = .ok (.iconst 0, 1) := by decide +kernel
theorem dX7_mostWorth_31 : decode cX7_mostWorth 31 = .ok (.istore 5, 2) := by decide +kernel
theorem dX7_mostWorth_33 : decode cX7_mostWorth 33 = .ok (.iload 5, 2) := by decide +kernel
theorem dX7_mostWorth_35 : decode cX7_mostWorth 35 = .ok (.aload_n 0, 1) := by decide +kernel
theorem dX7_mostWorth_36 : decode cX7_mostWorth 36 = .ok (.getfield 16, 3) := by decide +kernel
theorem dX7_mostWorth_39 : decode cX7_mostWorth 39 = .ok (.getfield 190, 3) := by decide +kernel
theorem dX7_mostWorth_42 : decode cX7_mostWorth 42 = .ok (.if_icmp .ge 53, 3) := by decide +kernel
theorem dX7_mostWorth_45 : decode cX7_mostWorth 45 = .ok (.aload_n 1, 1) := by decide +kernel
theorem dX7_mostWorth_46 : decode cX7_mostWorth 46 = .ok (.iload_n 2, 1) := by decide +kernel
theorem dX7_mostWorth_47 : decode cX7_mostWorth 47 = .ok (.iload 5, 2) := by decide +kernel
theorem dX7_mostWorth_49 : decode cX7_mostWorth 49 = .ok (.invokevirtual 169, 3) := by decide +kernel
theorem dX7_mostWorth_52 : decode cX7_mostWorth 52 = .ok (.iconst (-1), 1) := by decide +kernel
theorem dX7_mostWorth_53 : decode cX7_mostWorth 53 = .ok (.if_icmp .ne 36, 3) := by decide +kernel
theorem dX7_mostWorth_56 : decode cX7_mostWorth 56 = .ok (.aload_n 0, 1) := by decide +kernel
theorem dX7_mostWorth_57 : decode cX7_mostWorth 57 = .ok (.iload_n 3, 1) := by decide +kernel
theorem dX7_mostWorth_58 : decode cX7_mostWorth 58 = .ok (.iload 5, 2) := by decide +kernel
theorem dX7_mostWorth_60 : decode cX7_mostWorth 60 = .ok (.aload_n 1, 1) := by decide +kernel
theorem dX7_mostWorth_61 : decode cX7_mostWorth 61 = .ok (.iload_n 2, 1) := by decide +kernel
theorem dX7_mostWorth_62 : decode cX7_mostWorth 62 = .ok (.iload 5, 2) := by decide +kernel
theorem dX7_mostWorth_64 : decode cX7_mostWorth 64 = .ok (.invokevirtual 163, 3) := by decide +kernel
theorem dX7_mostWorth_67 : decode cX7_mostWorth 67 = .ok (.aload_n 1, 1) := by decide +kernel
theorem dX7_mostWorth_68 : decode cX7_mostWorth 68 = .ok (.iload_n 2, 1) := by decide +kernel
theorem dX7_mostWorth_69 : decode cX7_mostWorth 69 = .ok (.iload 5, 2) := by decide +kernel
theorem dX7_mostWorth_71 : decode cX7_mostWorth 71 = .ok (.invokevirtual 166, 3) := by decide +kernel
theorem dX7_mostWorth_74 : decode cX7_mostWorth 74 = .ok (.invokevirtual 193, 3) := by decide +kernel
theorem dX7_mostWorth_77 : decode cX7_mostWorth 77 = .ok (.ifCond .eq 12, 3) := by decide +kernel
theorem dX7_mostWorth_80 : decode cX7_mostWorth 80 = .ok (.iload 4, 2) := by decide +kernel
theorem dX7_mostWorth_82 : decode cX7_mostWorth 82 = .ok (.iconst 1, 1) := by decide +kernel
theorem dX7_mostWorth_83 : decode cX7_mostWorth 83 = .ok (.iload 5, 2) := by decide +kernel
theorem dX7_mostWorth_85 : decode cX7_mostWorth 85 = .ok (.ishl, 1) := by decide +kernel
theorem dX7_mostWorth_86 : decode cX7_mostWorth 86 = .ok (.ior, 1) := by decide +kernel
theorem dX7_mostWorth_87 : decode cX7_mostWorth 87 = .ok (.istore 4, 2) := by decide +kernel
theorem dX7_mostWorth_89 : decode cX7_mostWorth 89 = .ok (.iinc 5 1, 3) := by decide +kernel
theorem dX7_mostWorth_92 : decode cX7_mostWorth 92 = .ok (.goto (-59), 3) := by decide +kernel
theorem dX7_mostWorth_95 : decode cX7_mostWorth 95 = .ok (.aload_n 0, 1) := by decide +kernel
theorem dX7_mostWorth_96 : decode cX7_mostWorth 96 = .ok (.getfield 61, 3) := by decide +kernel
theorem dX7_mostWorth_99 : decode cX7_mostWorth 99 = .ok (.iload_n 3, 1) := by decide +kernel
theorem dX7_mostWorth_100 : decode cX7_mostWorth 100 = .ok (.aload_n 0, 1) := by decide +kernel
theorem dX7_mostWorth_101 : decode cX7_mostWorth 101 = .ok (.getfield 22, 3) := by decide +kernel
theorem dX7_mostWorth_104 : decode cX7_mostWorth 104 = .ok (.iload_n 3, 1) := by decide +kernel
theorem dX7_mostWorth_105 : decode cX7_mostWorth 105 = .ok (.iconst 3, 1) := by decide +kernel
theorem dX7_mostWorth_106 : decode cX7_mostWorth 106 = .ok (.invokevirtual 108, 3) := by decide +kernel
theorem dX7_mostWorth_109 : decode cX7_mostWorth 109 = .ok (.iload 4, 2) := by decide +kernel
theorem dX7_mostWorth_111 : decode cX7_mostWorth 111 = .ok (.invokevirtual 373, 3) := by decide +kernel
theorem dX7_mostWorth_114 : decode cX7_mostWorth 114 = .ok (.iinc 3 1, 3) := by decide +kernel
theorem dX7_mostWorth_117 : decode cX7_mostWorth 117 = .ok (.goto (-101), 3) := by decide +kernel
theorem dX7_mostWorth_120 : decode cX7_mostWorth 120 = .ok (.aload_n 0, 1) := by decide +kernel
theorem dX7_mostWorth_121 : decode cX7_mostWorth 121 = .ok (.getfield 61, 3) := by decide +kernel
theorem dX7_mostWorth_124 : decode cX7_mostWorth 124 = .ok (.invokevirtual 377, 3) := by decide +kernel
theorem dX7_mostWorth_127 : decode cX7_mostWorth 127 = .ok (.ireturn, 1) := by decide +kernel
theorem dX7_holeMendedBy_0 : decode cX7_holeMendedBy 0 = .ok (.iconst 0, 1) := by decide +kernel
theorem dX7_holeMendedBy_1 : decode cX7_holeMendedBy 1 = .ok (.istore 5, 2) := by decide +kernel
theorem dX7_holeMendedBy_3 : decode cX7_holeMendedBy 3 = .ok (.iload 5, 2) := by decide +kernel
theorem dX7_holeMendedBy_5 : decode cX7_holeMendedBy 5 = .ok (.aload_n 0, 1) := by decide +kernel
theorem dX7_holeMendedBy_6 : decode cX7_holeMendedBy 6 = .ok (.getfield 16, 3) := by decide +kernel
theorem dX7_holeMendedBy_9 : decode cX7_holeMendedBy 9 = .ok (.getfield 190, 3) := by decide +kernel
theorem dX7_holeMendedBy_12 : decode cX7_holeMendedBy 12 = .ok (.if_icmp .ge 75, 3) := by decide +kernel
theorem dX7_holeMendedBy_15 : decode cX7_holeMendedBy 15 = .ok (.aload_n 1, 1) := by decide +kernel
theorem dX7_holeMendedBy_16 : decode cX7_holeMendedBy 16 = .ok (.iload_n 3, 1) := by decide +kernel
theorem dX7_holeMendedBy_17 : decode cX7_holeMendedBy 17 = .ok (.iload 5, 2) := by decide +kernel
theorem dX7_holeMendedBy_19 : decode cX7_holeMendedBy 19 = .ok (.invokevirtual 169, 3) := by decide +kernel
theorem dX7_holeMendedBy_22 : decode cX7_holeMendedBy 22 = .ok (.iconst (-1), 1) := by decide +kernel
theorem dX7_holeMendedBy_23 : decode cX7_holeMendedBy 23 = .ok (.if_icmp .eq 6, 3) := by decide +kernel
theorem dX7_holeMendedBy_26 : decode cX7_holeMendedBy 26 = .ok (.goto 55, 3) := by decide +kernel
theorem dX7_holeMendedBy_29 : decode cX7_holeMendedBy 29 = .ok (.aload_n 1, 1) := by decide +kernel
theorem dX7_holeMendedBy_30 : decode cX7_holeMendedBy 30 = .ok (.iload_n 3, 1) := by decide +kernel
theorem dX7_holeMendedBy_31 : decode cX7_holeMendedBy 31 = .ok (.iload 5, 2) := by decide +kernel
theorem dX7_holeMendedBy_33 : decode cX7_holeMendedBy 33 = .ok (.invokevirtual 163, 3) := by decide +kernel
theorem dX7_holeMendedBy_36 : decode cX7_holeMendedBy 36 = .ok (.istore 6, 2) := by decide +kernel
theorem dX7_holeMendedBy_38 : decode cX7_holeMendedBy 38 = .ok (.aload_n 1, 1) := by decide +kernel
theorem dX7_holeMendedBy_39 : decode cX7_holeMendedBy 39 = .ok (.iload_n 3, 1) := by decide +kernel
theorem dX7_holeMendedBy_40 : decode cX7_holeMendedBy 40 = .ok (.iload 5, 2) := by decide +kernel
theorem dX7_holeMendedBy_42 : decode cX7_holeMendedBy 42 = .ok (.invokevirtual 380, 3) := by decide +kernel
theorem dX7_holeMendedBy_45 : decode cX7_holeMendedBy 45 = .ok (.ifCond .eq 14, 3) := by decide +kernel
theorem dX7_holeMendedBy_48 : decode cX7_holeMendedBy 48 = .ok (.iconst 1, 1) := by decide +kernel
theorem dX7_holeMendedBy_49 : decode cX7_holeMendedBy 49 = .ok (.iload 6, 2) := by decide +kernel
theorem dX7_holeMendedBy_51 : decode cX7_holeMendedBy 51 = .ok (.iload 4, 2) := by decide +kernel
theorem dX7_holeMendedBy_53 : decode cX7_holeMendedBy 53 = .ok (.isub, 1) := by decide +kernel
theorem dX7_holeMendedBy_54 : decode cX7_holeMendedBy 54 = .ok (.invokestatic 235, 3) := by decide +kernel
theorem dX7_holeMendedBy_57 : decode cX7_holeMendedBy 57 = .ok (.istore 6, 2) := by decide +kernel
theorem dX7_holeMendedBy_59 : decode cX7_holeMendedBy 59 = .ok (.aload_n 0, 1) := by decide +kernel
theorem dX7_holeMendedBy_60 : decode cX7_holeMendedBy 60 = .ok (.iload_n 2, 1) := by decide +kernel
theorem dX7_holeMendedBy_61 : decode cX7_holeMendedBy 61 = .ok (.iload 5, 2) := by decide +kernel
theorem dX7_holeMendedBy_63 : decode cX7_holeMendedBy 63 = .ok (.iload 6, 2) := by decide +kernel
theorem dX7_holeMendedBy_65 : decode cX7_holeMendedBy 65 = .ok (.aload_n 1, 1) := by decide +kernel
theorem dX7_holeMendedBy_66 : decode cX7_holeMendedBy 66 = .ok (.iload_n 3, 1) := by decide +kernel
theorem dX7_holeMendedBy_67 : decode cX7_holeMendedBy 67 = .ok (.iload 5, 2) := by decide +kernel
theorem dX7_holeMendedBy_69 : decode cX7_holeMendedBy 69 = .ok (.invokevirtual 166, 3) := by decide +kernel
theorem dX7_holeMendedBy_72 : decode cX7_holeMendedBy 72 = .ok (.invokevirtual 193, 3) := by decide +kernel
theorem dX7_holeMendedBy_75 : decode cX7_holeMendedBy 75 = .ok (.ifCond .eq 6, 3) := by decide +kernel
theorem dX7_holeMendedBy_78 : decode cX7_holeMendedBy 78 = .ok (.iload 5, 2) := by decide +kernel
theorem dX7_holeMendedBy_80 : decode cX7_holeMendedBy 80 = .ok (.ireturn, 1) := by decide +kernel
theorem dX7_holeMendedBy_81 : decode cX7_holeMendedBy 81 = .ok (.iinc 5 1, 3) := by decide +kernel
theorem dX7_holeMendedBy_84 : decode cX7_holeMendedBy 84 = .ok (.goto (-81), 3) := by decide +kernel
theorem dX7_holeMendedBy_87 : decode cX7_holeMendedBy 87 = .ok (.iconst (-1), 1) := by decide +kernel
theorem dX7_holeMendedBy_88 : decode cX7_holeMendedBy 88 = .ok (.ireturn, 1) := by decide +kernel
theorem dX7_lastSightDay_0 : decode cX7_lastSightDay 0 = .ok (.iconst 0, 1) := by decide +kernel
theorem dX7_lastSightDay_1 : decode cX7_lastSightDay 1 = .ok (.istore_n 1, 1) := by decide +kernel
theorem dX7_lastSightDay_2 : decode cX7_lastSightDay 2 = .ok (.iconst 0, 1) := by decide +kernel
theorem dX7_lastSightDay_3 : decode cX7_lastSightDay 3 = .ok (.istore_n 2, 1) := by decide +kernel
theorem dX7_lastSightDay_4 : decode cX7_lastSightDay 4 = .ok (.iload_n 2, 1) := by decide +kernel
theorem dX7_lastSightDay_5 : decode cX7_lastSightDay 5 = .ok (.aload_n 0, 1) := by decide +kernel
theorem dX7_lastSightDay_6 : decode cX7_lastSightDay 6 = .ok (.getfield 37, 3) := by decide +kernel
theorem dX7_lastSightDay_9 : decode cX7_lastSightDay 9 = .ok (.getfield 140, 3) := by decide +kernel
theorem dX7_lastSightDay_12 : decode cX7_lastSightDay 12 = .ok (.if_icmp .ge 23, 3) := by decide +kernel
theorem dX7_lastSightDay_15 : decode cX7_lastSightDay 15 = .ok (.iload_n 1, 1) := by decide +kernel
theorem dX7_lastSightDay_16 : decode cX7_lastSightDay 16 = .ok (.aload_n 0, 1) := by decide +kernel
theorem dX7_lastSightDay_17 : decode cX7_lastSightDay 17 = .ok (.getfield 37, 3) := by decide +kernel
theorem dX7_lastSightDay_20 : decode cX7_lastSightDay 20 = .ok (.iload_n 2, 1) := by decide +kernel
theorem dX7_lastSightDay_21 : decode cX7_lastSightDay 21 = .ok (.iconst 0, 1) := by decide +kernel
theorem dX7_lastSightDay_22 : decode cX7_lastSightDay 22 = .ok (.invokevirtual 172, 3) := by decide +kernel
theorem dX7_lastSightDay_25 : decode cX7_lastSightDay 25 = .ok (.invokestatic 235, 3) := by decide +kernel
theorem dX7_lastSightDay_28 : decode cX7_lastSightDay 28 = .ok (.istore_n 1, 1) := by decide +kernel
theorem dX7_lastSightDay_29 : decode cX7_lastSightDay 29 = .ok (.iinc 2 1, 3) := by decide +kernel
theorem dX7_lastSightDay_32 : decode cX7_lastSightDay 32 = .ok (.goto (-28), 3) := by decide +kernel
theorem dX7_lastSightDay_35 : decode cX7_lastSightDay 35 = .ok (.iload_n 1, 1) := by decide +kernel
theorem dX7_lastSightDay_36 : decode cX7_lastSightDay 36 = .ok (.ireturn, 1) := by decide +kernel
theorem dX7_comesOutAsSeen_0 : decode cX7_comesOutAsSeen 0 = .ok (.iconst 0, 1) := by decide +kernel
theorem dX7_comesOutAsSeen_1 : decode cX7_comesOutAsSeen 1 = .ok (.istore_n 2, 1) := by decide +kernel
theorem dX7_comesOutAsSeen_2 : decode cX7_comesOutAsSeen 2 = .ok (.iload_n 2, 1) := by decide +kernel
theorem dX7_comesOutAsSeen_3 : decode cX7_comesOutAsSeen 3 = .ok (.aload_n 0, 1) := by decide +kernel
theorem dX7_comesOutAsSeen_4 : decode cX7_comesOutAsSeen 4 = .ok (.getfield 37, 3) := by decide +kernel
theorem dX7_comesOutAsSeen_7 : decode cX7_comesOutAsSeen 7 = .ok (.getfield 140, 3) := by decide +kernel
theorem dX7_comesOutAsSeen_10 : decode cX7_comesOutAsSeen 10 = .ok (.if_icmp .ge 55, 3) := by decide +kernel
theorem dX7_comesOutAsSeen_13 : decode cX7_comesOutAsSeen 13 = .ok (.aload_n 0, 1) := by decide +kernel
theorem dX7_comesOutAsSeen_14 : decode cX7_comesOutAsSeen 14 = .ok (.getfield 37, 3) := by decide +kernel
theorem dX7_comesOutAsSeen_17 : decode cX7_comesOutAsSeen 17 = .ok (.iload_n 2, 1) := by decide +kernel
theorem dX7_comesOutAsSeen_18 : decode cX7_comesOutAsSeen 18 = .ok (.iconst 1, 1) := by decide +kernel
theorem dX7_comesOutAsSeen_19 : decode cX7_comesOutAsSeen 19 = .ok (.invokevirtual 172, 3) := by decide +kernel
theorem dX7_comesOutAsSeen_22 : decode cX7_comesOutAsSeen 22 = .ok (.istore_n 3, 1) := by decide +kernel
theorem dX7_comesOutAsSeen_23 : decode cX7_comesOutAsSeen 23 = .ok (.aload_n 0, 1) := by decide +kernel
theorem dX7_comesOutAsSeen_24 : decode cX7_comesOutAsSeen 24 = .ok (.iload_n 3, 1) := by decide +kernel
theorem dX7_comesOutAsSeen_25 : decode cX7_comesOutAsSeen 25 = .ok (.invokevirtual 104, 3) := by decide +kernel
theorem dX7_comesOutAsSeen_28 : decode cX7_comesOutAsSeen 28 = .ok (.ifCond .eq 29, 3) := by decide +kernel
theorem dX7_comesOutAsSeen_31 : decode cX7_comesOutAsSeen 31 = .ok (.aload_n 1, 1) := by decide +kernel
theorem dX7_comesOutAsSeen_32 : decode cX7_comesOutAsSeen 32 = .ok (.aload_n 0, 1) := by decide +kernel
theorem dX7_comesOutAsSeen_33 : decode cX7_comesOutAsSeen 33 = .ok (.getfield 37, 3) := by decide +kernel
theorem dX7_comesOutAsSeen_36 : decode cX7_comesOutAsSeen 36 = .ok (.iload_n 2, 1) := by decide +kernel
theorem dX7_comesOutAsSeen_37 : decode cX7_comesOutAsSeen 37 = .ok (.iconst 0, 1) := by decide +kernel
theorem dX7_comesOutAsSeen_38 : decode cX7_comesOutAsSeen 38 = .ok (.invokevirtual 172, 3) := by decide +kernel
theorem dX7_comesOutAsSeen_41 : decode cX7_comesOutAsSeen 41 = .ok (.iload_n 3, 1) := by decide +kernel
theorem dX7_comesOutAsSeen_42 : decode cX7_comesOutAsSeen 42 = .ok (.invokevirtual 302, 3) := by decide +kernel
theorem dX7_comesOutAsSeen_45 : decode cX7_comesOutAsSeen 45 = .ok (.aload_n 0, 1) := by decide +kernel
theorem dX7_comesOutAsSeen_46 : decode cX7_comesOutAsSeen 46 = .ok (.getfield 37, 3) := by decide +kernel
theorem dX7_comesOutAsSeen_49 : decode cX7_comesOutAsSeen 49 = .ok (.iload_n 2, 1) := by decide +kernel
theorem dX7_comesOutAsSeen_50 : decode cX7_comesOutAsSeen 50 = .ok (.iconst 2, 1) := by decide +kernel
theorem dX7_comesOutAsSeen_51 : decode cX7_comesOutAsSeen 51 = .ok (.invokevirtual 172, 3) := by decide +kernel
theorem dX7_comesOutAsSeen_54 : decode cX7_comesOutAsSeen 54 = .ok (.if_icmp .eq 5, 3) := by decide +kernel
theorem dX7_comesOutAsSeen_57 : decode cX7_comesOutAsSeen 57 = .ok (.iconst 0, 1) := by decide +kernel
theorem dX7_comesOutAsSeen_58 : decode cX7_comesOutAsSeen 58 = .ok (.ireturn, 1) := by decide +kernel
theorem dX7_comesOutAsSeen_59 : decode cX7_comesOutAsSeen 59 = .ok (.iinc 2 1, 3) := by decide +kernel
theorem dX7_comesOutAsSeen_62 : decode cX7_comesOutAsSeen 62 = .ok (.goto (-60), 3) := by decide +kernel
theorem dX7_comesOutAsSeen_65 : decode cX7_comesOutAsSeen 65 = .ok (.iconst 1, 1) := by decide +kernel
theorem dX7_comesOutAsSeen_66 : decode cX7_comesOutAsSeen 66 = .ok (.ireturn, 1) := by decide +kernel
theorem dX7_addToAlike_0 : decode cX7_addToAlike 0 = .ok (.iconst 0, 1) := by decide +kernel
theorem dX7_addToAlike_1 : decode cX7_addToAlike 1 = .ok (.istore_n 3, 1) := by decide +kernel
theorem dX7_addToAlike_2 : decode cX7_addToAlike 2 = .ok (.iload_n 3, 1) := by decide +kernel
theorem dX7_addToAlike_3 : decode cX7_addToAlike 3 = .ok (.aload_n 0, 1) := by decide +kernel
theorem dX7_addToAlike_4 : decode cX7_addToAlike 4 = .ok (.getfield 16, 3) := by decide +kernel
theorem dX7_addToAlike_7 : decode cX7_addToAlike 7 = .ok (.getfield 190, 3) := by decide +kernel
theorem dX7_addToAlike_10 : decode cX7_addToAlike 10 = .ok (.if_icmp .ge 29, 3) := by decide +kernel
theorem dX7_addToAlike_13 : decode cX7_addToAlike 13 = .ok (.aload_n 0, 1) := by decide +kernel
theorem dX7_addToAlike_14 : decode cX7_addToAlike 14 = .ok (.getfield 65, 3) := by decide +kernel
theorem dX7_addToAlike_17 : decode cX7_addToAlike 17 = .ok (.iload_n 3, 1) := by decide +kernel
theorem dX7_addToAlike_18 : decode cX7_addToAlike 18 = .ok (.bipush 10, 2) := by decide +kernel
theorem dX7_addToAlike_20 : decode cX7_addToAlike 20 = .ok (.imul, 1) := by decide +kernel
theorem dX7_addToAlike_21 : decode cX7_addToAlike 21 = .ok (.aload_n 1, 1) := by decide +kernel
theorem dX7_addToAlike_22 : decode cX7_addToAlike 22 = .ok (.iload_n 2, 1) := by decide +kernel
theorem dX7_addToAlike_23 : decode cX7_addToAlike 23 = .ok (.iload_n 3, 1) := by decide +kernel
theorem dX7_addToAlike_24 : decode cX7_addToAlike 24 = .ok (.invokevirtual 302, 3) := by decide +kernel
theorem dX7_addToAlike_27 : decode cX7_addToAlike 27 = .ok (.iadd, 1) := by decide +kernel
theorem dX7_addToAlike_28 : decode cX7_addToAlike 28 = .ok (.dup2, 1) := by decide +kernel
theorem dX7_addToAlike_29 : decode cX7_addToAlike 29 = .ok (.iaload, 1) := by decide +kernel
theorem dX7_addToAlike_30 : decode cX7_addToAlike 30 = .ok (.iconst 1, 1) := by decide +kernel
theorem dX7_addToAlike_31 : decode cX7_addToAlike 31 = .ok (.iadd, 1) := by decide +kernel
theorem dX7_addToAlike_32 : decode cX7_addToAlike 32 = .ok (.iastore, 1) := by decide +kernel
theorem dX7_addToAlike_33 : decode cX7_addToAlike 33 = .ok (.iinc 3 1, 3) := by decide +kernel
theorem dX7_addToAlike_36 : decode cX7_addToAlike 36 = .ok (.goto (-34), 3) := by decide +kernel
theorem dX7_addToAlike_39 : decode cX7_addToAlike 39 = .ok (.return_, 1) := by decide +kernel
theorem dX7_greatestAlike_0 : decode cX7_greatestAlike 0 = .ok (.iconst 0, 1) := by decide +kernel
theorem dX7_greatestAlike_1 : decode cX7_greatestAlike 1 = .ok (.istore_n 2, 1) := by decide +kernel
theorem dX7_greatestAlike_2 : decode cX7_greatestAlike 2 = .ok (.iconst 0, 1) := by decide +kernel
theorem dX7_greatestAlike_3 : decode cX7_greatestAlike 3 = .ok (.istore_n 3, 1) := by decide +kernel
theorem dX7_greatestAlike_4 : decode cX7_greatestAlike 4 = .ok (.iload_n 3, 1) := by decide +kernel
theorem dX7_greatestAlike_5 : decode cX7_greatestAlike 5 = .ok (.bipush 9, 2) := by decide +kernel
theorem dX7_greatestAlike_7 : decode cX7_greatestAlike 7 = .ok (.if_icmp .gt 25, 3) := by decide +kernel
theorem dX7_greatestAlike_10 : decode cX7_greatestAlike 10 = .ok (.iload_n 2, 1) := by decide +kernel
theorem dX7_greatestAlike_11 : decode cX7_greatestAlike 11 = .ok (.aload_n 0, 1) := by decide +kernel
theorem dX7_greatestAlike_12 : decode cX7_greatestAlike 12 = .ok (.getfield 65, 3) := by decide +kernel
theorem dX7_greatestAlike_15 : decode cX7_greatestAlike 15 = .ok (.iload_n 1, 1) := by decide +kernel
theorem dX7_greatestAlike_16 : decode cX7_greatestAlike 16 = .ok (.bipush 10, 2) := by decide +kernel
theorem dX7_greatestAlike_18 : decode cX7_greatestAlike 18 = .ok (.imul, 1) := by decide +kernel
theorem dX7_greatestAlike_19 : decode cX7_greatestAlike 19 = .ok (.iload_n 3, 1) := by decide +kernel
theorem dX7_greatestAlike_20 : decode cX7_greatestAlike 20 = .ok (.iadd, 1) := by decide +kernel
theorem dX7_greatestAlike_21 : decode cX7_greatestAlike 21 = .ok (.iaload, 1) := by decide +kernel
theorem dX7_greatestAlike_22 : decode cX7_greatestAlike 22 = .ok (.invokestatic 235, 3) := by decide +kernel
theorem dX7_greatestAlike_25 : decode cX7_greatestAlike 25 = .ok (.istore_n 2, 1) := by decide +kernel
theorem dX7_greatestAlike_26 : decode cX7_greatestAlike 26 = .ok (.iinc 3 1, 3) := by decide +kernel
theorem dX7_greatestAlike_29 : decode cX7_greatestAlike 29 = .ok (.goto (-25), 3) := by decide +kernel
theorem dX7_greatestAlike_32 : decode cX7_greatestAlike 32 = .ok (.iload_n 2, 1) := by decide +kernel
theorem dX7_greatestAlike_33 : decode cX7_greatestAlike 33 = .ok (.ireturn, 1) := by decide +kernel
theorem dX7_sixteenthsServed_0 : decode cX7_sixteenthsServed 0 = .ok (.aload_n 1, 1) := by decide +kernel
theorem dX7_sixteenthsServed_1 : decode cX7_sixteenthsServed 1 = .ok (.iload_n 3, 1) := by decide +kernel
theorem dX7_sixteenthsServed_2 : decode cX7_sixteenthsServed 2 = .ok (.iload 4, 2) := by decide +kernel
theorem dX7_sixteenthsServed_4 : decode cX7_sixteenthsServed 4 = .ok (.invokevirtual 163, 3) := by decide +kernel
theorem dX7_sixteenthsServed_7 : decode cX7_sixteenthsServed 7 = .ok (.istore 6, 2) := by decide +kernel
theorem dX7_sixteenthsServed_9 : decode cX7_sixteenthsServed 9 = .ok (.aload_n 1, 1) := by decide +kernel
theorem dX7_sixteenthsServed_10 : decode cX7_sixteenthsServed 10 = .ok (.iload_n 3, 1) := by decide +kernel
theorem dX7_sixteenthsServed_11 : decode cX7_sixteenthsServed 11 = .ok (.iload 4, 2) := by decide +kernel
theorem dX7_sixteenthsServed_13 : decode cX7_sixteenthsServed 13 = .ok (.invokevirtual 166, 3) := by decide +kernel
theorem dX7_sixteenthsServed_16 : decode cX7_sixteenthsServed 16 = .ok (.istore 7, 2) := by decide +kernel
theorem dX7_sixteenthsServed_18 : decode cX7_sixteenthsServed 18 = .ok (.aload_n 0, 1) := by decide +kernel
theorem dX7_sixteenthsServed_19 : decode cX7_sixteenthsServed 19 = .ok (.iload_n 2, 1) := by decide +kernel
theorem dX7_sixteenthsServed_20 : decode cX7_sixteenthsServed 20 = .ok (.iload 4, 2) := by decide +kernel
theorem dX7_sixteenthsServed_22 : decode cX7_sixteenthsServed 22 = .ok (.iload 6, 2) := by decide +kernel
theorem dX7_sixteenthsServed_24 : decode cX7_sixteenthsServed 24 = .ok (.iload 7, 2) := by decide +kernel
theorem dX7_sixteenthsServed_26 : decode cX7_sixteenthsServed 26 = .ok (.invokevirtual 193, 3) := by decide +kernel
theorem dX7_sixteenthsServed_29 : decode cX7_sixteenthsServed 29 = .ok (.ifCond .eq 11, 3) := by decide +kernel
theorem dX7_sixteenthsServed_32 : decode cX7_sixteenthsServed 32 = .ok (.bipush 16, 2) := by decide +kernel
theorem dX7_sixteenthsServed_34 : decode cX7_sixteenthsServed 34 = .ok (.iload 5, 2) := by decide +kernel
theorem dX7_sixteenthsServed_36 : decode cX7_sixteenthsServed 36 = .ok (.isub, 1) := by decide +kernel
theorem dX7_sixteenthsServed_37 : decode cX7_sixteenthsServed 37 = .ok (.goto 4, 3) := by decide +kernel
theorem dX7_sixteenthsServed_40 : decode cX7_sixteenthsServed 40 = .ok (.iconst 0, 1) := by decide +kernel
theorem dX7_sixteenthsServed_41 : decode cX7_sixteenthsServed 41 = .ok (.istore 8, 2) := by decide +kernel
theorem dX7_sixteenthsServed_43 : decode cX7_sixteenthsServed 43 = .ok (.aload_n 0, 1) := by decide +kernel
theorem dX7_sixteenthsServed_44 : decode cX7_sixteenthsServed 44 = .ok (.iload_n 2, 1) := by decide +kernel
theorem dX7_sixteenthsServed_45 : decode cX7_sixteenthsServed 45 = .ok (.iload 4, 2) := by decide +kernel
theorem dX7_sixteenthsServed_47 : decode cX7_sixteenthsServed 47 = .ok (.bipush 9, 2) := by decide +kernel
theorem dX7_sixteenthsServed_49 : decode cX7_sixteenthsServed 49 = .ok (.iload 6, 2) := by decide +kernel
theorem dX7_sixteenthsServed_51 : decode cX7_sixteenthsServed 51 = .ok (.iconst 1, 1) := by decide +kernel
theorem dX7_sixteenthsServed_52 : decode cX7_sixteenthsServed 52 = .ok (.iadd, 1) := by decide +kernel
theorem dX7_sixteenthsServed_53 : decode cX7_sixteenthsServed 53 = .ok (.invokestatic 299, 3) := by decide +kernel
theorem dX7_sixteenthsServed_56 : decode cX7_sixteenthsServed 56 = .ok (.iload 7, 2) := by decide +kernel
theorem dX7_sixteenthsServed_58 : decode cX7_sixteenthsServed 58 = .ok (.invokevirtual 193, 3) := by decide +kernel
theorem dX7_sixteenthsServed_61 : decode cX7_sixteenthsServed 61 = .ok (.ifCond .eq 11, 3) := by decide +kernel
theorem dX7_sixteenthsServed_64 : decode cX7_sixteenthsServed 64 = .ok (.iload 8, 2) := by decide +kernel
theorem dX7_sixteenthsServed_66 : decode cX7_sixteenthsServed 66 = .ok (.iload 5, 2) := by decide +kernel
theorem dX7_sixteenthsServed_68 : decode cX7_sixteenthsServed 68 = .ok (.iadd, 1) := by decide +kernel
theorem dX7_sixteenthsServed_69 : decode cX7_sixteenthsServed 69 = .ok (.goto 5, 3) := by decide +kernel
theorem dX7_sixteenthsServed_72 : decode cX7_sixteenthsServed 72 = .ok (.iload 8, 2) := by decide +kernel
theorem dX7_sixteenthsServed_74 : decode cX7_sixteenthsServed 74 = .ok (.ireturn, 1) := by decide +kernel
theorem dX7_nextLot_0 : decode cX7_nextLot 0 = .ok (.ldc_w 383, 3) := by decide +kernel
theorem dX7_nextLot_3 : decode cX7_nextLot 3 = .ok (.iload_n 0, 1) := by decide +kernel
theorem dX7_nextLot_4 : decode cX7_nextLot 4 = .ok (.imul, 1) := by decide +kernel
theorem dX7_nextLot_5 : decode cX7_nextLot 5 = .ok (.sipush 12345, 3) := by decide +kernel
theorem dX7_nextLot_8 : decode cX7_nextLot 8 = .ok (.iadd, 1) := by decide +kernel
theorem dX7_nextLot_9 : decode cX7_nextLot 9 = .ok (.ireturn, 1) := by decide +kernel
theorem dX7_lotOf_0 : decode cX7_lotOf 0 = .ok (.iload_n 1, 1) := by decide +kernel
theorem dX7_lotOf_1 : decode cX7_lotOf 1 = .ok (.iconst 1, 1) := by decide +kernel
theorem dX7_lotOf_2 : decode cX7_lotOf 2 = .ok (.if_icmp .ge 7, 3) := by decide +kernel
theorem dX7_lotOf_5 : decode cX7_lotOf 5 = .ok (.iconst 0, 1) := by decide +kernel
theorem dX7_lotOf_6 : decode cX7_lotOf 6 = .ok (.goto 9, 3) := by decide +kernel
theorem dX7_lotOf_9 : decode cX7_lotOf 9 = .ok (.iload_n 0, 1) := by decide +kernel
theorem dX7_lotOf_10 : decode cX7_lotOf 10 = .ok (.bipush 16, 2) := by decide +kernel
theorem dX7_lotOf_12 : decode cX7_lotOf 12 = .ok (.iushr, 1) := by decide +kernel
theorem dX7_lotOf_13 : decode cX7_lotOf 13 = .ok (.iload_n 1, 1) := by decide +kernel
theorem dX7_lotOf_14 : decode cX7_lotOf 14 = .ok (.irem, 1) := by decide +kernel
theorem dX7_lotOf_15 : decode cX7_lotOf 15 = .ok (.ireturn, 1) := by decide +kernel
theorem dX8_init_0 : decode cX8_init 0 = .ok (.aload_n 0, 1) := by decide +kernel
theorem dX8_init_1 : decode cX8_init 1 = .ok (.invokespecial 1, 3) := by decide +kernel
theorem dX8_init_4 : decode cX8_init 4 = .ok (.aload_n 0, 1) := by decide +kernel
theorem dX8_init_5 : decode cX8_init 5 = .ok (.iconst 4, 1) := by decide +kernel
theorem dX8_init_6 : decode cX8_init 6 = .ok (.newarray .int, 2) := by decide +kernel
theorem dX8_init_8 : decode cX8_init 8 = .ok (.putfield 7, 3) := by decide +kernel
theorem dX8_init_11 : decode cX8_init 11 = .ok (.aload_n 0, 1) := by decide +kernel
theorem dX8_init_12 : decode cX8_init 12 = .ok (.iconst 4, 1) := by decide +kernel
theorem dX8_init_13 : decode cX8_init 13 = .ok (.newarray .int, 2) := by decide +kernel
theorem dX8_init_15 : decode cX8_init 15 = .ok (.putfield 13, 3) := by decide +kernel
theorem dX8_init_18 : decode cX8_init 18 = .ok (.aload_n 0, 1) := by decide +kernel
theorem dX8_init_19 : decode cX8_init 19 = .ok (.sipush 240, 3) := by decide +kernel
theorem dX8_init_22 : decode cX8_init 22 = .ok (.newarray .int, 2) := by decide +kernel
theorem dX8_init_24 : decode cX8_init 24 = .ok (.putfield 16, 3) := by decide +kernel
theorem dX8_init_27 : decode cX8_init 27 = .ok (.aload_n 0, 1) := by decide +kernel
theorem dX8_init_28 : decode cX8_init 28 = .ok (.bipush 60, 2) := by decide +kernel
theorem dX8_init_30 : decode cX8_init 30 = .ok (.newarray .int, 2) := by decide +kernel
theorem dX8_init_32 : decode cX8_init 32 = .ok (.putfield 19, 3) := by decide +kernel
theorem dX8_init_35 : decode cX8_init 35 = .ok (.aload_n 0, 1) := by decide +kernel
theorem dX8_init_36 : decode cX8_init 36 = .ok (.bipush 80, 2) := by decide +kernel
theorem dX8_init_38 : decode cX8_init 38 = .ok (.newarray .int, 2) := by decide +kernel
theorem dX8_init_40 : decode cX8_init 40 = .ok (.putfield 22, 3) := by decide +kernel
theorem dX8_init_43 : decode cX8_init 43 = .ok (.aload_n 0, 1) := by decide +kernel
theorem dX8_init_44 : decode cX8_init 44 = .ok (.iconst 2, 1) := by decide +kernel
theorem dX8_init_45 : decode cX8_init 45 = .ok (.newarray .int, 2) := by decide +kernel
theorem dX8_init_47 : decode cX8_init 47 = .ok (.putfield 25, 3) := by decide +kernel
theorem dX8_init_50 : decode cX8_init 50 = .ok (.aload_n 0, 1) := by decide +kernel
theorem dX8_init_51 : decode cX8_init 51 = .ok (.iconst 2, 1) := by decide +kernel
theorem dX8_init_52 : decode cX8_init 52 = .ok (.newarray .int, 2) := by decide +kernel
theorem dX8_init_54 : decode cX8_init 54 = .ok (.putfield 28, 3) := by decide +kernel
theorem dX8_init_57 : decode cX8_init 57 = .ok (.aload_n 0, 1) := by decide +kernel
theorem dX8_init_58 : decode cX8_init 58 = .ok (.bipush 64, 2) := by decide +kernel
theorem dX8_init_60 : decode cX8_init 60 = .ok (.newarray .int, 2) := by decide +kernel
theorem dX8_init_62 : decode cX8_init 62 = .ok (.putfield 31, 3) := by decide +kernel
theorem dX8_init_65 : decode cX8_init 65 = .ok (.aload_n 0, 1) := by decide +kernel
theorem dX8_init_66 : decode cX8_init 66 = .ok (.sipush 208, 3) := by decide +kernel
theorem dX8_init_69 : decode cX8_init 69 = .ok (.newarray .int, 2) := by decide +kernel
