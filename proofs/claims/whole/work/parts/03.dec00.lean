theorem dX0_init_0 : decode cX0_init 0 = .ok (.aload_n 0, 1) := by decide +kernel
theorem dX0_init_1 : decode cX0_init 1 = .ok (.invokespecial 3, 3) := by decide +kernel
theorem dX0_init_4 : decode cX0_init 4 = .ok (.aload_n 0, 1) := by decide +kernel
theorem dX0_init_5 : decode cX0_init 5 = .ok (.new 9, 3) := by decide +kernel
theorem dX0_init_8 : decode cX0_init 8 = .ok (.dup, 1) := by decide +kernel
theorem dX0_init_9 : decode cX0_init 9 = .ok (.bipush 8, 2) := by decide +kernel
theorem dX0_init_11 : decode cX0_init 11 = .ok (.invokespecial 11, 3) := by decide +kernel
theorem dX0_init_14 : decode cX0_init 14 = .ok (.putfield 14, 3) := by decide +kernel
theorem dX0_init_17 : decode cX0_init 17 = .ok (.aload_n 0, 1) := by decide +kernel
theorem dX0_init_18 : decode cX0_init 18 = .ok (.new 9, 3) := by decide +kernel
theorem dX0_init_21 : decode cX0_init 21 = .ok (.dup, 1) := by decide +kernel
theorem dX0_init_22 : decode cX0_init 22 = .ok (.bipush 8, 2) := by decide +kernel
theorem dX0_init_24 : decode cX0_init 24 = .ok (.invokespecial 11, 3) := by decide +kernel
theorem dX0_init_27 : decode cX0_init 27 = .ok (.putfield 20, 3) := by decide +kernel
theorem dX0_init_30 : decode cX0_init 30 = .ok (.aload_n 0, 1) := by decide +kernel
theorem dX0_init_31 : decode cX0_init 31 = .ok (.new 9, 3) := by decide +kernel
theorem dX0_init_34 : decode cX0_init 34 = .ok (.dup, 1) := by decide +kernel
theorem dX0_init_35 : decode cX0_init 35 = .ok (.iload_n 1, 1) := by decide +kernel
theorem dX0_init_36 : decode cX0_init 36 = .ok (.invokespecial 11, 3) := by decide +kernel
theorem dX0_init_39 : decode cX0_init 39 = .ok (.putfield 23, 3) := by decide +kernel
theorem dX0_init_42 : decode cX0_init 42 = .ok (.return_, 1) := by decide +kernel
theorem dX0_takeAll_0 : decode cX0_takeAll 0 = .ok (.aload_n 0, 1) := by decide +kernel
theorem dX0_takeAll_1 : decode cX0_takeAll 1 = .ok (.getfield 23, 3) := by decide +kernel
theorem dX0_takeAll_4 : decode cX0_takeAll 4 = .ok (.aload_n 1, 1) := by decide +kernel
theorem dX0_takeAll_5 : decode cX0_takeAll 5 = .ok (.getfield 23, 3) := by decide +kernel
theorem dX0_takeAll_8 : decode cX0_takeAll 8 = .ok (.invokevirtual 26, 3) := by decide +kernel
theorem dX0_takeAll_11 : decode cX0_takeAll 11 = .ok (.aload_n 0, 1) := by decide +kernel
theorem dX0_takeAll_12 : decode cX0_takeAll 12 = .ok (.getfield 14, 3) := by decide +kernel
theorem dX0_takeAll_15 : decode cX0_takeAll 15 = .ok (.aload_n 1, 1) := by decide +kernel
theorem dX0_takeAll_16 : decode cX0_takeAll 16 = .ok (.getfield 14, 3) := by decide +kernel
theorem dX0_takeAll_19 : decode cX0_takeAll 19 = .ok (.invokevirtual 26, 3) := by decide +kernel
theorem dX0_takeAll_22 : decode cX0_takeAll 22 = .ok (.aload_n 0, 1) := by decide +kernel
theorem dX0_takeAll_23 : decode cX0_takeAll 23 = .ok (.getfield 20, 3) := by decide +kernel
theorem dX0_takeAll_26 : decode cX0_takeAll 26 = .ok (.aload_n 1, 1) := by decide +kernel
theorem dX0_takeAll_27 : decode cX0_takeAll 27 = .ok (.getfield 20, 3) := by decide +kernel
theorem dX0_takeAll_30 : decode cX0_takeAll 30 = .ok (.invokevirtual 26, 3) := by decide +kernel
theorem dX0_takeAll_33 : decode cX0_takeAll 33 = .ok (.return_, 1) := by decide +kernel
theorem dX1_init_0 : decode cX1_init 0 = .ok (.aload_n 0, 1) := by decide +kernel
theorem dX1_init_1 : decode cX1_init 1 = .ok (.invokespecial 3, 3) := by decide +kernel
theorem dX1_init_4 : decode cX1_init 4 = .ok (.aload_n 0, 1) := by decide +kernel
theorem dX1_init_5 : decode cX1_init 5 = .ok (.bipush 8, 2) := by decide +kernel
theorem dX1_init_7 : decode cX1_init 7 = .ok (.anewarray 9, 3) := by decide +kernel
theorem dX1_init_10 : decode cX1_init 10 = .ok (.putfield 11, 3) := by decide +kernel
theorem dX1_init_13 : decode cX1_init 13 = .ok (.aload_n 0, 1) := by decide +kernel
theorem dX1_init_14 : decode cX1_init 14 = .ok (.sipush 320, 3) := by decide +kernel
theorem dX1_init_17 : decode cX1_init 17 = .ok (.newarray .int, 2) := by decide +kernel
theorem dX1_init_19 : decode cX1_init 19 = .ok (.putfield 17, 3) := by decide +kernel
theorem dX1_init_22 : decode cX1_init 22 = .ok (.aload_n 0, 1) := by decide +kernel
theorem dX1_init_23 : decode cX1_init 23 = .ok (.sipush 320, 3) := by decide +kernel
theorem dX1_init_26 : decode cX1_init 26 = .ok (.newarray .int, 2) := by decide +kernel
theorem dX1_init_28 : decode cX1_init 28 = .ok (.putfield 21, 3) := by decide +kernel
theorem dX1_init_31 : decode cX1_init 31 = .ok (.aload_n 0, 1) := by decide +kernel
theorem dX1_init_32 : decode cX1_init 32 = .ok (.sipush 320, 3) := by decide +kernel
theorem dX1_init_35 : decode cX1_init 35 = .ok (.newarray .int, 2) := by decide +kernel
theorem dX1_init_37 : decode cX1_init 37 = .ok (.putfield 24, 3) := by decide +kernel
theorem dX1_init_40 : decode cX1_init 40 = .ok (.aload_n 0, 1) := by decide +kernel
theorem dX1_init_41 : decode cX1_init 41 = .ok (.bipush 40, 2) := by decide +kernel
theorem dX1_init_43 : decode cX1_init 43 = .ok (.newarray .int, 2) := by decide +kernel
theorem dX1_init_45 : decode cX1_init 45 = .ok (.putfield 27, 3) := by decide +kernel
theorem dX1_init_48 : decode cX1_init 48 = .ok (.aload_n 0, 1) := by decide +kernel
theorem dX1_init_49 : decode cX1_init 49 = .ok (.bipush 40, 2) := by decide +kernel
theorem dX1_init_51 : decode cX1_init 51 = .ok (.newarray .int, 2) := by decide +kernel
theorem dX1_init_53 : decode cX1_init 53 = .ok (.putfield 30, 3) := by decide +kernel
theorem dX1_init_56 : decode cX1_init 56 = .ok (.aload_n 0, 1) := by decide +kernel
theorem dX1_init_57 : decode cX1_init 57 = .ok (.bipush 52, 2) := by decide +kernel
theorem dX1_init_59 : decode cX1_init 59 = .ok (.newarray .int, 2) := by decide +kernel
theorem dX1_init_61 : decode cX1_init 61 = .ok (.putfield 33, 3) := by decide +kernel
theorem dX1_init_64 : decode cX1_init 64 = .ok (.aload_n 0, 1) := by decide +kernel
theorem dX1_init_65 : decode cX1_init 65 = .ok (.bipush 52, 2) := by decide +kernel
theorem dX1_init_67 : decode cX1_init 67 = .ok (.newarray .int, 2) := by decide +kernel
theorem dX1_init_69 : decode cX1_init 69 = .ok (.putfield 36, 3) := by decide +kernel
theorem dX1_init_72 : decode cX1_init 72 = .ok (.aload_n 0, 1) := by decide +kernel
theorem dX1_init_73 : decode cX1_init 73 = .ok (.bipush 52, 2) := by decide +kernel
theorem dX1_init_75 : decode cX1_init 75 = .ok (.newarray .int, 2) := by decide +kernel
theorem dX1_init_77 : decode cX1_init 77 = .ok (.putfield 39, 3) := by decide +kernel
theorem dX1_init_80 : decode cX1_init 80 = .ok (.aload_n 0, 1) := by decide +kernel
theorem dX1_init_81 : decode cX1_init 81 = .ok (.iconst 0, 1) := by decide +kernel
theorem dX1_init_82 : decode cX1_init 82 = .ok (.putfield 42, 3) := by decide +kernel
theorem dX1_init_85 : decode cX1_init 85 = .ok (.iconst 0, 1) := by decide +kernel
theorem dX1_init_86 : decode cX1_init 86 = .ok (.istore_n 1, 1) := by decide +kernel
theorem dX1_init_87 : decode cX1_init 87 = .ok (.iload_n 1, 1) := by decide +kernel
theorem dX1_init_88 : decode cX1_init 88 = .ok (.bipush 8, 2) := by decide +kernel
theorem dX1_init_90 : decode cX1_init 90 = .ok (.if_icmp .ge 22, 3) := by decide +kernel
theorem dX1_init_93 : decode cX1_init 93 = .ok (.aload_n 0, 1) := by decide +kernel
theorem dX1_init_94 : decode cX1_init 94 = .ok (.getfield 11, 3) := by decide +kernel
theorem dX1_init_97 : decode cX1_init 97 = .ok (.iload_n 1, 1) := by decide +kernel
theorem dX1_init_98 : decode cX1_init 98 = .ok (.new 9, 3) := by decide +kernel
theorem dX1_init_101 : decode cX1_init 101 = .ok (.dup, 1) := by decide +kernel
theorem dX1_init_102 : decode cX1_init 102 = .ok (.invokespecial 46, 3) := by decide +kernel
theorem dX1_init_105 : decode cX1_init 105 = .ok (.aastore, 1) := by decide +kernel
theorem dX1_init_106 : decode cX1_init 106 = .ok (.iinc 1 1, 3) := by decide +kernel
theorem dX1_init_109 : decode cX1_init 109 = .ok (.goto (-22), 3) := by decide +kernel
theorem dX1_init_112 : decode cX1_init 112 = .ok (.return_, 1) := by decide +kernel
theorem dX1_follow_0 : decode cX1_follow 0 = .ok (.aload_n 0, 1) := by decide +kernel
theorem dX1_follow_1 : decode cX1_follow 1 = .ok (.aload_n 1, 1) := by decide +kernel
theorem dX1_follow_2 : decode cX1_follow 2 = .ok (.getfield 47, 3) := by decide +kernel
theorem dX1_follow_5 : decode cX1_follow 5 = .ok (.putfield 42, 3) := by decide +kernel
theorem dX1_follow_8 : decode cX1_follow 8 = .ok (.iconst 0, 1) := by decide +kernel
theorem dX1_follow_9 : decode cX1_follow 9 = .ok (.istore 4, 2) := by decide +kernel
theorem dX1_follow_11 : decode cX1_follow 11 = .ok (.iload 4, 2) := by decide +kernel
theorem dX1_follow_13 : decode cX1_follow 13 = .ok (.aload_n 0, 1) := by decide +kernel
theorem dX1_follow_14 : decode cX1_follow 14 = .ok (.getfield 42, 3) := by decide +kernel
theorem dX1_follow_17 : decode cX1_follow 17 = .ok (.if_icmp .ge 22, 3) := by decide +kernel
theorem dX1_follow_20 : decode cX1_follow 20 = .ok (.aload_n 0, 1) := by decide +kernel
theorem dX1_follow_21 : decode cX1_follow 21 = .ok (.getfield 11, 3) := by decide +kernel
theorem dX1_follow_24 : decode cX1_follow 24 = .ok (.iload 4, 2) := by decide +kernel
theorem dX1_follow_26 : decode cX1_follow 26 = .ok (.aaload, 1) := by decide +kernel
theorem dX1_follow_27 : decode cX1_follow 27 = .ok (.aload_n 1, 1) := by decide +kernel
theorem dX1_follow_28 : decode cX1_follow 28 = .ok (.iload 4, 2) := by decide +kernel
theorem dX1_follow_30 : decode cX1_follow 30 = .ok (.invokevirtual 52, 3) := by decide +kernel
theorem dX1_follow_33 : decode cX1_follow 33 = .ok (.iinc 4 1, 3) := by decide +kernel
theorem dX1_follow_36 : decode cX1_follow 36 = .ok (.goto (-25), 3) := by decide +kernel
theorem dX1_follow_39 : decode cX1_follow 39 = .ok (.aload_n 0, 1) := by decide +kernel
theorem dX1_follow_40 : decode cX1_follow 40 = .ok (.getfield 33, 3) := by decide +kernel
theorem dX1_follow_43 : decode cX1_follow 43 = .ok (.iconst 0, 1) := by decide +kernel
theorem dX1_follow_44 : decode cX1_follow 44 = .ok (.invokestatic 56, 3) := by decide +kernel
theorem dX1_follow_47 : decode cX1_follow 47 = .ok (.aload_n 0, 1) := by decide +kernel
theorem dX1_follow_48 : decode cX1_follow 48 = .ok (.getfield 36, 3) := by decide +kernel
theorem dX1_follow_51 : decode cX1_follow 51 = .ok (.iconst (-1), 1) := by decide +kernel
theorem dX1_follow_52 : decode cX1_follow 52 = .ok (.invokestatic 56, 3) := by decide +kernel
theorem dX1_follow_55 : decode cX1_follow 55 = .ok (.aload_n 0, 1) := by decide +kernel
theorem dX1_follow_56 : decode cX1_follow 56 = .ok (.getfield 39, 3) := by decide +kernel
theorem dX1_follow_59 : decode cX1_follow 59 = .ok (.iconst 0, 1) := by decide +kernel
theorem dX1_follow_60 : decode cX1_follow 60 = .ok (.invokestatic 56, 3) := by decide +kernel
theorem dX1_follow_63 : decode cX1_follow 63 = .ok (.iconst 0, 1) := by decide +kernel
theorem dX1_follow_64 : decode cX1_follow 64 = .ok (.istore 4, 2) := by decide +kernel
theorem dX1_follow_66 : decode cX1_follow 66 = .ok (.iload 4, 2) := by decide +kernel
theorem dX1_follow_68 : decode cX1_follow 68 = .ok (.iload_n 3, 1) := by decide +kernel
theorem dX1_follow_69 : decode cX1_follow 69 = .ok (.if_icmp .gt 125, 3) := by decide +kernel
theorem dX1_follow_72 : decode cX1_follow 72 = .ok (.iload 4, 2) := by decide +kernel
theorem dX1_follow_74 : decode cX1_follow 74 = .ok (.bipush 40, 2) := by decide +kernel
theorem dX1_follow_76 : decode cX1_follow 76 = .ok (.if_icmp .ge 118, 3) := by decide +kernel
theorem dX1_follow_79 : decode cX1_follow 79 = .ok (.aload_n 0, 1) := by decide +kernel
theorem dX1_follow_80 : decode cX1_follow 80 = .ok (.iload 4, 2) := by decide +kernel
theorem dX1_follow_82 : decode cX1_follow 82 = .ok (.aload_n 2, 1) := by decide +kernel
theorem dX1_follow_83 : decode cX1_follow 83 = .ok (.getfield 62, 3) := by decide +kernel
theorem dX1_follow_86 : decode cX1_follow 86 = .ok (.invokevirtual 68, 3) := by decide +kernel
theorem dX1_follow_89 : decode cX1_follow 89 = .ok (.aload_n 0, 1) := by decide +kernel
theorem dX1_follow_90 : decode cX1_follow 90 = .ok (.iload 4, 2) := by decide +kernel
theorem dX1_follow_92 : decode cX1_follow 92 = .ok (.aload_n 2, 1) := by decide +kernel
theorem dX1_follow_93 : decode cX1_follow 93 = .ok (.getfield 72, 3) := by decide +kernel
theorem dX1_follow_96 : decode cX1_follow 96 = .ok (.invokevirtual 75, 3) := by decide +kernel
theorem dX1_follow_99 : decode cX1_follow 99 = .ok (.aload_n 0, 1) := by decide +kernel
theorem dX1_follow_100 : decode cX1_follow 100 = .ok (.iload 4, 2) := by decide +kernel
theorem dX1_follow_102 : decode cX1_follow 102 = .ok (.aload_n 2, 1) := by decide +kernel
theorem dX1_follow_103 : decode cX1_follow 103 = .ok (.getfield 78, 3) := by decide +kernel
theorem dX1_follow_106 : decode cX1_follow 106 = .ok (.invokevirtual 81, 3) := by decide +kernel
theorem dX1_follow_109 : decode cX1_follow 109 = .ok (.aload_n 0, 1) := by decide +kernel
theorem dX1_follow_110 : decode cX1_follow 110 = .ok (.getfield 27, 3) := by decide +kernel
theorem dX1_follow_113 : decode cX1_follow 113 = .ok (.iload 4, 2) := by decide +kernel
theorem dX1_follow_115 : decode cX1_follow 115 = .ok (.aload_n 0, 1) := by decide +kernel
theorem dX1_follow_116 : decode cX1_follow 116 = .ok (.invokevirtual 84, 3) := by decide +kernel
theorem dX1_follow_119 : decode cX1_follow 119 = .ok (.iastore, 1) := by decide +kernel
theorem dX1_follow_120 : decode cX1_follow 120 = .ok (.iconst 0, 1) := by decide +kernel
theorem dX1_follow_121 : decode cX1_follow 121 = .ok (.istore 5, 2) := by decide +kernel
theorem dX1_follow_123 : decode cX1_follow 123 = .ok (.iload 5, 2) := by decide +kernel
theorem dX1_follow_125 : decode cX1_follow 125 = .ok (.aload_n 0, 1) := by decide +kernel
theorem dX1_follow_126 : decode cX1_follow 126 = .ok (.getfield 42, 3) := by decide +kernel
theorem dX1_follow_129 : decode cX1_follow 129 = .ok (.if_icmp .ge 48, 3) := by decide +kernel
theorem dX1_follow_132 : decode cX1_follow 132 = .ok (.aload_n 0, 1) := by decide +kernel
theorem dX1_follow_133 : decode cX1_follow 133 = .ok (.getfield 11, 3) := by decide +kernel
theorem dX1_follow_136 : decode cX1_follow 136 = .ok (.iload 5, 2) := by decide +kernel
theorem dX1_follow_138 : decode cX1_follow 138 = .ok (.aaload, 1) := by decide +kernel
theorem dX1_follow_139 : decode cX1_follow 139 = .ok (.getfield 88, 3) := by decide +kernel
theorem dX1_follow_142 : decode cX1_follow 142 = .ok (.iconst (-1), 1) := by decide +kernel
theorem dX1_follow_143 : decode cX1_follow 143 = .ok (.if_icmp .eq 20, 3) := by decide +kernel
theorem dX1_follow_146 : decode cX1_follow 146 = .ok (.aload_n 0, 1) := by decide +kernel
theorem dX1_follow_147 : decode cX1_follow 147 = .ok (.iload 4, 2) := by decide +kernel
theorem dX1_follow_149 : decode cX1_follow 149 = .ok (.aload_n 0, 1) := by decide +kernel
theorem dX1_follow_150 : decode cX1_follow 150 = .ok (.getfield 11, 3) := by decide +kernel
theorem dX1_follow_153 : decode cX1_follow 153 = .ok (.iload 5, 2) := by decide +kernel
theorem dX1_follow_155 : decode cX1_follow 155 = .ok (.aaload, 1) := by decide +kernel
theorem dX1_follow_156 : decode cX1_follow 156 = .ok (.aload_n 2, 1) := by decide +kernel
theorem dX1_follow_157 : decode cX1_follow 157 = .ok (.getfield 62, 3) := by decide +kernel
theorem dX1_follow_160 : decode cX1_follow 160 = .ok (.invokevirtual 90, 3) := by decide +kernel
theorem dX1_follow_163 : decode cX1_follow 163 = .ok (.aload_n 0, 1) := by decide +kernel
theorem dX1_follow_164 : decode cX1_follow 164 = .ok (.iload 4, 2) := by decide +kernel
theorem dX1_follow_166 : decode cX1_follow 166 = .ok (.iload 5, 2) := by decide +kernel
theorem dX1_follow_168 : decode cX1_follow 168 = .ok (.invokevirtual 94, 3) := by decide +kernel
theorem dX1_follow_171 : decode cX1_follow 171 = .ok (.iinc 5 1, 3) := by decide +kernel
theorem dX1_follow_174 : decode cX1_follow 174 = .ok (.goto (-51), 3) := by decide +kernel
theorem dX1_follow_177 : decode cX1_follow 177 = .ok (.aload_n 0, 1) := by decide +kernel
theorem dX1_follow_178 : decode cX1_follow 178 = .ok (.getfield 30, 3) := by decide +kernel
theorem dX1_follow_181 : decode cX1_follow 181 = .ok (.iload 4, 2) := by decide +kernel
theorem dX1_follow_183 : decode cX1_follow 183 = .ok (.aload_n 0, 1) := by decide +kernel
theorem dX1_follow_184 : decode cX1_follow 184 = .ok (.invokevirtual 98, 3) := by decide +kernel
theorem dX1_follow_187 : decode cX1_follow 187 = .ok (.iastore, 1) := by decide +kernel
theorem dX1_follow_188 : decode cX1_follow 188 = .ok (.iinc 4 1, 3) := by decide +kernel
theorem dX1_follow_191 : decode cX1_follow 191 = .ok (.goto (-125), 3) := by decide +kernel
theorem dX1_follow_194 : decode cX1_follow 194 = .ok (.return_, 1) := by decide +kernel
theorem dX1_lendAll_0 : decode cX1_lendAll 0 = .ok (.iconst 0, 1) := by decide +kernel
theorem dX1_lendAll_1 : decode cX1_lendAll 1 = .ok (.istore_n 3, 1) := by decide +kernel
theorem dX1_lendAll_2 : decode cX1_lendAll 2 = .ok (.iload_n 3, 1) := by decide +kernel
theorem dX1_lendAll_3 : decode cX1_lendAll 3 = .ok (.aload_n 2, 1) := by decide +kernel
theorem dX1_lendAll_4 : decode cX1_lendAll 4 = .ok (.getfield 101, 3) := by decide +kernel
theorem dX1_lendAll_7 : decode cX1_lendAll 7 = .ok (.if_icmp .ge 68, 3) := by decide +kernel
theorem dX1_lendAll_10 : decode cX1_lendAll 10 = .ok (.aload_n 2, 1) := by decide +kernel
theorem dX1_lendAll_11 : decode cX1_lendAll 11 = .ok (.iload_n 3, 1) := by decide +kernel
theorem dX1_lendAll_12 : decode cX1_lendAll 12 = .ok (.iconst 1, 1) := by decide +kernel
theorem dX1_lendAll_13 : decode cX1_lendAll 13 = .ok (.invokevirtual 106, 3) := by decide +kernel
theorem dX1_lendAll_16 : decode cX1_lendAll 16 = .ok (.istore 4, 2) := by decide +kernel
theorem dX1_lendAll_18 : decode cX1_lendAll 18 = .ok (.aload_n 2, 1) := by decide +kernel
theorem dX1_lendAll_19 : decode cX1_lendAll 19 = .ok (.iload_n 3, 1) := by decide +kernel
theorem dX1_lendAll_20 : decode cX1_lendAll 20 = .ok (.iconst 0, 1) := by decide +kernel
theorem dX1_lendAll_21 : decode cX1_lendAll 21 = .ok (.invokevirtual 106, 3) := by decide +kernel
theorem dX1_lendAll_24 : decode cX1_lendAll 24 = .ok (.iload_n 1, 1) := by decide +kernel
theorem dX1_lendAll_25 : decode cX1_lendAll 25 = .ok (.if_icmp .ne 44, 3) := by decide +kernel
theorem dX1_lendAll_28 : decode cX1_lendAll 28 = .ok (.iload 4, 2) := by decide +kernel
theorem dX1_lendAll_30 : decode cX1_lendAll 30 = .ok (.aload_n 0, 1) := by decide +kernel
theorem dX1_lendAll_31 : decode cX1_lendAll 31 = .ok (.getfield 42, 3) := by decide +kernel
theorem dX1_lendAll_34 : decode cX1_lendAll 34 = .ok (.if_icmp .ge 35, 3) := by decide +kernel
theorem dX1_lendAll_37 : decode cX1_lendAll 37 = .ok (.aload_n 0, 1) := by decide +kernel
theorem dX1_lendAll_38 : decode cX1_lendAll 38 = .ok (.getfield 11, 3) := by decide +kernel
theorem dX1_lendAll_41 : decode cX1_lendAll 41 = .ok (.iload 4, 2) := by decide +kernel
theorem dX1_lendAll_43 : decode cX1_lendAll 43 = .ok (.aaload, 1) := by decide +kernel
theorem dX1_lendAll_44 : decode cX1_lendAll 44 = .ok (.getfield 88, 3) := by decide +kernel
theorem dX1_lendAll_47 : decode cX1_lendAll 47 = .ok (.iconst (-1), 1) := by decide +kernel
theorem dX1_lendAll_48 : decode cX1_lendAll 48 = .ok (.if_icmp .ne 21, 3) := by decide +kernel
theorem dX1_lendAll_51 : decode cX1_lendAll 51 = .ok (.aload_n 0, 1) := by decide +kernel
theorem dX1_lendAll_52 : decode cX1_lendAll 52 = .ok (.getfield 11, 3) := by decide +kernel
theorem dX1_lendAll_55 : decode cX1_lendAll 55 = .ok (.iload 4, 2) := by decide +kernel
theorem dX1_lendAll_57 : decode cX1_lendAll 57 = .ok (.aaload, 1) := by decide +kernel
theorem dX1_lendAll_58 : decode cX1_lendAll 58 = .ok (.iload_n 3, 1) := by decide +kernel
theorem dX1_lendAll_59 : decode cX1_lendAll 59 = .ok (.invokevirtual 110, 3) := by decide +kernel
theorem dX1_lendAll_62 : decode cX1_lendAll 62 = .ok (.aload_n 0, 1) := by decide +kernel
theorem dX1_lendAll_63 : decode cX1_lendAll 63 = .ok (.getfield 33, 3) := by decide +kernel
theorem dX1_lendAll_66 : decode cX1_lendAll 66 = .ok (.iload_n 3, 1) := by decide +kernel
theorem dX1_lendAll_67 : decode cX1_lendAll 67 = .ok (.iconst 1, 1) := by decide +kernel
theorem dX1_lendAll_68 : decode cX1_lendAll 68 = .ok (.iastore, 1) := by decide +kernel
theorem dX1_lendAll_69 : decode cX1_lendAll 69 = .ok (.iinc 3 1, 3) := by decide +kernel
theorem dX1_lendAll_72 : decode cX1_lendAll 72 = .ok (.goto (-70), 3) := by decide +kernel
theorem dX1_lendAll_75 : decode cX1_lendAll 75 = .ok (.return_, 1) := by decide +kernel
theorem dX1_fillAll_0 : decode cX1_fillAll 0 = .ok (.iconst 0, 1) := by decide +kernel
theorem dX1_fillAll_1 : decode cX1_fillAll 1 = .ok (.istore_n 3, 1) := by decide +kernel
theorem dX1_fillAll_2 : decode cX1_fillAll 2 = .ok (.iload_n 3, 1) := by decide +kernel
theorem dX1_fillAll_3 : decode cX1_fillAll 3 = .ok (.aload_n 2, 1) := by decide +kernel
theorem dX1_fillAll_4 : decode cX1_fillAll 4 = .ok (.getfield 101, 3) := by decide +kernel
theorem dX1_fillAll_7 : decode cX1_fillAll 7 = .ok (.if_icmp .ge 61, 3) := by decide +kernel
theorem dX1_fillAll_10 : decode cX1_fillAll 10 = .ok (.aload_n 2, 1) := by decide +kernel
theorem dX1_fillAll_11 : decode cX1_fillAll 11 = .ok (.iload_n 3, 1) := by decide +kernel
theorem dX1_fillAll_12 : decode cX1_fillAll 12 = .ok (.iconst 1, 1) := by decide +kernel
theorem dX1_fillAll_13 : decode cX1_fillAll 13 = .ok (.invokevirtual 106, 3) := by decide +kernel
theorem dX1_fillAll_16 : decode cX1_fillAll 16 = .ok (.istore 4, 2) := by decide +kernel
theorem dX1_fillAll_18 : decode cX1_fillAll 18 = .ok (.aload_n 2, 1) := by decide +kernel
theorem dX1_fillAll_19 : decode cX1_fillAll 19 = .ok (.iload_n 3, 1) := by decide +kernel
theorem dX1_fillAll_20 : decode cX1_fillAll 20 = .ok (.iconst 0, 1) := by decide +kernel
theorem dX1_fillAll_21 : decode cX1_fillAll 21 = .ok (.invokevirtual 106, 3) := by decide +kernel
theorem dX1_fillAll_24 : decode cX1_fillAll 24 = .ok (.iload_n 1, 1) := by decide +kernel
theorem dX1_fillAll_25 : decode cX1_fillAll 25 = .ok (.if_icmp .ne 37, 3) := by decide +kernel
theorem dX1_fillAll_28 : decode cX1_fillAll 28 = .ok (.iload 4, 2) := by decide +kernel
theorem dX1_fillAll_30 : decode cX1_fillAll 30 = .ok (.aload_n 0, 1) := by decide +kernel
theorem dX1_fillAll_31 : decode cX1_fillAll 31 = .ok (.getfield 42, 3) := by decide +kernel
theorem dX1_fillAll_34 : decode cX1_fillAll 34 = .ok (.if_icmp .ge 28, 3) := by decide +kernel
theorem dX1_fillAll_37 : decode cX1_fillAll 37 = .ok (.aload_n 0, 1) := by decide +kernel
theorem dX1_fillAll_38 : decode cX1_fillAll 38 = .ok (.getfield 11, 3) := by decide +kernel
theorem dX1_fillAll_41 : decode cX1_fillAll 41 = .ok (.iload 4, 2) := by decide +kernel
theorem dX1_fillAll_43 : decode cX1_fillAll 43 = .ok (.aaload, 1) := by decide +kernel
theorem dX1_fillAll_44 : decode cX1_fillAll 44 = .ok (.getfield 88, 3) := by decide +kernel
theorem dX1_fillAll_47 : decode cX1_fillAll 47 = .ok (.iconst (-1), 1) := by decide +kernel
theorem dX1_fillAll_48 : decode cX1_fillAll 48 = .ok (.if_icmp .eq 14, 3) := by decide +kernel
theorem dX1_fillAll_51 : decode cX1_fillAll 51 = .ok (.aload_n 0, 1) := by decide +kernel
theorem dX1_fillAll_52 : decode cX1_fillAll 52 = .ok (.getfield 11, 3) := by decide +kernel
theorem dX1_fillAll_55 : decode cX1_fillAll 55 = .ok (.iload 4, 2) := by decide +kernel
theorem dX1_fillAll_57 : decode cX1_fillAll 57 = .ok (.aaload, 1) := by decide +kernel
theorem dX1_fillAll_58 : decode cX1_fillAll 58 = .ok (.iconst 1, 1) := by decide +kernel
theorem dX1_fillAll_59 : decode cX1_fillAll 59 = .ok (.putfield 114, 3) := by decide +kernel
theorem dX1_fillAll_62 : decode cX1_fillAll 62 = .ok (.iinc 3 1, 3) := by decide +kernel
theorem dX1_fillAll_65 : decode cX1_fillAll 65 = .ok (.goto (-63), 3) := by decide +kernel
theorem dX1_fillAll_68 : decode cX1_fillAll 68 = .ok (.return_, 1) := by decide +kernel
theorem dX1_patchAll_0 : decode cX1_patchAll 0 = .ok (.iconst 0, 1) := by decide +kernel
theorem dX1_patchAll_1 : decode cX1_patchAll 1 = .ok (.istore_n 3, 1) := by decide +kernel
theorem dX1_patchAll_2 : decode cX1_patchAll 2 = .ok (.iload_n 3, 1) := by decide +kernel
theorem dX1_patchAll_3 : decode cX1_patchAll 3 = .ok (.aload_n 2, 1) := by decide +kernel
theorem dX1_patchAll_4 : decode cX1_patchAll 4 = .ok (.getfield 101, 3) := by decide +kernel
theorem dX1_patchAll_7 : decode cX1_patchAll 7 = .ok (.if_icmp .ge 76, 3) := by decide +kernel
theorem dX1_patchAll_10 : decode cX1_patchAll 10 = .ok (.aload_n 2, 1) := by decide +kernel
theorem dX1_patchAll_11 : decode cX1_patchAll 11 = .ok (.iload_n 3, 1) := by decide +kernel
theorem dX1_patchAll_12 : decode cX1_patchAll 12 = .ok (.iconst 1, 1) := by decide +kernel
theorem dX1_patchAll_13 : decode cX1_patchAll 13 = .ok (.invokevirtual 106, 3) := by decide +kernel
theorem dX1_patchAll_16 : decode cX1_patchAll 16 = .ok (.istore 4, 2) := by decide +kernel
theorem dX1_patchAll_18 : decode cX1_patchAll 18 = .ok (.aload_n 2, 1) := by decide +kernel
theorem dX1_patchAll_19 : decode cX1_patchAll 19 = .ok (.iload_n 3, 1) := by decide +kernel
theorem dX1_patchAll_20 : decode cX1_patchAll 20 = .ok (.iconst 0, 1) := by decide +kernel
theorem dX1_patchAll_21 : decode cX1_patchAll 21 = .ok (.invokevirtual 106, 3) := by decide +kernel
theorem dX1_patchAll_24 : decode cX1_patchAll 24 = .ok (.iload_n 1, 1) := by decide +kernel
theorem dX1_patchAll_25 : decode cX1_patchAll 25 = .ok (.if_icmp .ne 52, 3) := by decide +kernel
theorem dX1_patchAll_28 : decode cX1_patchAll 28 = .ok (.iload 4, 2) := by decide +kernel
theorem dX1_patchAll_30 : decode cX1_patchAll 30 = .ok (.aload_n 0, 1) := by decide +kernel
theorem dX1_patchAll_31 : decode cX1_patchAll 31 = .ok (.getfield 42, 3) := by decide +kernel
theorem dX1_patchAll_34 : decode cX1_patchAll 34 = .ok (.if_icmp .ge 43, 3) := by decide +kernel
theorem dX1_patchAll_37 : decode cX1_patchAll 37 = .ok (.aload_n 0, 1) := by decide +kernel
theorem dX1_patchAll_38 : decode cX1_patchAll 38 = .ok (.getfield 11, 3) := by decide +kernel
theorem dX1_patchAll_41 : decode cX1_patchAll 41 = .ok (.iload 4, 2) := by decide +kernel
theorem dX1_patchAll_43 : decode cX1_patchAll 43 = .ok (.aaload, 1) := by decide +kernel
theorem dX1_patchAll_44 : decode cX1_patchAll 44 = .ok (.getfield 88, 3) := by decide +kernel
theorem dX1_patchAll_47 : decode cX1_patchAll 47 = .ok (.iconst (-1), 1) := by decide +kernel
theorem dX1_patchAll_48 : decode cX1_patchAll 48 = .ok (.if_icmp .ne 29, 3) := by decide +kernel
theorem dX1_patchAll_51 : decode cX1_patchAll 51 = .ok (.aload_n 0, 1) := by decide +kernel
theorem dX1_patchAll_52 : decode cX1_patchAll 52 = .ok (.getfield 11, 3) := by decide +kernel
theorem dX1_patchAll_55 : decode cX1_patchAll 55 = .ok (.iload 4, 2) := by decide +kernel
theorem dX1_patchAll_57 : decode cX1_patchAll 57 = .ok (.aaload, 1) := by decide +kernel
theorem dX1_patchAll_58 : decode cX1_patchAll 58 = .ok (.iconst 1, 1) := by decide +kernel
theorem dX1_patchAll_59 : decode cX1_patchAll 59 = .ok (.aload_n 0, 1) := by decide +kernel
theorem dX1_patchAll_60 : decode cX1_patchAll 60 = .ok (.getfield 11, 3) := by decide +kernel
theorem dX1_patchAll_63 : decode cX1_patchAll 63 = .ok (.iload 4, 2) := by decide +kernel
theorem dX1_patchAll_65 : decode cX1_patchAll 65 = .ok (.aaload, 1) := by decide +kernel
theorem dX1_patchAll_66 : decode cX1_patchAll 66 = .ok (.getfield 118, 3) := by decide +kernel
theorem dX1_patchAll_69 : decode cX1_patchAll 69 = .ok (.iconst 1, 1) := by decide +kernel
theorem dX1_patchAll_70 : decode cX1_patchAll 70 = .ok (.isub, 1) := by decide +kernel
theorem dX1_patchAll_71 : decode cX1_patchAll 71 = .ok (.invokestatic 120, 3) := by decide +kernel
theorem dX1_patchAll_74 : decode cX1_patchAll 74 = .ok (.putfield 118, 3) := by decide +kernel
theorem dX1_patchAll_77 : decode cX1_patchAll 77 = .ok (.iinc 3 1, 3) := by decide +kernel
theorem dX1_patchAll_80 : decode cX1_patchAll 80 = .ok (.goto (-78), 3) := by decide +kernel
theorem dX1_patchAll_83 : decode cX1_patchAll 83 = .ok (.return_, 1) := by decide +kernel
theorem dX1_passDayOut_0 : decode cX1_passDayOut 0 = .ok (.aload_n 2, 1) := by decide +kernel
theorem dX1_passDayOut_1 : decode cX1_passDayOut 1 = .ok (.invokevirtual 125, 3) := by decide +kernel
theorem dX1_passDayOut_4 : decode cX1_passDayOut 4 = .ok (.aload_n 2, 1) := by decide +kernel
theorem dX1_passDayOut_5 : decode cX1_passDayOut 5 = .ok (.getfield 88, 3) := by decide +kernel
theorem dX1_passDayOut_8 : decode cX1_passDayOut 8 = .ok (.istore 4, 2) := by decide +kernel
theorem dX1_passDayOut_10 : decode cX1_passDayOut 10 = .ok (.aload_n 2, 1) := by decide +kernel
theorem dX1_passDayOut_11 : decode cX1_passDayOut 11 = .ok (.getfield 127, 3) := by decide +kernel
theorem dX1_passDayOut_14 : decode cX1_passDayOut 14 = .ok (.aload_n 3, 1) := by decide +kernel
theorem dX1_passDayOut_15 : decode cX1_passDayOut 15 = .ok (.iload 4, 2) := by decide +kernel
theorem dX1_passDayOut_17 : decode cX1_passDayOut 17 = .ok (.iconst 3, 1) := by decide +kernel
theorem dX1_passDayOut_18 : decode cX1_passDayOut 18 = .ok (.invokevirtual 106, 3) := by decide +kernel
theorem dX1_passDayOut_21 : decode cX1_passDayOut 21 = .ok (.if_icmp .ge 4, 3) := by decide +kernel
theorem dX1_passDayOut_24 : decode cX1_passDayOut 24 = .ok (.return_, 1) := by decide +kernel
theorem dX1_passDayOut_25 : decode cX1_passDayOut 25 = .ok (.aload_n 0, 1) := by decide +kernel
theorem dX1_passDayOut_26 : decode cX1_passDayOut 26 = .ok (.getfield 39, 3) := by decide +kernel
theorem dX1_passDayOut_29 : decode cX1_passDayOut 29 = .ok (.iload 4, 2) := by decide +kernel
theorem dX1_passDayOut_31 : decode cX1_passDayOut 31 = .ok (.aload_n 2, 1) := by decide +kernel
theorem dX1_passDayOut_32 : decode cX1_passDayOut 32 = .ok (.getfield 118, 3) := by decide +kernel
theorem dX1_passDayOut_35 : decode cX1_passDayOut 35 = .ok (.aload_n 2, 1) := by decide +kernel
theorem dX1_passDayOut_36 : decode cX1_passDayOut 36 = .ok (.getfield 130, 3) := by decide +kernel
theorem dX1_passDayOut_39 : decode cX1_passDayOut 39 = .ok (.imul, 1) := by decide +kernel
theorem dX1_passDayOut_40 : decode cX1_passDayOut 40 = .ok (.aload_n 2, 1) := by decide +kernel
theorem dX1_passDayOut_41 : decode cX1_passDayOut 41 = .ok (.getfield 132, 3) := by decide +kernel
theorem dX1_passDayOut_44 : decode cX1_passDayOut 44 = .ok (.isub, 1) := by decide +kernel
theorem dX1_passDayOut_45 : decode cX1_passDayOut 45 = .ok (.iastore, 1) := by decide +kernel
theorem dX1_passDayOut_46 : decode cX1_passDayOut 46 = .ok (.aload_n 2, 1) := by decide +kernel
theorem dX1_passDayOut_47 : decode cX1_passDayOut 47 = .ok (.getfield 114, 3) := by decide +kernel
theorem dX1_passDayOut_50 : decode cX1_passDayOut 50 = .ok (.ifCond .eq 16, 3) := by decide +kernel
theorem dX1_passDayOut_53 : decode cX1_passDayOut 53 = .ok (.aload_n 0, 1) := by decide +kernel
theorem dX1_passDayOut_54 : decode cX1_passDayOut 54 = .ok (.getfield 36, 3) := by decide +kernel
theorem dX1_passDayOut_57 : decode cX1_passDayOut 57 = .ok (.iload 4, 2) := by decide +kernel
theorem dX1_passDayOut_59 : decode cX1_passDayOut 59 = .ok (.iload_n 1, 1) := by decide +kernel
theorem dX1_passDayOut_60 : decode cX1_passDayOut 60 = .ok (.iastore, 1) := by decide +kernel
theorem dX1_passDayOut_61 : decode cX1_passDayOut 61 = .ok (.aload_n 2, 1) := by decide +kernel
theorem dX1_passDayOut_62 : decode cX1_passDayOut 62 = .ok (.iconst 0, 1) := by decide +kernel
theorem dX1_passDayOut_63 : decode cX1_passDayOut 63 = .ok (.putfield 114, 3) := by decide +kernel
theorem dX1_passDayOut_66 : decode cX1_passDayOut 66 = .ok (.aload_n 2, 1) := by decide +kernel
theorem dX1_passDayOut_67 : decode cX1_passDayOut 67 = .ok (.iconst (-1), 1) := by decide +kernel
theorem dX1_passDayOut_68 : decode cX1_passDayOut 68 = .ok (.putfield 88, 3) := by decide +kernel
theorem dX1_passDayOut_71 : decode cX1_passDayOut 71 = .ok (.return_, 1) := by decide +kernel
theorem dX1_note_0 : decode cX1_note 0 = .ok (.iload_n 1, 1) := by decide +kernel
theorem dX1_note_1 : decode cX1_note 1 = .ok (.bipush 8, 2) := by decide +kernel
theorem dX1_note_3 : decode cX1_note 3 = .ok (.imul, 1) := by decide +kernel
theorem dX1_note_4 : decode cX1_note 4 = .ok (.iload_n 2, 1) := by decide +kernel
theorem dX1_note_5 : decode cX1_note 5 = .ok (.iadd, 1) := by decide +kernel
theorem dX1_note_6 : decode cX1_note 6 = .ok (.istore_n 3, 1) := by decide +kernel
theorem dX1_note_7 : decode cX1_note 7 = .ok (.aload_n 0, 1) := by decide +kernel
theorem dX1_note_8 : decode cX1_note 8 = .ok (.getfield 17, 3) := by decide +kernel
theorem dX1_note_11 : decode cX1_note 11 = .ok (.iload_n 3, 1) := by decide +kernel
theorem dX1_note_12 : decode cX1_note 12 = .ok (.aload_n 0, 1) := by decide +kernel
theorem dX1_note_13 : decode cX1_note 13 = .ok (.getfield 11, 3) := by decide +kernel
theorem dX1_note_16 : decode cX1_note 16 = .ok (.iload_n 2, 1) := by decide +kernel
theorem dX1_note_17 : decode cX1_note 17 = .ok (.aaload, 1) := by decide +kernel
theorem dX1_note_18 : decode cX1_note 18 = .ok (.getfield 118, 3) := by decide +kernel
theorem dX1_note_21 : decode cX1_note 21 = .ok (.iastore, 1) := by decide +kernel
theorem dX1_note_22 : decode cX1_note 22 = .ok (.aload_n 0, 1) := by decide +kernel
theorem dX1_note_23 : decode cX1_note 23 = .ok (.getfield 21, 3) := by decide +kernel
theorem dX1_note_26 : decode cX1_note 26 = .ok (.iload_n 3, 1) := by decide +kernel
theorem dX1_note_27 : decode cX1_note 27 = .ok (.aload_n 0, 1) := by decide +kernel
theorem dX1_note_28 : decode cX1_note 28 = .ok (.getfield 11, 3) := by decide +kernel
theorem dX1_note_31 : decode cX1_note 31 = .ok (.iload_n 2, 1) := by decide +kernel
theorem dX1_note_32 : decode cX1_note 32 = .ok (.aaload, 1) := by decide +kernel
theorem dX1_note_33 : decode cX1_note 33 = .ok (.getfield 130, 3) := by decide +kernel
theorem dX1_note_36 : decode cX1_note 36 = .ok (.iastore, 1) := by decide +kernel
theorem dX1_note_37 : decode cX1_note 37 = .ok (.aload_n 0, 1) := by decide +kernel
theorem dX1_note_38 : decode cX1_note 38 = .ok (.getfield 24, 3) := by decide +kernel
theorem dX1_note_41 : decode cX1_note 41 = .ok (.iload_n 3, 1) := by decide +kernel
theorem dX1_note_42 : decode cX1_note 42 = .ok (.aload_n 0, 1) := by decide +kernel
theorem dX1_note_43 : decode cX1_note 43 = .ok (.getfield 11, 3) := by decide +kernel
theorem dX1_note_46 : decode cX1_note 46 = .ok (.iload_n 2, 1) := by decide +kernel
theorem dX1_note_47 : decode cX1_note 47 = .ok (.aaload, 1) := by decide +kernel
theorem dX1_note_48 : decode cX1_note 48 = .ok (.getfield 88, 3) := by decide +kernel
theorem dX1_note_51 : decode cX1_note 51 = .ok (.iastore, 1) := by decide +kernel
theorem dX1_note_52 : decode cX1_note 52 = .ok (.return_, 1) := by decide +kernel
theorem dX1_bitsAtBank_0 : decode cX1_bitsAtBank 0 = .ok (.iconst 0, 1) := by decide +kernel
theorem dX1_bitsAtBank_1 : decode cX1_bitsAtBank 1 = .ok (.istore_n 1, 1) := by decide +kernel
theorem dX1_bitsAtBank_2 : decode cX1_bitsAtBank 2 = .ok (.iconst 0, 1) := by decide +kernel
theorem dX1_bitsAtBank_3 : decode cX1_bitsAtBank 3 = .ok (.istore_n 2, 1) := by decide +kernel
theorem dX1_bitsAtBank_4 : decode cX1_bitsAtBank 4 = .ok (.iload_n 2, 1) := by decide +kernel
theorem dX1_bitsAtBank_5 : decode cX1_bitsAtBank 5 = .ok (.aload_n 0, 1) := by decide +kernel
theorem dX1_bitsAtBank_6 : decode cX1_bitsAtBank 6 = .ok (.getfield 42, 3) := by decide +kernel
theorem dX1_bitsAtBank_9 : decode cX1_bitsAtBank 9 = .ok (.if_icmp .ge 28, 3) := by decide +kernel
theorem dX1_bitsAtBank_12 : decode cX1_bitsAtBank 12 = .ok (.aload_n 0, 1) := by decide +kernel
theorem dX1_bitsAtBank_13 : decode cX1_bitsAtBank 13 = .ok (.getfield 11, 3) := by decide +kernel
theorem dX1_bitsAtBank_16 : decode cX1_bitsAtBank 16 = .ok (.iload_n 2, 1) := by decide +kernel
theorem dX1_bitsAtBank_17 : decode cX1_bitsAtBank 17 = .ok (.aaload, 1) := by decide +kernel
theorem dX1_bitsAtBank_18 : decode cX1_bitsAtBank 18 = .ok (.getfield 88, 3) := by decide +kernel
theorem dX1_bitsAtBank_21 : decode cX1_bitsAtBank 21 = .ok (.iconst (-1), 1) := by decide +kernel
theorem dX1_bitsAtBank_22 : decode cX1_bitsAtBank 22 = .ok (.if_icmp .ne 9, 3) := by decide +kernel
theorem dX1_bitsAtBank_25 : decode cX1_bitsAtBank 25 = .ok (.iload_n 1, 1) := by decide +kernel
theorem dX1_bitsAtBank_26 : decode cX1_bitsAtBank 26 = .ok (.iconst 1, 1) := by decide +kernel
theorem dX1_bitsAtBank_27 : decode cX1_bitsAtBank 27 = .ok (.iload_n 2, 1) := by decide +kernel
theorem dX1_bitsAtBank_28 : decode cX1_bitsAtBank 28 = .ok (.ishl, 1) := by decide +kernel
theorem dX1_bitsAtBank_29 : decode cX1_bitsAtBank 29 = .ok (.ior, 1) := by decide +kernel
theorem dX1_bitsAtBank_30 : decode cX1_bitsAtBank 30 = .ok (.istore_n 1, 1) := by decide +kernel
theorem dX1_bitsAtBank_31 : decode cX1_bitsAtBank 31 = .ok (.iinc 2 1, 3) := by decide +kernel
theorem dX1_bitsAtBank_34 : decode cX1_bitsAtBank 34 = .ok (.goto (-30), 3) := by decide +kernel
theorem dX1_bitsAtBank_37 : decode cX1_bitsAtBank 37 = .ok (.iload_n 1, 1) := by decide +kernel
theorem dX1_bitsAtBank_38 : decode cX1_bitsAtBank 38 = .ok (.ireturn, 1) := by decide +kernel
theorem dX1_bitsFilled_0 : decode cX1_bitsFilled 0 = .ok (.iconst 0, 1) := by decide +kernel
theorem dX1_bitsFilled_1 : decode cX1_bitsFilled 1 = .ok (.istore_n 1, 1) := by decide +kernel
theorem dX1_bitsFilled_2 : decode cX1_bitsFilled 2 = .ok (.iconst 0, 1) := by decide +kernel
theorem dX1_bitsFilled_3 : decode cX1_bitsFilled 3 = .ok (.istore_n 2, 1) := by decide +kernel
theorem dX1_bitsFilled_4 : decode cX1_bitsFilled 4 = .ok (.iload_n 2, 1) := by decide +kernel
theorem dX1_bitsFilled_5 : decode cX1_bitsFilled 5 = .ok (.aload_n 0, 1) := by decide +kernel
theorem dX1_bitsFilled_6 : decode cX1_bitsFilled 6 = .ok (.getfield 42, 3) := by decide +kernel
theorem dX1_bitsFilled_9 : decode cX1_bitsFilled 9 = .ok (.if_icmp .ge 27, 3) := by decide +kernel
theorem dX1_bitsFilled_12 : decode cX1_bitsFilled 12 = .ok (.aload_n 0, 1) := by decide +kernel
theorem dX1_bitsFilled_13 : decode cX1_bitsFilled 13 = .ok (.getfield 11, 3) := by decide +kernel
theorem dX1_bitsFilled_16 : decode cX1_bitsFilled 16 = .ok (.iload_n 2, 1) := by decide +kernel
theorem dX1_bitsFilled_17 : decode cX1_bitsFilled 17 = .ok (.aaload, 1) := by decide +kernel
theorem dX1_bitsFilled_18 : decode cX1_bitsFilled 18 = .ok (.getfield 114, 3) := by decide +kernel
theorem dX1_bitsFilled_21 : decode cX1_bitsFilled 21 = .ok (.ifCond .eq 9, 3) := by decide +kernel
theorem dX1_bitsFilled_24 : decode cX1_bitsFilled 24 = .ok (.iload_n 1, 1) := by decide +kernel
theorem dX1_bitsFilled_25 : decode cX1_bitsFilled 25 = .ok (.iconst 1, 1) := by decide +kernel
theorem dX1_bitsFilled_26 : decode cX1_bitsFilled 26 = .ok (.iload_n 2, 1) := by decide +kernel
theorem dX1_bitsFilled_27 : decode cX1_bitsFilled 27 = .ok (.ishl, 1) := by decide +kernel
theorem dX1_bitsFilled_28 : decode cX1_bitsFilled 28 = .ok (.ior, 1) := by decide +kernel
theorem dX1_bitsFilled_29 : decode cX1_bitsFilled 29 = .ok (.istore_n 1, 1) := by decide +kernel
theorem dX1_bitsFilled_30 : decode cX1_bitsFilled 30 = .ok (.iinc 2 1, 3) := by decide +kernel
theorem dX1_bitsFilled_33 : decode cX1_bitsFilled 33 = .ok (.goto (-29), 3) := by decide +kernel
theorem dX1_bitsFilled_36 : decode cX1_bitsFilled 36 = .ok (.iload_n 1, 1) := by decide +kernel
theorem dX1_bitsFilled_37 : decode cX1_bitsFilled 37 = .ok (.ireturn, 1) := by decide +kernel
theorem dX1_wideBehind_0 : decode cX1_wideBehind 0 = .ok (.aload_n 0, 1) := by decide +kernel
theorem dX1_wideBehind_1 : decode cX1_wideBehind 1 = .ok (.getfield 17, 3) := by decide +kernel
theorem dX1_wideBehind_4 : decode cX1_wideBehind 4 = .ok (.iload_n 1, 1) := by decide +kernel
theorem dX1_wideBehind_5 : decode cX1_wideBehind 5 = .ok (.bipush 8, 2) := by decide +kernel
theorem dX1_wideBehind_7 : decode cX1_wideBehind 7 = .ok (.imul, 1) := by decide +kernel
theorem dX1_wideBehind_8 : decode cX1_wideBehind 8 = .ok (.iload_n 2, 1) := by decide +kernel
theorem dX1_wideBehind_9 : decode cX1_wideBehind 9 = .ok (.iadd, 1) := by decide +kernel
theorem dX1_wideBehind_10 : decode cX1_wideBehind 10 = .ok (.iaload, 1) := by decide +kernel
theorem dX1_wideBehind_11 : decode cX1_wideBehind 11 = .ok (.ireturn, 1) := by decide +kernel
theorem dX1_deepBehind_0 : decode cX1_deepBehind 0 = .ok (.aload_n 0, 1) := by decide +kernel
theorem dX1_deepBehind_1 : decode cX1_deepBehind 1 = .ok (.getfield 21, 3) := by decide +kernel
theorem dX1_deepBehind_4 : decode cX1_deepBehind 4 = .ok (.iload_n 1, 1) := by decide +kernel
theorem dX1_deepBehind_5 : decode cX1_deepBehind 5 = .ok (.bipush 8, 2) := by decide +kernel
theorem dX1_deepBehind_7 : decode cX1_deepBehind 7 = .ok (.imul, 1) := by decide +kernel
theorem dX1_deepBehind_8 : decode cX1_deepBehind 8 = .ok (.iload_n 2, 1) := by decide +kernel
theorem dX1_deepBehind_9 : decode cX1_deepBehind 9 = .ok (.iadd, 1) := by decide +kernel
theorem dX1_deepBehind_10 : decode cX1_deepBehind 10 = .ok (.iaload, 1) := by decide +kernel
theorem dX1_deepBehind_11 : decode cX1_deepBehind 11 = .ok (.ireturn, 1) := by decide +kernel
theorem dX1_loanBehind_0 : decode cX1_loanBehind 0 = .ok (.aload_n 0, 1) := by decide +kernel
theorem dX1_loanBehind_1 : decode cX1_loanBehind 1 = .ok (.getfield 24, 3) := by decide +kernel
theorem dX1_loanBehind_4 : decode cX1_loanBehind 4 = .ok (.iload_n 1, 1) := by decide +kernel
theorem dX1_loanBehind_5 : decode cX1_loanBehind 5 = .ok (.bipush 8, 2) := by decide +kernel
theorem dX1_loanBehind_7 : decode cX1_loanBehind 7 = .ok (.imul, 1) := by decide +kernel
theorem dX1_loanBehind_8 : decode cX1_loanBehind 8 = .ok (.iload_n 2, 1) := by decide +kernel
theorem dX1_loanBehind_9 : decode cX1_loanBehind 9 = .ok (.iadd, 1) := by decide +kernel
theorem dX1_loanBehind_10 : decode cX1_loanBehind 10 = .ok (.iaload, 1) := by decide +kernel
theorem dX1_loanBehind_11 : decode cX1_loanBehind 11 = .ok (.ireturn, 1) := by decide +kernel
theorem dX1_couldBePatched_0 : decode cX1_couldBePatched 0 = .ok (.aload_n 0, 1) := by decide +kernel
theorem dX1_couldBePatched_1 : decode cX1_couldBePatched 1 = .ok (.getfield 27, 3) := by decide +kernel
theorem dX1_couldBePatched_4 : decode cX1_couldBePatched 4 = .ok (.iload_n 1, 1) := by decide +kernel
theorem dX1_couldBePatched_5 : decode cX1_couldBePatched 5 = .ok (.iaload, 1) := by decide +kernel
theorem dX1_couldBePatched_6 : decode cX1_couldBePatched 6 = .ok (.iload_n 2, 1) := by decide +kernel
theorem dX1_couldBePatched_7 : decode cX1_couldBePatched 7 = .ok (.ishr, 1) := by decide +kernel
theorem dX1_couldBePatched_8 : decode cX1_couldBePatched 8 = .ok (.iconst 1, 1) := by decide +kernel
theorem dX1_couldBePatched_9 : decode cX1_couldBePatched 9 = .ok (.iand, 1) := by decide +kernel
theorem dX1_couldBePatched_10 : decode cX1_couldBePatched 10 = .ok (.iconst 1, 1) := by decide +kernel
theorem dX1_couldBePatched_11 : decode cX1_couldBePatched 11 = .ok (.if_icmp .ne 7, 3) := by decide +kernel
theorem dX1_couldBePatched_14 : decode cX1_couldBePatched 14 = .ok (.iconst 1, 1) := by decide +kernel
theorem dX1_couldBePatched_15 : decode cX1_couldBePatched 15 = .ok (.goto 4, 3) := by decide +kernel
theorem dX1_couldBePatched_18 : decode cX1_couldBePatched 18 = .ok (.iconst 0, 1) := by decide +kernel
theorem dX1_couldBePatched_19 : decode cX1_couldBePatched 19 = .ok (.ireturn, 1) := by decide +kernel
theorem dX1_isOutBy_0 : decode cX1_isOutBy 0 = .ok (.iload_n 2, 1) := by decide +kernel
theorem dX1_isOutBy_1 : decode cX1_isOutBy 1 = .ok (.aload_n 0, 1) := by decide +kernel
theorem dX1_isOutBy_2 : decode cX1_isOutBy 2 = .ok (.getfield 42, 3) := by decide +kernel
theorem dX1_isOutBy_5 : decode cX1_isOutBy 5 = .ok (.if_icmp .ge 17, 3) := by decide +kernel
theorem dX1_isOutBy_8 : decode cX1_isOutBy 8 = .ok (.aload_n 0, 1) := by decide +kernel
theorem dX1_isOutBy_9 : decode cX1_isOutBy 9 = .ok (.iload_n 1, 1) := by decide +kernel
theorem dX1_isOutBy_10 : decode cX1_isOutBy 10 = .ok (.iload_n 2, 1) := by decide +kernel
theorem dX1_isOutBy_11 : decode cX1_isOutBy 11 = .ok (.invokevirtual 135, 3) := by decide +kernel
theorem dX1_isOutBy_14 : decode cX1_isOutBy 14 = .ok (.iload_n 3, 1) := by decide +kernel
theorem dX1_isOutBy_15 : decode cX1_isOutBy 15 = .ok (.if_icmp .ne 7, 3) := by decide +kernel
theorem dX1_isOutBy_18 : decode cX1_isOutBy 18 = .ok (.iconst 1, 1) := by decide +kernel
theorem dX1_isOutBy_19 : decode cX1_isOutBy 19 = .ok (.goto 4, 3) := by decide +kernel
theorem dX1_isOutBy_22 : decode cX1_isOutBy 22 = .ok (.iconst 0, 1) := by decide +kernel
theorem dX1_isOutBy_23 : decode cX1_isOutBy 23 = .ok (.ireturn, 1) := by decide +kernel
theorem dX1_sightOf_0 : decode cX1_sightOf 0 = .ok (.aload_n 0, 1) := by decide +kernel
theorem dX1_sightOf_1 : decode cX1_sightOf 1 = .ok (.iload_n 1, 1) := by decide +kernel
theorem dX1_sightOf_2 : decode cX1_sightOf 2 = .ok (.iload_n 2, 1) := by decide +kernel
theorem dX1_sightOf_3 : decode cX1_sightOf 3 = .ok (.invokevirtual 135, 3) := by decide +kernel
theorem dX1_sightOf_6 : decode cX1_sightOf 6 = .ok (.iconst (-1), 1) := by decide +kernel
theorem dX1_sightOf_7 : decode cX1_sightOf 7 = .ok (.if_icmp .ne 12, 3) := by decide +kernel
theorem dX1_sightOf_10 : decode cX1_sightOf 10 = .ok (.aload_n 0, 1) := by decide +kernel
theorem dX1_sightOf_11 : decode cX1_sightOf 11 = .ok (.iload_n 1, 1) := by decide +kernel
theorem dX1_sightOf_12 : decode cX1_sightOf 12 = .ok (.iload_n 2, 1) := by decide +kernel
theorem dX1_sightOf_13 : decode cX1_sightOf 13 = .ok (.invokevirtual 138, 3) := by decide +kernel
theorem dX1_sightOf_16 : decode cX1_sightOf 16 = .ok (.goto 4, 3) := by decide +kernel
theorem dX1_sightOf_19 : decode cX1_sightOf 19 = .ok (.iconst 0, 1) := by decide +kernel
theorem dX1_sightOf_20 : decode cX1_sightOf 20 = .ok (.ireturn, 1) := by decide +kernel
theorem dX1_vaultBehind_0 : decode cX1_vaultBehind 0 = .ok (.iconst 0, 1) := by decide +kernel
theorem dX1_vaultBehind_1 : decode cX1_vaultBehind 1 = .ok (.istore_n 2, 1) := by decide +kernel
theorem dX1_vaultBehind_2 : decode cX1_vaultBehind 2 = .ok (.iconst 0, 1) := by decide +kernel
theorem dX1_vaultBehind_3 : decode cX1_vaultBehind 3 = .ok (.istore_n 3, 1) := by decide +kernel
theorem dX1_vaultBehind_4 : decode cX1_vaultBehind 4 = .ok (.iload_n 3, 1) := by decide +kernel
theorem dX1_vaultBehind_5 : decode cX1_vaultBehind 5 = .ok (.aload_n 0, 1) := by decide +kernel
theorem dX1_vaultBehind_6 : decode cX1_vaultBehind 6 = .ok (.getfield 42, 3) := by decide +kernel
theorem dX1_vaultBehind_9 : decode cX1_vaultBehind 9 = .ok (.if_icmp .ge 35, 3) := by decide +kernel
theorem dX1_vaultBehind_12 : decode cX1_vaultBehind 12 = .ok (.aload_n 0, 1) := by decide +kernel
theorem dX1_vaultBehind_13 : decode cX1_vaultBehind 13 = .ok (.iload_n 1, 1) := by decide +kernel
theorem dX1_vaultBehind_14 : decode cX1_vaultBehind 14 = .ok (.iload_n 3, 1) := by decide +kernel
theorem dX1_vaultBehind_15 : decode cX1_vaultBehind 15 = .ok (.invokevirtual 135, 3) := by decide +kernel
theorem dX1_vaultBehind_18 : decode cX1_vaultBehind 18 = .ok (.iconst (-1), 1) := by decide +kernel
theorem dX1_vaultBehind_19 : decode cX1_vaultBehind 19 = .ok (.if_icmp .ne 19, 3) := by decide +kernel
theorem dX1_vaultBehind_22 : decode cX1_vaultBehind 22 = .ok (.iload_n 2, 1) := by decide +kernel
theorem dX1_vaultBehind_23 : decode cX1_vaultBehind 23 = .ok (.aload_n 0, 1) := by decide +kernel
theorem dX1_vaultBehind_24 : decode cX1_vaultBehind 24 = .ok (.iload_n 1, 1) := by decide +kernel
theorem dX1_vaultBehind_25 : decode cX1_vaultBehind 25 = .ok (.iload_n 3, 1) := by decide +kernel
theorem dX1_vaultBehind_26 : decode cX1_vaultBehind 26 = .ok (.invokevirtual 138, 3) := by decide +kernel
theorem dX1_vaultBehind_29 : decode cX1_vaultBehind 29 = .ok (.aload_n 0, 1) := by decide +kernel
theorem dX1_vaultBehind_30 : decode cX1_vaultBehind 30 = .ok (.iload_n 1, 1) := by decide +kernel
theorem dX1_vaultBehind_31 : decode cX1_vaultBehind 31 = .ok (.iload_n 3, 1) := by decide +kernel
theorem dX1_vaultBehind_32 : decode cX1_vaultBehind 32 = .ok (.invokevirtual 141, 3) := by decide +kernel
theorem dX1_vaultBehind_35 : decode cX1_vaultBehind 35 = .ok (.imul, 1) := by decide +kernel
theorem dX1_vaultBehind_36 : decode cX1_vaultBehind 36 = .ok (.iadd, 1) := by decide +kernel
theorem dX1_vaultBehind_37 : decode cX1_vaultBehind 37 = .ok (.istore_n 2, 1) := by decide +kernel
theorem dX1_vaultBehind_38 : decode cX1_vaultBehind 38 = .ok (.iinc 3 1, 3) := by decide +kernel
theorem dX1_vaultBehind_41 : decode cX1_vaultBehind 41 = .ok (.goto (-37), 3) := by decide +kernel
theorem dX1_vaultBehind_44 : decode cX1_vaultBehind 44 = .ok (.iload_n 2, 1) := by decide +kernel
theorem dX1_vaultBehind_45 : decode cX1_vaultBehind 45 = .ok (.ireturn, 1) := by decide +kernel
theorem dX1_countedFrom_0 : decode cX1_countedFrom 0 = .ok (.iconst 0, 1) := by decide +kernel
theorem dX1_countedFrom_1 : decode cX1_countedFrom 1 = .ok (.istore_n 3, 1) := by decide +kernel
theorem dX1_countedFrom_2 : decode cX1_countedFrom 2 = .ok (.iload_n 1, 1) := by decide +kernel
theorem dX1_countedFrom_3 : decode cX1_countedFrom 3 = .ok (.istore 4, 2) := by decide +kernel
theorem dX1_countedFrom_5 : decode cX1_countedFrom 5 = .ok (.iload 4, 2) := by decide +kernel
theorem dX1_countedFrom_7 : decode cX1_countedFrom 7 = .ok (.iload_n 2, 1) := by decide +kernel
theorem dX1_countedFrom_8 : decode cX1_countedFrom 8 = .ok (.if_icmp .ge 26, 3) := by decide +kernel
theorem dX1_countedFrom_11 : decode cX1_countedFrom 11 = .ok (.iload 4, 2) := by decide +kernel
theorem dX1_countedFrom_13 : decode cX1_countedFrom 13 = .ok (.bipush 52, 2) := by decide +kernel
theorem dX1_countedFrom_15 : decode cX1_countedFrom 15 = .ok (.if_icmp .ge 19, 3) := by decide +kernel
theorem dX1_countedFrom_18 : decode cX1_countedFrom 18 = .ok (.iload_n 3, 1) := by decide +kernel
theorem dX1_countedFrom_19 : decode cX1_countedFrom 19 = .ok (.aload_n 0, 1) := by decide +kernel
theorem dX1_countedFrom_20 : decode cX1_countedFrom 20 = .ok (.getfield 33, 3) := by decide +kernel
theorem dX1_countedFrom_23 : decode cX1_countedFrom 23 = .ok (.iload 4, 2) := by decide +kernel
theorem dX1_countedFrom_25 : decode cX1_countedFrom 25 = .ok (.iaload, 1) := by decide +kernel
theorem dX1_countedFrom_26 : decode cX1_countedFrom 26 = .ok (.iadd, 1) := by decide +kernel
theorem dX1_countedFrom_27 : decode cX1_countedFrom 27 = .ok (.istore_n 3, 1) := by decide +kernel
theorem dX1_countedFrom_28 : decode cX1_countedFrom 28 = .ok (.iinc 4 1, 3) := by decide +kernel
theorem dX1_countedFrom_31 : decode cX1_countedFrom 31 = .ok (.goto (-26), 3) := by decide +kernel
theorem dX1_countedFrom_34 : decode cX1_countedFrom 34 = .ok (.iload_n 3, 1) := by decide +kernel
theorem dX1_countedFrom_35 : decode cX1_countedFrom 35 = .ok (.ireturn, 1) := by decide +kernel
theorem dX2_init_0 : decode cX2_init 0 = .ok (.aload_n 0, 1) := by decide +kernel
theorem dX2_init_1 : decode cX2_init 1 = .ok (.invokespecial 3, 3) := by decide +kernel
theorem dX2_init_4 : decode cX2_init 4 = .ok (.return_, 1) := by decide +kernel
theorem dX2_begin_0 : decode cX2_begin 0 = .ok (.aload_n 0, 1) := by decide +kernel
theorem dX2_begin_1 : decode cX2_begin 1 = .ok (.aload_n 1, 1) := by decide +kernel
theorem dX2_begin_2 : decode cX2_begin 2 = .ok (.iload_n 2, 1) := by decide +kernel
theorem dX2_begin_3 : decode cX2_begin 3 = .ok (.iconst 0, 1) := by decide +kernel
theorem dX2_begin_4 : decode cX2_begin 4 = .ok (.invokevirtual 9, 3) := by decide +kernel
theorem dX2_begin_7 : decode cX2_begin 7 = .ok (.putfield 15, 3) := by decide +kernel
theorem dX2_begin_10 : decode cX2_begin 10 = .ok (.aload_n 0, 1) := by decide +kernel
theorem dX2_begin_11 : decode cX2_begin 11 = .ok (.aload_n 1, 1) := by decide +kernel
theorem dX2_begin_12 : decode cX2_begin 12 = .ok (.iload_n 2, 1) := by decide +kernel
theorem dX2_begin_13 : decode cX2_begin 13 = .ok (.iconst 1, 1) := by decide +kernel
theorem dX2_begin_14 : decode cX2_begin 14 = .ok (.invokevirtual 9, 3) := by decide +kernel
theorem dX2_begin_17 : decode cX2_begin 17 = .ok (.putfield 21, 3) := by decide +kernel
theorem dX2_begin_20 : decode cX2_begin 20 = .ok (.aload_n 0, 1) := by decide +kernel
theorem dX2_begin_21 : decode cX2_begin 21 = .ok (.aload_n 1, 1) := by decide +kernel
theorem dX2_begin_22 : decode cX2_begin 22 = .ok (.iload_n 2, 1) := by decide +kernel
theorem dX2_begin_23 : decode cX2_begin 23 = .ok (.iconst 2, 1) := by decide +kernel
theorem dX2_begin_24 : decode cX2_begin 24 = .ok (.invokevirtual 9, 3) := by decide +kernel
theorem dX2_begin_27 : decode cX2_begin 27 = .ok (.putfield 24, 3) := by decide +kernel
theorem dX2_begin_30 : decode cX2_begin 30 = .ok (.aload_n 0, 1) := by decide +kernel
theorem dX2_begin_31 : decode cX2_begin 31 = .ok (.aload_n 1, 1) := by decide +kernel
theorem dX2_begin_32 : decode cX2_begin 32 = .ok (.iload_n 2, 1) := by decide +kernel
theorem dX2_begin_33 : decode cX2_begin 33 = .ok (.iconst 3, 1) := by decide +kernel
theorem dX2_begin_34 : decode cX2_begin 34 = .ok (.invokevirtual 9, 3) := by decide +kernel
theorem dX2_begin_37 : decode cX2_begin 37 = .ok (.putfield 27, 3) := by decide +kernel
theorem dX2_begin_40 : decode cX2_begin 40 = .ok (.aload_n 0, 1) := by decide +kernel
theorem dX2_begin_41 : decode cX2_begin 41 = .ok (.iconst (-1), 1) := by decide +kernel
theorem dX2_begin_42 : decode cX2_begin 42 = .ok (.putfield 30, 3) := by decide +kernel
theorem dX2_begin_45 : decode cX2_begin 45 = .ok (.aload_n 0, 1) := by decide +kernel
theorem dX2_begin_46 : decode cX2_begin 46 = .ok (.iconst 0, 1) := by decide +kernel
theorem dX2_begin_47 : decode cX2_begin 47 = .ok (.putfield 33, 3) := by decide +kernel
theorem dX2_begin_50 : decode cX2_begin 50 = .ok (.aload_n 0, 1) := by decide +kernel
theorem dX2_begin_51 : decode cX2_begin 51 = .ok (.iconst 0, 1) := by decide +kernel
theorem dX2_begin_52 : decode cX2_begin 52 = .ok (.putfield 36, 3) := by decide +kernel
theorem dX2_begin_55 : decode cX2_begin 55 = .ok (.aload_n 0, 1) := by decide +kernel
theorem dX2_begin_56 : decode cX2_begin 56 = .ok (.iconst 0, 1) := by decide +kernel
theorem dX2_begin_57 : decode cX2_begin 57 = .ok (.putfield 39, 3) := by decide +kernel
theorem dX2_begin_60 : decode cX2_begin 60 = .ok (.return_, 1) := by decide +kernel
theorem dX2_lendBy_0 : decode cX2_lendBy 0 = .ok (.aload_n 0, 1) := by decide +kernel
theorem dX2_lendBy_1 : decode cX2_lendBy 1 = .ok (.iload_n 1, 1) := by decide +kernel
theorem dX2_lendBy_2 : decode cX2_lendBy 2 = .ok (.putfield 30, 3) := by decide +kernel
theorem dX2_lendBy_5 : decode cX2_lendBy 5 = .ok (.aload_n 0, 1) := by decide +kernel
theorem dX2_lendBy_6 : decode cX2_lendBy 6 = .ok (.iconst 0, 1) := by decide +kernel
theorem dX2_lendBy_7 : decode cX2_lendBy 7 = .ok (.putfield 33, 3) := by decide +kernel
theorem dX2_lendBy_10 : decode cX2_lendBy 10 = .ok (.aload_n 0, 1) := by decide +kernel
theorem dX2_lendBy_11 : decode cX2_lendBy 11 = .ok (.aload_n 0, 1) := by decide +kernel
theorem dX2_lendBy_12 : decode cX2_lendBy 12 = .ok (.getfield 21, 3) := by decide +kernel
theorem dX2_lendBy_15 : decode cX2_lendBy 15 = .ok (.aload_n 0, 1) := by decide +kernel
theorem dX2_lendBy_16 : decode cX2_lendBy 16 = .ok (.getfield 24, 3) := by decide +kernel
theorem dX2_lendBy_19 : decode cX2_lendBy 19 = .ok (.imul, 1) := by decide +kernel
theorem dX2_lendBy_20 : decode cX2_lendBy 20 = .ok (.putfield 36, 3) := by decide +kernel
theorem dX2_lendBy_23 : decode cX2_lendBy 23 = .ok (.return_, 1) := by decide +kernel
theorem dX2_passDayOut_0 : decode cX2_passDayOut 0 = .ok (.aload_n 0, 1) := by decide +kernel
theorem dX2_passDayOut_1 : decode cX2_passDayOut 1 = .ok (.dup, 1) := by decide +kernel
theorem dX2_passDayOut_2 : decode cX2_passDayOut 2 = .ok (.getfield 33, 3) := by decide +kernel
theorem dX2_passDayOut_5 : decode cX2_passDayOut 5 = .ok (.iconst 1, 1) := by decide +kernel
theorem dX2_passDayOut_6 : decode cX2_passDayOut 6 = .ok (.iadd, 1) := by decide +kernel
theorem dX2_passDayOut_7 : decode cX2_passDayOut 7 = .ok (.putfield 33, 3) := by decide +kernel
theorem dX2_passDayOut_10 : decode cX2_passDayOut 10 = .ok (.aload_n 0, 1) := by decide +kernel
theorem dX2_passDayOut_11 : decode cX2_passDayOut 11 = .ok (.getfield 27, 3) := by decide +kernel
theorem dX2_passDayOut_14 : decode cX2_passDayOut 14 = .ok (.ifCond .eq 15, 3) := by decide +kernel
theorem dX2_passDayOut_17 : decode cX2_passDayOut 17 = .ok (.aload_n 0, 1) := by decide +kernel
theorem dX2_passDayOut_18 : decode cX2_passDayOut 18 = .ok (.getfield 33, 3) := by decide +kernel
theorem dX2_passDayOut_21 : decode cX2_passDayOut 21 = .ok (.aload_n 0, 1) := by decide +kernel
theorem dX2_passDayOut_22 : decode cX2_passDayOut 22 = .ok (.getfield 27, 3) := by decide +kernel
theorem dX2_passDayOut_25 : decode cX2_passDayOut 25 = .ok (.irem, 1) := by decide +kernel
theorem dX2_passDayOut_26 : decode cX2_passDayOut 26 = .ok (.ifCond .eq 4, 3) := by decide +kernel
theorem dX2_passDayOut_29 : decode cX2_passDayOut 29 = .ok (.return_, 1) := by decide +kernel
theorem dX2_passDayOut_30 : decode cX2_passDayOut 30 = .ok (.aload_n 0, 1) := by decide +kernel
theorem dX2_passDayOut_31 : decode cX2_passDayOut 31 = .ok (.getfield 15, 3) := by decide +kernel
theorem dX2_passDayOut_34 : decode cX2_passDayOut 34 = .ok (.iconst 2, 1) := by decide +kernel
theorem dX2_passDayOut_35 : decode cX2_passDayOut 35 = .ok (.if_icmp .eq 22, 3) := by decide +kernel
theorem dX2_passDayOut_38 : decode cX2_passDayOut 38 = .ok (.aload_n 0, 1) := by decide +kernel
theorem dX2_passDayOut_39 : decode cX2_passDayOut 39 = .ok (.getfield 21, 3) := by decide +kernel
theorem dX2_passDayOut_42 : decode cX2_passDayOut 42 = .ok (.bipush 9, 2) := by decide +kernel
theorem dX2_passDayOut_44 : decode cX2_passDayOut 44 = .ok (.if_icmp .ge 13, 3) := by decide +kernel
theorem dX2_passDayOut_47 : decode cX2_passDayOut 47 = .ok (.aload_n 0, 1) := by decide +kernel
theorem dX2_passDayOut_48 : decode cX2_passDayOut 48 = .ok (.dup, 1) := by decide +kernel
theorem dX2_passDayOut_49 : decode cX2_passDayOut 49 = .ok (.getfield 21, 3) := by decide +kernel
theorem dX2_passDayOut_52 : decode cX2_passDayOut 52 = .ok (.iconst 1, 1) := by decide +kernel
theorem dX2_passDayOut_53 : decode cX2_passDayOut 53 = .ok (.iadd, 1) := by decide +kernel
theorem dX2_passDayOut_54 : decode cX2_passDayOut 54 = .ok (.putfield 21, 3) := by decide +kernel
theorem dX2_passDayOut_57 : decode cX2_passDayOut 57 = .ok (.aload_n 0, 1) := by decide +kernel
theorem dX2_passDayOut_58 : decode cX2_passDayOut 58 = .ok (.getfield 15, 3) := by decide +kernel
theorem dX2_passDayOut_61 : decode cX2_passDayOut 61 = .ok (.iconst 2, 1) := by decide +kernel
theorem dX2_passDayOut_62 : decode cX2_passDayOut 62 = .ok (.if_icmp .ne 22, 3) := by decide +kernel
theorem dX2_passDayOut_65 : decode cX2_passDayOut 65 = .ok (.aload_n 0, 1) := by decide +kernel
theorem dX2_passDayOut_66 : decode cX2_passDayOut 66 = .ok (.getfield 24, 3) := by decide +kernel
theorem dX2_passDayOut_69 : decode cX2_passDayOut 69 = .ok (.bipush 9, 2) := by decide +kernel
theorem dX2_passDayOut_71 : decode cX2_passDayOut 71 = .ok (.if_icmp .ge 13, 3) := by decide +kernel
theorem dX2_passDayOut_74 : decode cX2_passDayOut 74 = .ok (.aload_n 0, 1) := by decide +kernel
theorem dX2_passDayOut_75 : decode cX2_passDayOut 75 = .ok (.dup, 1) := by decide +kernel
theorem dX2_passDayOut_76 : decode cX2_passDayOut 76 = .ok (.getfield 24, 3) := by decide +kernel
theorem dX2_passDayOut_79 : decode cX2_passDayOut 79 = .ok (.iconst 1, 1) := by decide +kernel
theorem dX2_passDayOut_80 : decode cX2_passDayOut 80 = .ok (.iadd, 1) := by decide +kernel
theorem dX2_passDayOut_81 : decode cX2_passDayOut 81 = .ok (.putfield 24, 3) := by decide +kernel
theorem dX2_passDayOut_84 : decode cX2_passDayOut 84 = .ok (.aload_n 0, 1) := by decide +kernel
theorem dX2_passDayOut_85 : decode cX2_passDayOut 85 = .ok (.getfield 15, 3) := by decide +kernel
theorem dX2_passDayOut_88 : decode cX2_passDayOut 88 = .ok (.iconst 1, 1) := by decide +kernel
theorem dX2_passDayOut_89 : decode cX2_passDayOut 89 = .ok (.if_icmp .ne 21, 3) := by decide +kernel
theorem dX2_passDayOut_92 : decode cX2_passDayOut 92 = .ok (.aload_n 0, 1) := by decide +kernel
theorem dX2_passDayOut_93 : decode cX2_passDayOut 93 = .ok (.getfield 24, 3) := by decide +kernel
theorem dX2_passDayOut_96 : decode cX2_passDayOut 96 = .ok (.iconst 1, 1) := by decide +kernel
theorem dX2_passDayOut_97 : decode cX2_passDayOut 97 = .ok (.if_icmp .le 13, 3) := by decide +kernel
theorem dX2_passDayOut_100 : decode cX2_passDayOut 100 = .ok (.aload_n 0, 1) := by decide +kernel
theorem dX2_passDayOut_101 : decode cX2_passDayOut 101 = .ok (.dup, 1) := by decide +kernel
theorem dX2_passDayOut_102 : decode cX2_passDayOut 102 = .ok (.getfield 24, 3) := by decide +kernel
theorem dX2_passDayOut_105 : decode cX2_passDayOut 105 = .ok (.iconst 1, 1) := by decide +kernel
theorem dX2_passDayOut_106 : decode cX2_passDayOut 106 = .ok (.isub, 1) := by decide +kernel
theorem dX2_passDayOut_107 : decode cX2_passDayOut 107 = .ok (.putfield 24, 3) := by decide +kernel
theorem dX2_passDayOut_110 : decode cX2_passDayOut 110 = .ok (.return_, 1) := by decide +kernel
theorem dX3_init_0 : decode cX3_init 0 = .ok (.aload_n 0, 1) := by decide +kernel
theorem dX3_init_1 : decode cX3_init 1 = .ok (.invokespecial 3, 3) := by decide +kernel
theorem dX3_init_4 : decode cX3_init 4 = .ok (.aload_n 0, 1) := by decide +kernel
theorem dX3_init_5 : decode cX3_init 5 = .ok (.bipush 8, 2) := by decide +kernel
theorem dX3_init_7 : decode cX3_init 7 = .ok (.newarray .int, 2) := by decide +kernel
theorem dX3_init_9 : decode cX3_init 9 = .ok (.putfield 9, 3) := by decide +kernel
theorem dX3_init_12 : decode cX3_init 12 = .ok (.aload_n 0, 1) := by decide +kernel
theorem dX3_init_13 : decode cX3_init 13 = .ok (.bipush 8, 2) := by decide +kernel
theorem dX3_init_15 : decode cX3_init 15 = .ok (.newarray .int, 2) := by decide +kernel
theorem dX3_init_17 : decode cX3_init 17 = .ok (.putfield 15, 3) := by decide +kernel
theorem dX3_init_20 : decode cX3_init 20 = .ok (.aload_n 0, 1) := by decide +kernel
theorem dX3_init_21 : decode cX3_init 21 = .ok (.sipush 2304, 3) := by decide +kernel
theorem dX3_init_24 : decode cX3_init 24 = .ok (.newarray .int, 2) := by decide +kernel
theorem dX3_init_26 : decode cX3_init 26 = .ok (.putfield 18, 3) := by decide +kernel
theorem dX3_init_29 : decode cX3_init 29 = .ok (.aload_n 0, 1) := by decide +kernel
theorem dX3_init_30 : decode cX3_init 30 = .ok (.iconst 0, 1) := by decide +kernel
theorem dX3_init_31 : decode cX3_init 31 = .ok (.putfield 21, 3) := by decide +kernel
theorem dX3_init_34 : decode cX3_init 34 = .ok (.return_, 1) := by decide +kernel
theorem dX3_begin_0 : decode cX3_begin 0 = .ok (.aload_n 0, 1) := by decide +kernel
theorem dX3_begin_1 : decode cX3_begin 1 = .ok (.iload_n 1, 1) := by decide +kernel
theorem dX3_begin_2 : decode cX3_begin 2 = .ok (.putfield 21, 3) := by decide +kernel
theorem dX3_begin_5 : decode cX3_begin 5 = .ok (.return_, 1) := by decide +kernel
theorem dX3_set_0 : decode cX3_set 0 = .ok (.aload_n 0, 1) := by decide +kernel
theorem dX3_set_1 : decode cX3_set 1 = .ok (.getfield 9, 3) := by decide +kernel
theorem dX3_set_4 : decode cX3_set 4 = .ok (.iload_n 1, 1) := by decide +kernel
theorem dX3_set_5 : decode cX3_set 5 = .ok (.iload_n 2, 1) := by decide +kernel
theorem dX3_set_6 : decode cX3_set 6 = .ok (.iastore, 1) := by decide +kernel
theorem dX3_set_7 : decode cX3_set 7 = .ok (.aload_n 0, 1) := by decide +kernel
theorem dX3_set_8 : decode cX3_set 8 = .ok (.getfield 15, 3) := by decide +kernel
theorem dX3_set_11 : decode cX3_set 11 = .ok (.iload_n 1, 1) := by decide +kernel
theorem dX3_set_12 : decode cX3_set 12 = .ok (.iload_n 3, 1) := by decide +kernel
theorem dX3_set_13 : decode cX3_set 13 = .ok (.iastore, 1) := by decide +kernel
theorem dX3_set_14 : decode cX3_set 14 = .ok (.return_, 1) := by decide +kernel
theorem dX3_solve_0 : decode cX3_solve 0 = .ok (.iconst 0, 1) := by decide +kernel
theorem dX3_solve_1 : decode cX3_solve 1 = .ok (.istore_n 1, 1) := by decide +kernel
theorem dX3_solve_2 : decode cX3_solve 2 = .ok (.iconst 0, 1) := by decide +kernel
theorem dX3_solve_3 : decode cX3_solve 3 = .ok (.istore_n 2, 1) := by decide +kernel
theorem dX3_solve_4 : decode cX3_solve 4 = .ok (.iload_n 2, 1) := by decide +kernel
theorem dX3_solve_5 : decode cX3_solve 5 = .ok (.aload_n 0, 1) := by decide +kernel
theorem dX3_solve_6 : decode cX3_solve 6 = .ok (.getfield 21, 3) := by decide +kernel
theorem dX3_solve_9 : decode cX3_solve 9 = .ok (.if_icmp .ge 18, 3) := by decide +kernel
theorem dX3_solve_12 : decode cX3_solve 12 = .ok (.iload_n 1, 1) := by decide +kernel
theorem dX3_solve_13 : decode cX3_solve 13 = .ok (.aload_n 0, 1) := by decide +kernel
theorem dX3_solve_14 : decode cX3_solve 14 = .ok (.getfield 15, 3) := by decide +kernel
theorem dX3_solve_17 : decode cX3_solve 17 = .ok (.iload_n 2, 1) := by decide +kernel
theorem dX3_solve_18 : decode cX3_solve 18 = .ok (.iaload, 1) := by decide +kernel
theorem dX3_solve_19 : decode cX3_solve 19 = .ok (.ior, 1) := by decide +kernel
theorem dX3_solve_20 : decode cX3_solve 20 = .ok (.istore_n 1, 1) := by decide +kernel
theorem dX3_solve_21 : decode cX3_solve 21 = .ok (.iinc 2 1, 3) := by decide +kernel
theorem dX3_solve_24 : decode cX3_solve 24 = .ok (.goto (-20), 3) := by decide +kernel
theorem dX3_solve_27 : decode cX3_solve 27 = .ok (.iload_n 1, 1) := by decide +kernel
theorem dX3_solve_28 : decode cX3_solve 28 = .ok (.istore_n 2, 1) := by decide +kernel
theorem dX3_solve_29 : decode cX3_solve 29 = .ok (.iload_n 2, 1) := by decide +kernel
theorem dX3_solve_30 : decode cX3_solve 30 = .ok (.ifCond .le 28, 3) := by decide +kernel
theorem dX3_solve_33 : decode cX3_solve 33 = .ok (.aload_n 0, 1) := by decide +kernel
theorem dX3_solve_34 : decode cX3_solve 34 = .ok (.getfield 18, 3) := by decide +kernel
theorem dX3_solve_37 : decode cX3_solve 37 = .ok (.aload_n 0, 1) := by decide +kernel
theorem dX3_solve_38 : decode cX3_solve 38 = .ok (.getfield 21, 3) := by decide +kernel
theorem dX3_solve_41 : decode cX3_solve 41 = .ok (.sipush 256, 3) := by decide +kernel
theorem dX3_solve_44 : decode cX3_solve 44 = .ok (.imul, 1) := by decide +kernel
theorem dX3_solve_45 : decode cX3_solve 45 = .ok (.iload_n 2, 1) := by decide +kernel
theorem dX3_solve_46 : decode cX3_solve 46 = .ok (.iadd, 1) := by decide +kernel
theorem dX3_solve_47 : decode cX3_solve 47 = .ok (.iconst 0, 1) := by decide +kernel
theorem dX3_solve_48 : decode cX3_solve 48 = .ok (.iastore, 1) := by decide +kernel
theorem dX3_solve_49 : decode cX3_solve 49 = .ok (.iload_n 2, 1) := by decide +kernel
theorem dX3_solve_50 : decode cX3_solve 50 = .ok (.iconst 1, 1) := by decide +kernel
theorem dX3_solve_51 : decode cX3_solve 51 = .ok (.isub, 1) := by decide +kernel
theorem dX3_solve_52 : decode cX3_solve 52 = .ok (.iload_n 1, 1) := by decide +kernel
theorem dX3_solve_53 : decode cX3_solve 53 = .ok (.iand, 1) := by decide +kernel
theorem dX3_solve_54 : decode cX3_solve 54 = .ok (.istore_n 2, 1) := by decide +kernel
theorem dX3_solve_55 : decode cX3_solve 55 = .ok (.goto (-26), 3) := by decide +kernel
theorem dX3_solve_58 : decode cX3_solve 58 = .ok (.aload_n 0, 1) := by decide +kernel
theorem dX3_solve_59 : decode cX3_solve 59 = .ok (.getfield 18, 3) := by decide +kernel
theorem dX3_solve_62 : decode cX3_solve 62 = .ok (.aload_n 0, 1) := by decide +kernel
theorem dX3_solve_63 : decode cX3_solve 63 = .ok (.getfield 21, 3) := by decide +kernel
theorem dX3_solve_66 : decode cX3_solve 66 = .ok (.sipush 256, 3) := by decide +kernel
theorem dX3_solve_69 : decode cX3_solve 69 = .ok (.imul, 1) := by decide +kernel
theorem dX3_solve_70 : decode cX3_solve 70 = .ok (.iconst 0, 1) := by decide +kernel
theorem dX3_solve_71 : decode cX3_solve 71 = .ok (.iastore, 1) := by decide +kernel
theorem dX3_solve_72 : decode cX3_solve 72 = .ok (.aload_n 0, 1) := by decide +kernel
theorem dX3_solve_73 : decode cX3_solve 73 = .ok (.getfield 21, 3) := by decide +kernel
theorem dX3_solve_76 : decode cX3_solve 76 = .ok (.iconst 1, 1) := by decide +kernel
theorem dX3_solve_77 : decode cX3_solve 77 = .ok (.isub, 1) := by decide +kernel
theorem dX3_solve_78 : decode cX3_solve 78 = .ok (.istore_n 2, 1) := by decide +kernel
theorem dX3_solve_79 : decode cX3_solve 79 = .ok (.iload_n 2, 1) := by decide +kernel
theorem dX3_solve_80 : decode cX3_solve 80 = .ok (.ifCond .lt 58, 3) := by decide +kernel
theorem dX3_solve_83 : decode cX3_solve 83 = .ok (.iload_n 1, 1) := by decide +kernel
theorem dX3_solve_84 : decode cX3_solve 84 = .ok (.istore_n 3, 1) := by decide +kernel
theorem dX3_solve_85 : decode cX3_solve 85 = .ok (.iload_n 3, 1) := by decide +kernel
theorem dX3_solve_86 : decode cX3_solve 86 = .ok (.ifCond .le 30, 3) := by decide +kernel
theorem dX3_solve_89 : decode cX3_solve 89 = .ok (.aload_n 0, 1) := by decide +kernel
theorem dX3_solve_90 : decode cX3_solve 90 = .ok (.getfield 18, 3) := by decide +kernel
theorem dX3_solve_93 : decode cX3_solve 93 = .ok (.iload_n 2, 1) := by decide +kernel
theorem dX3_solve_94 : decode cX3_solve 94 = .ok (.sipush 256, 3) := by decide +kernel
theorem dX3_solve_97 : decode cX3_solve 97 = .ok (.imul, 1) := by decide +kernel
theorem dX3_solve_98 : decode cX3_solve 98 = .ok (.iload_n 3, 1) := by decide +kernel
theorem dX3_solve_99 : decode cX3_solve 99 = .ok (.iadd, 1) := by decide +kernel
theorem dX3_solve_100 : decode cX3_solve 100 = .ok (.aload_n 0, 1) := by decide +kernel
theorem dX3_solve_101 : decode cX3_solve 101 = .ok (.iload_n 2, 1) := by decide +kernel
theorem dX3_solve_102 : decode cX3_solve 102 = .ok (.iload_n 3, 1) := by decide +kernel
theorem dX3_solve_103 : decode cX3_solve 103 = .ok (.invokevirtual 25, 3) := by decide +kernel
theorem dX3_solve_106 : decode cX3_solve 106 = .ok (.iastore, 1) := by decide +kernel
theorem dX3_solve_107 : decode cX3_solve 107 = .ok (.iload_n 3, 1) := by decide +kernel
theorem dX3_solve_108 : decode cX3_solve 108 = .ok (.iconst 1, 1) := by decide +kernel
theorem dX3_solve_109 : decode cX3_solve 109 = .ok (.isub, 1) := by decide +kernel
theorem dX3_solve_110 : decode cX3_solve 110 = .ok (.iload_n 1, 1) := by decide +kernel
theorem dX3_solve_111 : decode cX3_solve 111 = .ok (.iand, 1) := by decide +kernel
theorem dX3_solve_112 : decode cX3_solve 112 = .ok (.istore_n 3, 1) := by decide +kernel
theorem dX3_solve_113 : decode cX3_solve 113 = .ok (.goto (-28), 3) := by decide +kernel
theorem dX3_solve_116 : decode cX3_solve 116 = .ok (.aload_n 0, 1) := by decide +kernel
theorem dX3_solve_117 : decode cX3_solve 117 = .ok (.getfield 18, 3) := by decide +kernel
theorem dX3_solve_120 : decode cX3_solve 120 = .ok (.iload_n 2, 1) := by decide +kernel
theorem dX3_solve_121 : decode cX3_solve 121 = .ok (.sipush 256, 3) := by decide +kernel
theorem dX3_solve_124 : decode cX3_solve 124 = .ok (.imul, 1) := by decide +kernel
theorem dX3_solve_125 : decode cX3_solve 125 = .ok (.aload_n 0, 1) := by decide +kernel
theorem dX3_solve_126 : decode cX3_solve 126 = .ok (.iload_n 2, 1) := by decide +kernel
theorem dX3_solve_127 : decode cX3_solve 127 = .ok (.iconst 0, 1) := by decide +kernel
theorem dX3_solve_128 : decode cX3_solve 128 = .ok (.invokevirtual 25, 3) := by decide +kernel
theorem dX3_solve_131 : decode cX3_solve 131 = .ok (.iastore, 1) := by decide +kernel
theorem dX3_solve_132 : decode cX3_solve 132 = .ok (.iinc 2 (-1), 3) := by decide +kernel
theorem dX3_solve_135 : decode cX3_solve 135 = .ok (.goto (-56), 3) := by decide +kernel
theorem dX3_solve_138 : decode cX3_solve 138 = .ok (.aload_n 0, 1) := by decide +kernel
theorem dX3_solve_139 : decode cX3_solve 139 = .ok (.getfield 18, 3) := by decide +kernel
theorem dX3_solve_142 : decode cX3_solve 142 = .ok (.iconst 0, 1) := by decide +kernel
theorem dX3_solve_143 : decode cX3_solve 143 = .ok (.iaload, 1) := by decide +kernel
theorem dX3_solve_144 : decode cX3_solve 144 = .ok (.ireturn, 1) := by decide +kernel
theorem dX3_mostFrom_0 : decode cX3_mostFrom 0 = .ok (.aload_n 0, 1) := by decide +kernel
theorem dX3_mostFrom_1 : decode cX3_mostFrom 1 = .ok (.getfield 18, 3) := by decide +kernel
theorem dX3_mostFrom_4 : decode cX3_mostFrom 4 = .ok (.iload_n 1, 1) := by decide +kernel
theorem dX3_mostFrom_5 : decode cX3_mostFrom 5 = .ok (.iconst 1, 1) := by decide +kernel
theorem dX3_mostFrom_6 : decode cX3_mostFrom 6 = .ok (.iadd, 1) := by decide +kernel
theorem dX3_mostFrom_7 : decode cX3_mostFrom 7 = .ok (.sipush 256, 3) := by decide +kernel
theorem dX3_mostFrom_10 : decode cX3_mostFrom 10 = .ok (.imul, 1) := by decide +kernel
theorem dX3_mostFrom_11 : decode cX3_mostFrom 11 = .ok (.iload_n 2, 1) := by decide +kernel
theorem dX3_mostFrom_12 : decode cX3_mostFrom 12 = .ok (.iadd, 1) := by decide +kernel
theorem dX3_mostFrom_13 : decode cX3_mostFrom 13 = .ok (.iaload, 1) := by decide +kernel
theorem dX3_mostFrom_14 : decode cX3_mostFrom 14 = .ok (.istore_n 3, 1) := by decide +kernel
theorem dX3_mostFrom_15 : decode cX3_mostFrom 15 = .ok (.aload_n 0, 1) := by decide +kernel
theorem dX3_mostFrom_16 : decode cX3_mostFrom 16 = .ok (.getfield 15, 3) := by decide +kernel
theorem dX3_mostFrom_19 : decode cX3_mostFrom 19 = .ok (.iload_n 1, 1) := by decide +kernel
theorem dX3_mostFrom_20 : decode cX3_mostFrom 20 = .ok (.iaload, 1) := by decide +kernel
theorem dX3_mostFrom_21 : decode cX3_mostFrom 21 = .ok (.iload_n 2, 1) := by decide +kernel
theorem dX3_mostFrom_22 : decode cX3_mostFrom 22 = .ok (.iconst (-1), 1) := by decide +kernel
theorem dX3_mostFrom_23 : decode cX3_mostFrom 23 = .ok (.ixor, 1) := by decide +kernel
theorem dX3_mostFrom_24 : decode cX3_mostFrom 24 = .ok (.iand, 1) := by decide +kernel
theorem dX3_mostFrom_25 : decode cX3_mostFrom 25 = .ok (.istore 4, 2) := by decide +kernel
theorem dX3_mostFrom_27 : decode cX3_mostFrom 27 = .ok (.iconst 0, 1) := by decide +kernel
theorem dX3_mostFrom_28 : decode cX3_mostFrom 28 = .ok (.istore 5, 2) := by decide +kernel
theorem dX3_mostFrom_30 : decode cX3_mostFrom 30 = .ok (.iload 5, 2) := by decide +kernel
theorem dX3_mostFrom_32 : decode cX3_mostFrom 32 = .ok (.bipush 8, 2) := by decide +kernel
theorem dX3_mostFrom_34 : decode cX3_mostFrom 34 = .ok (.if_icmp .ge 59, 3) := by decide +kernel
theorem dX3_mostFrom_37 : decode cX3_mostFrom 37 = .ok (.iload 4, 2) := by decide +kernel
theorem dX3_mostFrom_39 : decode cX3_mostFrom 39 = .ok (.iload 5, 2) := by decide +kernel
theorem dX3_mostFrom_41 : decode cX3_mostFrom 41 = .ok (.ishr, 1) := by decide +kernel
theorem dX3_mostFrom_42 : decode cX3_mostFrom 42 = .ok (.ifCond .eq 51, 3) := by decide +kernel
theorem dX3_mostFrom_45 : decode cX3_mostFrom 45 = .ok (.iload 4, 2) := by decide +kernel
theorem dX3_mostFrom_47 : decode cX3_mostFrom 47 = .ok (.iload 5, 2) := by decide +kernel
theorem dX3_mostFrom_49 : decode cX3_mostFrom 49 = .ok (.ishr, 1) := by decide +kernel
theorem dX3_mostFrom_50 : decode cX3_mostFrom 50 = .ok (.iconst 1, 1) := by decide +kernel
theorem dX3_mostFrom_51 : decode cX3_mostFrom 51 = .ok (.iand, 1) := by decide +kernel
theorem dX3_mostFrom_52 : decode cX3_mostFrom 52 = .ok (.iconst 1, 1) := by decide +kernel
theorem dX3_mostFrom_53 : decode cX3_mostFrom 53 = .ok (.if_icmp .ne 34, 3) := by decide +kernel
theorem dX3_mostFrom_56 : decode cX3_mostFrom 56 = .ok (.iload_n 3, 1) := by decide +kernel
theorem dX3_mostFrom_57 : decode cX3_mostFrom 57 = .ok (.aload_n 0, 1) := by decide +kernel
theorem dX3_mostFrom_58 : decode cX3_mostFrom 58 = .ok (.getfield 9, 3) := by decide +kernel
theorem dX3_mostFrom_61 : decode cX3_mostFrom 61 = .ok (.iload_n 1, 1) := by decide +kernel
theorem dX3_mostFrom_62 : decode cX3_mostFrom 62 = .ok (.iaload, 1) := by decide +kernel
theorem dX3_mostFrom_63 : decode cX3_mostFrom 63 = .ok (.aload_n 0, 1) := by decide +kernel
theorem dX3_mostFrom_64 : decode cX3_mostFrom 64 = .ok (.getfield 18, 3) := by decide +kernel
theorem dX3_mostFrom_67 : decode cX3_mostFrom 67 = .ok (.iload_n 1, 1) := by decide +kernel
theorem dX3_mostFrom_68 : decode cX3_mostFrom 68 = .ok (.iconst 1, 1) := by decide +kernel
theorem dX3_mostFrom_69 : decode cX3_mostFrom 69 = .ok (.iadd, 1) := by decide +kernel
theorem dX3_mostFrom_70 : decode cX3_mostFrom 70 = .ok (.sipush 256, 3) := by decide +kernel
theorem dX3_mostFrom_73 : decode cX3_mostFrom 73 = .ok (.imul, 1) := by decide +kernel
theorem dX3_mostFrom_74 : decode cX3_mostFrom 74 = .ok (.iload_n 2, 1) := by decide +kernel
theorem dX3_mostFrom_75 : decode cX3_mostFrom 75 = .ok (.iconst 1, 1) := by decide +kernel
theorem dX3_mostFrom_76 : decode cX3_mostFrom 76 = .ok (.iload 5, 2) := by decide +kernel
theorem dX3_mostFrom_78 : decode cX3_mostFrom 78 = .ok (.ishl, 1) := by decide +kernel
theorem dX3_mostFrom_79 : decode cX3_mostFrom 79 = .ok (.ior, 1) := by decide +kernel
theorem dX3_mostFrom_80 : decode cX3_mostFrom 80 = .ok (.iadd, 1) := by decide +kernel
theorem dX3_mostFrom_81 : decode cX3_mostFrom 81 = .ok (.iaload, 1) := by decide +kernel
theorem dX3_mostFrom_82 : decode cX3_mostFrom 82 = .ok (.iadd, 1) := by decide +kernel
theorem dX3_mostFrom_83 : decode cX3_mostFrom 83 = .ok (.invokestatic 29, 3) := by decide +kernel
theorem dX3_mostFrom_86 : decode cX3_mostFrom 86 = .ok (.istore_n 3, 1) := by decide +kernel
theorem dX3_mostFrom_87 : decode cX3_mostFrom 87 = .ok (.iinc 5 1, 3) := by decide +kernel
theorem dX3_mostFrom_90 : decode cX3_mostFrom 90 = .ok (.goto (-60), 3) := by decide +kernel
theorem dX3_mostFrom_93 : decode cX3_mostFrom 93 = .ok (.iload_n 3, 1) := by decide +kernel
theorem dX3_mostFrom_94 : decode cX3_mostFrom 94 = .ok (.ireturn, 1) := by decide +kernel
theorem dX3_holeFor_0 : decode cX3_holeFor 0 = .ok (.iconst 0, 1) := by decide +kernel
theorem dX3_holeFor_1 : decode cX3_holeFor 1 = .ok (.istore_n 2, 1) := by decide +kernel
theorem dX3_holeFor_2 : decode cX3_holeFor 2 = .ok (.iconst 0, 1) := by decide +kernel
theorem dX3_holeFor_3 : decode cX3_holeFor 3 = .ok (.istore_n 3, 1) := by decide +kernel
theorem dX3_holeFor_4 : decode cX3_holeFor 4 = .ok (.iload_n 3, 1) := by decide +kernel
theorem dX3_holeFor_5 : decode cX3_holeFor 5 = .ok (.aload_n 0, 1) := by decide +kernel
theorem dX3_holeFor_6 : decode cX3_holeFor 6 = .ok (.getfield 21, 3) := by decide +kernel
theorem dX3_holeFor_9 : decode cX3_holeFor 9 = .ok (.if_icmp .ge 38, 3) := by decide +kernel
theorem dX3_holeFor_12 : decode cX3_holeFor 12 = .ok (.aload_n 0, 1) := by decide +kernel
theorem dX3_holeFor_13 : decode cX3_holeFor 13 = .ok (.iload_n 3, 1) := by decide +kernel
theorem dX3_holeFor_14 : decode cX3_holeFor 14 = .ok (.iload_n 2, 1) := by decide +kernel
theorem dX3_holeFor_15 : decode cX3_holeFor 15 = .ok (.invokevirtual 34, 3) := by decide +kernel
theorem dX3_holeFor_18 : decode cX3_holeFor 18 = .ok (.istore 4, 2) := by decide +kernel
theorem dX3_holeFor_20 : decode cX3_holeFor 20 = .ok (.iload_n 3, 1) := by decide +kernel
theorem dX3_holeFor_21 : decode cX3_holeFor 21 = .ok (.iload_n 1, 1) := by decide +kernel
theorem dX3_holeFor_22 : decode cX3_holeFor 22 = .ok (.if_icmp .ne 6, 3) := by decide +kernel
theorem dX3_holeFor_25 : decode cX3_holeFor 25 = .ok (.iload 4, 2) := by decide +kernel
theorem dX3_holeFor_27 : decode cX3_holeFor 27 = .ok (.ireturn, 1) := by decide +kernel
theorem dX3_holeFor_28 : decode cX3_holeFor 28 = .ok (.iload 4, 2) := by decide +kernel
theorem dX3_holeFor_30 : decode cX3_holeFor 30 = .ok (.iconst (-1), 1) := by decide +kernel
theorem dX3_holeFor_31 : decode cX3_holeFor 31 = .ok (.if_icmp .eq 10, 3) := by decide +kernel
theorem dX3_holeFor_34 : decode cX3_holeFor 34 = .ok (.iload_n 2, 1) := by decide +kernel
theorem dX3_holeFor_35 : decode cX3_holeFor 35 = .ok (.iconst 1, 1) := by decide +kernel
theorem dX3_holeFor_36 : decode cX3_holeFor 36 = .ok (.iload 4, 2) := by decide +kernel
theorem dX3_holeFor_38 : decode cX3_holeFor 38 = .ok (.ishl, 1) := by decide +kernel
theorem dX3_holeFor_39 : decode cX3_holeFor 39 = .ok (.ior, 1) := by decide +kernel
theorem dX3_holeFor_40 : decode cX3_holeFor 40 = .ok (.istore_n 2, 1) := by decide +kernel
theorem dX3_holeFor_41 : decode cX3_holeFor 41 = .ok (.iinc 3 1, 3) := by decide +kernel
theorem dX3_holeFor_44 : decode cX3_holeFor 44 = .ok (.goto (-40), 3) := by decide +kernel
theorem dX3_holeFor_47 : decode cX3_holeFor 47 = .ok (.iconst (-1), 1) := by decide +kernel
theorem dX3_holeFor_48 : decode cX3_holeFor 48 = .ok (.ireturn, 1) := by decide +kernel
theorem dX3_leastHole_0 : decode cX3_leastHole 0 = .ok (.aload_n 0, 1) := by decide +kernel
theorem dX3_leastHole_1 : decode cX3_leastHole 1 = .ok (.getfield 15, 3) := by decide +kernel
theorem dX3_leastHole_4 : decode cX3_leastHole 4 = .ok (.iload_n 1, 1) := by decide +kernel
theorem dX3_leastHole_5 : decode cX3_leastHole 5 = .ok (.iaload, 1) := by decide +kernel
theorem dX3_leastHole_6 : decode cX3_leastHole 6 = .ok (.iload_n 2, 1) := by decide +kernel
theorem dX3_leastHole_7 : decode cX3_leastHole 7 = .ok (.iconst (-1), 1) := by decide +kernel
theorem dX3_leastHole_8 : decode cX3_leastHole 8 = .ok (.ixor, 1) := by decide +kernel
theorem dX3_leastHole_9 : decode cX3_leastHole 9 = .ok (.iand, 1) := by decide +kernel
theorem dX3_leastHole_10 : decode cX3_leastHole 10 = .ok (.istore_n 3, 1) := by decide +kernel
theorem dX3_leastHole_11 : decode cX3_leastHole 11 = .ok (.iconst 0, 1) := by decide +kernel
theorem dX3_leastHole_12 : decode cX3_leastHole 12 = .ok (.istore 4, 2) := by decide +kernel
theorem dX3_leastHole_14 : decode cX3_leastHole 14 = .ok (.iload 4, 2) := by decide +kernel
