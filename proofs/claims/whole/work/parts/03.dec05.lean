theorem dX8_fill_8 : decode cX8_fill 8 = .ok (.invokestatic 157, 3) := by decide +kernel
theorem dX8_fill_11 : decode cX8_fill 11 = .ok (.ifCond .ne 6, 3) := by decide +kernel
theorem dX8_fill_14 : decode cX8_fill 14 = .ok (.bipush (-2), 2) := by decide +kernel
theorem dX8_fill_16 : decode cX8_fill 16 = .ok (.ireturn, 1) := by decide +kernel
theorem dX8_fill_17 : decode cX8_fill 17 = .ok (.aload_n 0, 1) := by decide +kernel
theorem dX8_fill_18 : decode cX8_fill 18 = .ok (.getfield 168, 3) := by decide +kernel
theorem dX8_fill_21 : decode cX8_fill 21 = .ok (.bipush 8, 2) := by decide +kernel
theorem dX8_fill_23 : decode cX8_fill 23 = .ok (.if_icmp .ne 6, 3) := by decide +kernel
theorem dX8_fill_26 : decode cX8_fill 26 = .ok (.bipush (-4), 2) := by decide +kernel
theorem dX8_fill_28 : decode cX8_fill 28 = .ok (.ireturn, 1) := by decide +kernel
theorem dX8_fill_29 : decode cX8_fill 29 = .ok (.aload_n 0, 1) := by decide +kernel
theorem dX8_fill_30 : decode cX8_fill 30 = .ok (.getfield 37, 3) := by decide +kernel
theorem dX8_fill_33 : decode cX8_fill 33 = .ok (.iconst 2, 1) := by decide +kernel
theorem dX8_fill_34 : decode cX8_fill 34 = .ok (.aload_n 0, 1) := by decide +kernel
theorem dX8_fill_35 : decode cX8_fill 35 = .ok (.getfield 168, 3) := by decide +kernel
theorem dX8_fill_38 : decode cX8_fill 38 = .ok (.imul, 1) := by decide +kernel
theorem dX8_fill_39 : decode cX8_fill 39 = .ok (.iload_n 1, 1) := by decide +kernel
theorem dX8_fill_40 : decode cX8_fill 40 = .ok (.iastore, 1) := by decide +kernel
theorem dX8_fill_41 : decode cX8_fill 41 = .ok (.aload_n 0, 1) := by decide +kernel
theorem dX8_fill_42 : decode cX8_fill 42 = .ok (.getfield 37, 3) := by decide +kernel
theorem dX8_fill_45 : decode cX8_fill 45 = .ok (.iconst 2, 1) := by decide +kernel
theorem dX8_fill_46 : decode cX8_fill 46 = .ok (.aload_n 0, 1) := by decide +kernel
theorem dX8_fill_47 : decode cX8_fill 47 = .ok (.getfield 168, 3) := by decide +kernel
theorem dX8_fill_50 : decode cX8_fill 50 = .ok (.imul, 1) := by decide +kernel
theorem dX8_fill_51 : decode cX8_fill 51 = .ok (.iconst 1, 1) := by decide +kernel
theorem dX8_fill_52 : decode cX8_fill 52 = .ok (.iadd, 1) := by decide +kernel
theorem dX8_fill_53 : decode cX8_fill 53 = .ok (.iload_n 2, 1) := by decide +kernel
theorem dX8_fill_54 : decode cX8_fill 54 = .ok (.iastore, 1) := by decide +kernel
theorem dX8_fill_55 : decode cX8_fill 55 = .ok (.aload_n 0, 1) := by decide +kernel
theorem dX8_fill_56 : decode cX8_fill 56 = .ok (.dup, 1) := by decide +kernel
theorem dX8_fill_57 : decode cX8_fill 57 = .ok (.getfield 168, 3) := by decide +kernel
theorem dX8_fill_60 : decode cX8_fill 60 = .ok (.iconst 1, 1) := by decide +kernel
theorem dX8_fill_61 : decode cX8_fill 61 = .ok (.iadd, 1) := by decide +kernel
theorem dX8_fill_62 : decode cX8_fill 62 = .ok (.putfield 168, 3) := by decide +kernel
theorem dX8_fill_65 : decode cX8_fill 65 = .ok (.aload_n 0, 1) := by decide +kernel
theorem dX8_fill_66 : decode cX8_fill 66 = .ok (.getfield 168, 3) := by decide +kernel
theorem dX8_fill_69 : decode cX8_fill 69 = .ok (.ireturn, 1) := by decide +kernel
theorem dX8_patchesMore_0 : decode cX8_patchesMore 0 = .ok (.aload_n 0, 1) := by decide +kernel
theorem dX8_patchesMore_1 : decode cX8_patchesMore 1 = .ok (.getfield 40, 3) := by decide +kernel
theorem dX8_patchesMore_4 : decode cX8_patchesMore 4 = .ok (.iconst 2, 1) := by decide +kernel
theorem dX8_patchesMore_5 : decode cX8_patchesMore 5 = .ok (.aload_n 0, 1) := by decide +kernel
theorem dX8_patchesMore_6 : decode cX8_patchesMore 6 = .ok (.getfield 171, 3) := by decide +kernel
theorem dX8_patchesMore_9 : decode cX8_patchesMore 9 = .ok (.imul, 1) := by decide +kernel
theorem dX8_patchesMore_10 : decode cX8_patchesMore 10 = .ok (.iload_n 1, 1) := by decide +kernel
theorem dX8_patchesMore_11 : decode cX8_patchesMore 11 = .ok (.iastore, 1) := by decide +kernel
theorem dX8_patchesMore_12 : decode cX8_patchesMore 12 = .ok (.aload_n 0, 1) := by decide +kernel
theorem dX8_patchesMore_13 : decode cX8_patchesMore 13 = .ok (.getfield 40, 3) := by decide +kernel
theorem dX8_patchesMore_16 : decode cX8_patchesMore 16 = .ok (.iconst 2, 1) := by decide +kernel
theorem dX8_patchesMore_17 : decode cX8_patchesMore 17 = .ok (.aload_n 0, 1) := by decide +kernel
theorem dX8_patchesMore_18 : decode cX8_patchesMore 18 = .ok (.getfield 171, 3) := by decide +kernel
theorem dX8_patchesMore_21 : decode cX8_patchesMore 21 = .ok (.imul, 1) := by decide +kernel
theorem dX8_patchesMore_22 : decode cX8_patchesMore 22 = .ok (.iconst 1, 1) := by decide +kernel
theorem dX8_patchesMore_23 : decode cX8_patchesMore 23 = .ok (.iadd, 1) := by decide +kernel
theorem dX8_patchesMore_24 : decode cX8_patchesMore 24 = .ok (.iload_n 2, 1) := by decide +kernel
theorem dX8_patchesMore_25 : decode cX8_patchesMore 25 = .ok (.iastore, 1) := by decide +kernel
theorem dX8_patchesMore_26 : decode cX8_patchesMore 26 = .ok (.aload_n 0, 1) := by decide +kernel
theorem dX8_patchesMore_27 : decode cX8_patchesMore 27 = .ok (.dup, 1) := by decide +kernel
theorem dX8_patchesMore_28 : decode cX8_patchesMore 28 = .ok (.getfield 171, 3) := by decide +kernel
theorem dX8_patchesMore_31 : decode cX8_patchesMore 31 = .ok (.iconst 1, 1) := by decide +kernel
theorem dX8_patchesMore_32 : decode cX8_patchesMore 32 = .ok (.iadd, 1) := by decide +kernel
theorem dX8_patchesMore_33 : decode cX8_patchesMore 33 = .ok (.putfield 171, 3) := by decide +kernel
theorem dX8_patchesMore_36 : decode cX8_patchesMore 36 = .ok (.return_, 1) := by decide +kernel
theorem dX8_patch_0 : decode cX8_patch 0 = .ok (.iload_n 1, 1) := by decide +kernel
theorem dX8_patch_1 : decode cX8_patch 1 = .ok (.invokestatic 154, 3) := by decide +kernel
theorem dX8_patch_4 : decode cX8_patch 4 = .ok (.ifCond .eq 10, 3) := by decide +kernel
theorem dX8_patch_7 : decode cX8_patch 7 = .ok (.iload_n 2, 1) := by decide +kernel
theorem dX8_patch_8 : decode cX8_patch 8 = .ok (.invokestatic 157, 3) := by decide +kernel
theorem dX8_patch_11 : decode cX8_patch 11 = .ok (.ifCond .ne 6, 3) := by decide +kernel
theorem dX8_patch_14 : decode cX8_patch 14 = .ok (.bipush (-2), 2) := by decide +kernel
theorem dX8_patch_16 : decode cX8_patch 16 = .ok (.ireturn, 1) := by decide +kernel
theorem dX8_patch_17 : decode cX8_patch 17 = .ok (.aload_n 0, 1) := by decide +kernel
theorem dX8_patch_18 : decode cX8_patch 18 = .ok (.getfield 171, 3) := by decide +kernel
theorem dX8_patch_21 : decode cX8_patch 21 = .ok (.bipush 8, 2) := by decide +kernel
theorem dX8_patch_23 : decode cX8_patch 23 = .ok (.if_icmp .ne 6, 3) := by decide +kernel
theorem dX8_patch_26 : decode cX8_patch 26 = .ok (.bipush (-4), 2) := by decide +kernel
theorem dX8_patch_28 : decode cX8_patch 28 = .ok (.ireturn, 1) := by decide +kernel
theorem dX8_patch_29 : decode cX8_patch 29 = .ok (.aload_n 0, 1) := by decide +kernel
theorem dX8_patch_30 : decode cX8_patch 30 = .ok (.iload_n 1, 1) := by decide +kernel
theorem dX8_patch_31 : decode cX8_patch 31 = .ok (.iload_n 2, 1) := by decide +kernel
theorem dX8_patch_32 : decode cX8_patch 32 = .ok (.invokevirtual 174, 3) := by decide +kernel
theorem dX8_patch_35 : decode cX8_patch 35 = .ok (.aload_n 0, 1) := by decide +kernel
theorem dX8_patch_36 : decode cX8_patch 36 = .ok (.getfield 171, 3) := by decide +kernel
theorem dX8_patch_39 : decode cX8_patch 39 = .ok (.ireturn, 1) := by decide +kernel
theorem dX8_back_0 : decode cX8_back 0 = .ok (.iload_n 1, 1) := by decide +kernel
theorem dX8_back_1 : decode cX8_back 1 = .ok (.i2l, 1) := by decide +kernel
theorem dX8_back_2 : decode cX8_back 2 = .ok (.lconst 0, 1) := by decide +kernel
theorem dX8_back_3 : decode cX8_back 3 = .ok (.ldc2_w 107, 3) := by decide +kernel
theorem dX8_back_6 : decode cX8_back 6 = .ok (.invokestatic 94, 3) := by decide +kernel
theorem dX8_back_9 : decode cX8_back 9 = .ok (.ifCond .ne 6, 3) := by decide +kernel
theorem dX8_back_12 : decode cX8_back 12 = .ok (.bipush (-2), 2) := by decide +kernel
theorem dX8_back_14 : decode cX8_back 14 = .ok (.ireturn, 1) := by decide +kernel
theorem dX8_back_15 : decode cX8_back 15 = .ok (.iload_n 1, 1) := by decide +kernel
theorem dX8_back_16 : decode cX8_back 16 = .ok (.ifCond .ne 10, 3) := by decide +kernel
theorem dX8_back_19 : decode cX8_back 19 = .ok (.aload_n 0, 1) := by decide +kernel
theorem dX8_back_20 : decode cX8_back 20 = .ok (.getfield 151, 3) := by decide +kernel
theorem dX8_back_23 : decode cX8_back 23 = .ok (.goto 19, 3) := by decide +kernel
theorem dX8_back_26 : decode cX8_back 26 = .ok (.iload_n 1, 1) := by decide +kernel
theorem dX8_back_27 : decode cX8_back 27 = .ok (.iconst 1, 1) := by decide +kernel
theorem dX8_back_28 : decode cX8_back 28 = .ok (.if_icmp .ne 10, 3) := by decide +kernel
theorem dX8_back_31 : decode cX8_back 31 = .ok (.aload_n 0, 1) := by decide +kernel
theorem dX8_back_32 : decode cX8_back 32 = .ok (.getfield 168, 3) := by decide +kernel
theorem dX8_back_35 : decode cX8_back 35 = .ok (.goto 7, 3) := by decide +kernel
theorem dX8_back_38 : decode cX8_back 38 = .ok (.aload_n 0, 1) := by decide +kernel
theorem dX8_back_39 : decode cX8_back 39 = .ok (.getfield 171, 3) := by decide +kernel
theorem dX8_back_42 : decode cX8_back 42 = .ok (.istore_n 2, 1) := by decide +kernel
theorem dX8_back_43 : decode cX8_back 43 = .ok (.iload_n 2, 1) := by decide +kernel
theorem dX8_back_44 : decode cX8_back 44 = .ok (.ifCond .ne 6, 3) := by decide +kernel
theorem dX8_back_47 : decode cX8_back 47 = .ok (.bipush (-3), 2) := by decide +kernel
theorem dX8_back_49 : decode cX8_back 49 = .ok (.ireturn, 1) := by decide +kernel
theorem dX8_back_50 : decode cX8_back 50 = .ok (.aload_n 0, 1) := by decide +kernel
theorem dX8_back_51 : decode cX8_back 51 = .ok (.dup, 1) := by decide +kernel
theorem dX8_back_52 : decode cX8_back 52 = .ok (.getfield 151, 3) := by decide +kernel
theorem dX8_back_55 : decode cX8_back 55 = .ok (.iload_n 1, 1) := by decide +kernel
theorem dX8_back_56 : decode cX8_back 56 = .ok (.ifCond .ne 7, 3) := by decide +kernel
theorem dX8_back_59 : decode cX8_back 59 = .ok (.iconst 1, 1) := by decide +kernel
theorem dX8_back_60 : decode cX8_back 60 = .ok (.goto 4, 3) := by decide +kernel
theorem dX8_back_63 : decode cX8_back 63 = .ok (.iconst 0, 1) := by decide +kernel
theorem dX8_back_64 : decode cX8_back 64 = .ok (.isub, 1) := by decide +kernel
theorem dX8_back_65 : decode cX8_back 65 = .ok (.putfield 151, 3) := by decide +kernel
theorem dX8_back_68 : decode cX8_back 68 = .ok (.aload_n 0, 1) := by decide +kernel
theorem dX8_back_69 : decode cX8_back 69 = .ok (.dup, 1) := by decide +kernel
theorem dX8_back_70 : decode cX8_back 70 = .ok (.getfield 168, 3) := by decide +kernel
theorem dX8_back_73 : decode cX8_back 73 = .ok (.iload_n 1, 1) := by decide +kernel
theorem dX8_back_74 : decode cX8_back 74 = .ok (.iconst 1, 1) := by decide +kernel
theorem dX8_back_75 : decode cX8_back 75 = .ok (.if_icmp .ne 7, 3) := by decide +kernel
theorem dX8_back_78 : decode cX8_back 78 = .ok (.iconst 1, 1) := by decide +kernel
theorem dX8_back_79 : decode cX8_back 79 = .ok (.goto 4, 3) := by decide +kernel
theorem dX8_back_82 : decode cX8_back 82 = .ok (.iconst 0, 1) := by decide +kernel
theorem dX8_back_83 : decode cX8_back 83 = .ok (.isub, 1) := by decide +kernel
theorem dX8_back_84 : decode cX8_back 84 = .ok (.putfield 168, 3) := by decide +kernel
theorem dX8_back_87 : decode cX8_back 87 = .ok (.aload_n 0, 1) := by decide +kernel
theorem dX8_back_88 : decode cX8_back 88 = .ok (.dup, 1) := by decide +kernel
theorem dX8_back_89 : decode cX8_back 89 = .ok (.getfield 171, 3) := by decide +kernel
theorem dX8_back_92 : decode cX8_back 92 = .ok (.iload_n 1, 1) := by decide +kernel
theorem dX8_back_93 : decode cX8_back 93 = .ok (.iconst 2, 1) := by decide +kernel
theorem dX8_back_94 : decode cX8_back 94 = .ok (.if_icmp .ne 7, 3) := by decide +kernel
theorem dX8_back_97 : decode cX8_back 97 = .ok (.iconst 1, 1) := by decide +kernel
theorem dX8_back_98 : decode cX8_back 98 = .ok (.goto 4, 3) := by decide +kernel
theorem dX8_back_101 : decode cX8_back 101 = .ok (.iconst 0, 1) := by decide +kernel
theorem dX8_back_102 : decode cX8_back 102 = .ok (.isub, 1) := by decide +kernel
theorem dX8_back_103 : decode cX8_back 103 = .ok (.putfield 171, 3) := by decide +kernel
theorem dX8_back_106 : decode cX8_back 106 = .ok (.iload_n 2, 1) := by decide +kernel
theorem dX8_back_107 : decode cX8_back 107 = .ok (.iconst 1, 1) := by decide +kernel
theorem dX8_back_108 : decode cX8_back 108 = .ok (.isub, 1) := by decide +kernel
theorem dX8_back_109 : decode cX8_back 109 = .ok (.ireturn, 1) := by decide +kernel
theorem dX8_read_0 : decode cX8_read 0 = .ok (.iload_n 1, 1) := by decide +kernel
theorem dX8_read_1 : decode cX8_read 1 = .ok (.invokestatic 103, 3) := by decide +kernel
theorem dX8_read_4 : decode cX8_read 4 = .ok (.ifCond .ne 6, 3) := by decide +kernel
theorem dX8_read_7 : decode cX8_read 7 = .ok (.bipush (-2), 2) := by decide +kernel
theorem dX8_read_9 : decode cX8_read 9 = .ok (.ireturn, 1) := by decide +kernel
theorem dX8_read_10 : decode cX8_read 10 = .ok (.aload_n 0, 1) := by decide +kernel
theorem dX8_read_11 : decode cX8_read 11 = .ok (.getfield 7, 3) := by decide +kernel
theorem dX8_read_14 : decode cX8_read 14 = .ok (.iload_n 1, 1) := by decide +kernel
theorem dX8_read_15 : decode cX8_read 15 = .ok (.iaload, 1) := by decide +kernel
theorem dX8_read_16 : decode cX8_read 16 = .ok (.ifCond .ge 9, 3) := by decide +kernel
theorem dX8_read_19 : decode cX8_read 19 = .ok (.aload_n 0, 1) := by decide +kernel
theorem dX8_read_20 : decode cX8_read 20 = .ok (.iconst 1, 1) := by decide +kernel
theorem dX8_read_21 : decode cX8_read 21 = .ok (.invokevirtual 109, 3) := by decide +kernel
theorem dX8_read_24 : decode cX8_read 24 = .ok (.ireturn, 1) := by decide +kernel
theorem dX8_read_25 : decode cX8_read 25 = .ok (.iconst 0, 1) := by decide +kernel
theorem dX8_read_26 : decode cX8_read 26 = .ok (.istore_n 2, 1) := by decide +kernel
theorem dX8_read_27 : decode cX8_read 27 = .ok (.iconst 1, 1) := by decide +kernel
theorem dX8_read_28 : decode cX8_read 28 = .ok (.istore_n 3, 1) := by decide +kernel
theorem dX8_read_29 : decode cX8_read 29 = .ok (.iload_n 3, 1) := by decide +kernel
theorem dX8_read_30 : decode cX8_read 30 = .ok (.ifCond .eq 89, 3) := by decide +kernel
theorem dX8_read_33 : decode cX8_read 33 = .ok (.iconst 4, 1) := by decide +kernel
theorem dX8_read_34 : decode cX8_read 34 = .ok (.iload_n 2, 1) := by decide +kernel
theorem dX8_read_35 : decode cX8_read 35 = .ok (.imul, 1) := by decide +kernel
theorem dX8_read_36 : decode cX8_read 36 = .ok (.iconst 4, 1) := by decide +kernel
theorem dX8_read_37 : decode cX8_read 37 = .ok (.iadd, 1) := by decide +kernel
theorem dX8_read_38 : decode cX8_read 38 = .ok (.aload_n 0, 1) := by decide +kernel
theorem dX8_read_39 : decode cX8_read 39 = .ok (.getfield 13, 3) := by decide +kernel
theorem dX8_read_42 : decode cX8_read 42 = .ok (.iload_n 1, 1) := by decide +kernel
theorem dX8_read_43 : decode cX8_read 43 = .ok (.iaload, 1) := by decide +kernel
theorem dX8_read_44 : decode cX8_read 44 = .ok (.if_icmp .gt 75, 3) := by decide +kernel
theorem dX8_read_47 : decode cX8_read 47 = .ok (.bipush 60, 2) := by decide +kernel
theorem dX8_read_49 : decode cX8_read 49 = .ok (.iload_n 1, 1) := by decide +kernel
theorem dX8_read_50 : decode cX8_read 50 = .ok (.imul, 1) := by decide +kernel
theorem dX8_read_51 : decode cX8_read 51 = .ok (.iconst 4, 1) := by decide +kernel
theorem dX8_read_52 : decode cX8_read 52 = .ok (.iload_n 2, 1) := by decide +kernel
theorem dX8_read_53 : decode cX8_read 53 = .ok (.imul, 1) := by decide +kernel
theorem dX8_read_54 : decode cX8_read 54 = .ok (.iadd, 1) := by decide +kernel
theorem dX8_read_55 : decode cX8_read 55 = .ok (.istore 4, 2) := by decide +kernel
theorem dX8_read_57 : decode cX8_read 57 = .ok (.aload_n 0, 1) := by decide +kernel
theorem dX8_read_58 : decode cX8_read 58 = .ok (.aload_n 0, 1) := by decide +kernel
theorem dX8_read_59 : decode cX8_read 59 = .ok (.getfield 16, 3) := by decide +kernel
theorem dX8_read_62 : decode cX8_read 62 = .ok (.iload 4, 2) := by decide +kernel
theorem dX8_read_64 : decode cX8_read 64 = .ok (.iaload, 1) := by decide +kernel
theorem dX8_read_65 : decode cX8_read 65 = .ok (.aload_n 0, 1) := by decide +kernel
theorem dX8_read_66 : decode cX8_read 66 = .ok (.getfield 16, 3) := by decide +kernel
theorem dX8_read_69 : decode cX8_read 69 = .ok (.iload 4, 2) := by decide +kernel
theorem dX8_read_71 : decode cX8_read 71 = .ok (.iconst 1, 1) := by decide +kernel
theorem dX8_read_72 : decode cX8_read 72 = .ok (.iadd, 1) := by decide +kernel
theorem dX8_read_73 : decode cX8_read 73 = .ok (.iaload, 1) := by decide +kernel
theorem dX8_read_74 : decode cX8_read 74 = .ok (.aload_n 0, 1) := by decide +kernel
theorem dX8_read_75 : decode cX8_read 75 = .ok (.getfield 16, 3) := by decide +kernel
theorem dX8_read_78 : decode cX8_read 78 = .ok (.iload 4, 2) := by decide +kernel
theorem dX8_read_80 : decode cX8_read 80 = .ok (.iconst 2, 1) := by decide +kernel
theorem dX8_read_81 : decode cX8_read 81 = .ok (.iadd, 1) := by decide +kernel
theorem dX8_read_82 : decode cX8_read 82 = .ok (.iaload, 1) := by decide +kernel
theorem dX8_read_83 : decode cX8_read 83 = .ok (.aload_n 0, 1) := by decide +kernel
theorem dX8_read_84 : decode cX8_read 84 = .ok (.getfield 16, 3) := by decide +kernel
theorem dX8_read_87 : decode cX8_read 87 = .ok (.iload 4, 2) := by decide +kernel
theorem dX8_read_89 : decode cX8_read 89 = .ok (.iconst 3, 1) := by decide +kernel
theorem dX8_read_90 : decode cX8_read 90 = .ok (.iadd, 1) := by decide +kernel
theorem dX8_read_91 : decode cX8_read 91 = .ok (.iaload, 1) := by decide +kernel
theorem dX8_read_92 : decode cX8_read 92 = .ok (.invokevirtual 178, 3) := by decide +kernel
theorem dX8_read_95 : decode cX8_read 95 = .ok (.ifCond .lt 7, 3) := by decide +kernel
theorem dX8_read_98 : decode cX8_read 98 = .ok (.iconst 1, 1) := by decide +kernel
theorem dX8_read_99 : decode cX8_read 99 = .ok (.goto 4, 3) := by decide +kernel
theorem dX8_read_102 : decode cX8_read 102 = .ok (.iconst 0, 1) := by decide +kernel
theorem dX8_read_103 : decode cX8_read 103 = .ok (.istore_n 3, 1) := by decide +kernel
theorem dX8_read_104 : decode cX8_read 104 = .ok (.iload_n 2, 1) := by decide +kernel
theorem dX8_read_105 : decode cX8_read 105 = .ok (.iload_n 3, 1) := by decide +kernel
theorem dX8_read_106 : decode cX8_read 106 = .ok (.ifCond .eq 7, 3) := by decide +kernel
theorem dX8_read_109 : decode cX8_read 109 = .ok (.iconst 1, 1) := by decide +kernel
theorem dX8_read_110 : decode cX8_read 110 = .ok (.goto 4, 3) := by decide +kernel
theorem dX8_read_113 : decode cX8_read 113 = .ok (.iconst 0, 1) := by decide +kernel
theorem dX8_read_114 : decode cX8_read 114 = .ok (.iadd, 1) := by decide +kernel
theorem dX8_read_115 : decode cX8_read 115 = .ok (.istore_n 2, 1) := by decide +kernel
theorem dX8_read_116 : decode cX8_read 116 = .ok (.goto (-87), 3) := by decide +kernel
theorem dX8_read_119 : decode cX8_read 119 = .ok (.iload_n 2, 1) := by decide +kernel
theorem dX8_read_120 : decode cX8_read 120 = .ok (.ireturn, 1) := by decide +kernel
theorem dX8_ease_0 : decode cX8_ease 0 = .ok (.iload_n 1, 1) := by decide +kernel
theorem dX8_ease_1 : decode cX8_ease 1 = .ok (.i2l, 1) := by decide +kernel
theorem dX8_ease_2 : decode cX8_ease 2 = .ok (.lconst 0, 1) := by decide +kernel
theorem dX8_ease_3 : decode cX8_ease 3 = .ok (.ldc2_w 181, 3) := by decide +kernel
theorem dX8_ease_6 : decode cX8_ease 6 = .ok (.invokestatic 94, 3) := by decide +kernel
theorem dX8_ease_9 : decode cX8_ease 9 = .ok (.ifCond .ne 6, 3) := by decide +kernel
theorem dX8_ease_12 : decode cX8_ease 12 = .ok (.bipush (-2), 2) := by decide +kernel
theorem dX8_ease_14 : decode cX8_ease 14 = .ok (.ireturn, 1) := by decide +kernel
theorem dX8_ease_15 : decode cX8_ease 15 = .ok (.aload_n 0, 1) := by decide +kernel
theorem dX8_ease_16 : decode cX8_ease 16 = .ok (.getfield 82, 3) := by decide +kernel
theorem dX8_ease_19 : decode cX8_ease 19 = .ok (.istore_n 2, 1) := by decide +kernel
theorem dX8_ease_20 : decode cX8_ease 20 = .ok (.aload_n 0, 1) := by decide +kernel
theorem dX8_ease_21 : decode cX8_ease 21 = .ok (.iload_n 1, 1) := by decide +kernel
theorem dX8_ease_22 : decode cX8_ease 22 = .ok (.putfield 82, 3) := by decide +kernel
theorem dX8_ease_25 : decode cX8_ease 25 = .ok (.iload_n 2, 1) := by decide +kernel
theorem dX8_ease_26 : decode cX8_ease 26 = .ok (.ireturn, 1) := by decide +kernel
theorem dX8_begins_0 : decode cX8_begins 0 = .ok (.iconst 0, 1) := by decide +kernel
theorem dX8_begins_1 : decode cX8_begins 1 = .ok (.istore_n 1, 1) := by decide +kernel
theorem dX8_begins_2 : decode cX8_begins 2 = .ok (.iload_n 1, 1) := by decide +kernel
theorem dX8_begins_3 : decode cX8_begins 3 = .ok (.aload_n 0, 1) := by decide +kernel
theorem dX8_begins_4 : decode cX8_begins 4 = .ok (.getfield 28, 3) := by decide +kernel
theorem dX8_begins_7 : decode cX8_begins 7 = .ok (.iconst 0, 1) := by decide +kernel
theorem dX8_begins_8 : decode cX8_begins 8 = .ok (.iaload, 1) := by decide +kernel
theorem dX8_begins_9 : decode cX8_begins 9 = .ok (.if_icmp .ge 55, 3) := by decide +kernel
theorem dX8_begins_12 : decode cX8_begins 12 = .ok (.aload_n 0, 1) := by decide +kernel
theorem dX8_begins_13 : decode cX8_begins 13 = .ok (.getfield 43, 3) := by decide +kernel
theorem dX8_begins_16 : decode cX8_begins 16 = .ok (.iload_n 1, 1) := by decide +kernel
theorem dX8_begins_17 : decode cX8_begins 17 = .ok (.aload_n 0, 1) := by decide +kernel
theorem dX8_begins_18 : decode cX8_begins 18 = .ok (.getfield 31, 3) := by decide +kernel
theorem dX8_begins_21 : decode cX8_begins 21 = .ok (.iconst 4, 1) := by decide +kernel
theorem dX8_begins_22 : decode cX8_begins 22 = .ok (.iload_n 1, 1) := by decide +kernel
theorem dX8_begins_23 : decode cX8_begins 23 = .ok (.imul, 1) := by decide +kernel
theorem dX8_begins_24 : decode cX8_begins 24 = .ok (.iconst 1, 1) := by decide +kernel
theorem dX8_begins_25 : decode cX8_begins 25 = .ok (.iadd, 1) := by decide +kernel
theorem dX8_begins_26 : decode cX8_begins 26 = .ok (.iaload, 1) := by decide +kernel
theorem dX8_begins_27 : decode cX8_begins 27 = .ok (.iastore, 1) := by decide +kernel
theorem dX8_begins_28 : decode cX8_begins 28 = .ok (.aload_n 0, 1) := by decide +kernel
theorem dX8_begins_29 : decode cX8_begins 29 = .ok (.getfield 46, 3) := by decide +kernel
theorem dX8_begins_32 : decode cX8_begins 32 = .ok (.iload_n 1, 1) := by decide +kernel
theorem dX8_begins_33 : decode cX8_begins 33 = .ok (.aload_n 0, 1) := by decide +kernel
theorem dX8_begins_34 : decode cX8_begins 34 = .ok (.getfield 31, 3) := by decide +kernel
theorem dX8_begins_37 : decode cX8_begins 37 = .ok (.iconst 4, 1) := by decide +kernel
theorem dX8_begins_38 : decode cX8_begins 38 = .ok (.iload_n 1, 1) := by decide +kernel
theorem dX8_begins_39 : decode cX8_begins 39 = .ok (.imul, 1) := by decide +kernel
theorem dX8_begins_40 : decode cX8_begins 40 = .ok (.iconst 2, 1) := by decide +kernel
theorem dX8_begins_41 : decode cX8_begins 41 = .ok (.iadd, 1) := by decide +kernel
theorem dX8_begins_42 : decode cX8_begins 42 = .ok (.iaload, 1) := by decide +kernel
theorem dX8_begins_43 : decode cX8_begins 43 = .ok (.iastore, 1) := by decide +kernel
theorem dX8_begins_44 : decode cX8_begins 44 = .ok (.aload_n 0, 1) := by decide +kernel
theorem dX8_begins_45 : decode cX8_begins 45 = .ok (.getfield 49, 3) := by decide +kernel
theorem dX8_begins_48 : decode cX8_begins 48 = .ok (.iload_n 1, 1) := by decide +kernel
theorem dX8_begins_49 : decode cX8_begins 49 = .ok (.iconst (-1), 1) := by decide +kernel
theorem dX8_begins_50 : decode cX8_begins 50 = .ok (.iastore, 1) := by decide +kernel
theorem dX8_begins_51 : decode cX8_begins 51 = .ok (.aload_n 0, 1) := by decide +kernel
theorem dX8_begins_52 : decode cX8_begins 52 = .ok (.getfield 55, 3) := by decide +kernel
theorem dX8_begins_55 : decode cX8_begins 55 = .ok (.iload_n 1, 1) := by decide +kernel
theorem dX8_begins_56 : decode cX8_begins 56 = .ok (.iconst 0, 1) := by decide +kernel
theorem dX8_begins_57 : decode cX8_begins 57 = .ok (.iastore, 1) := by decide +kernel
theorem dX8_begins_58 : decode cX8_begins 58 = .ok (.iinc 1 1, 3) := by decide +kernel
theorem dX8_begins_61 : decode cX8_begins 61 = .ok (.goto (-59), 3) := by decide +kernel
theorem dX8_begins_64 : decode cX8_begins 64 = .ok (.aload_n 0, 1) := by decide +kernel
theorem dX8_begins_65 : decode cX8_begins 65 = .ok (.iconst 0, 1) := by decide +kernel
theorem dX8_begins_66 : decode cX8_begins 66 = .ok (.putfield 183, 3) := by decide +kernel
theorem dX8_begins_69 : decode cX8_begins 69 = .ok (.iconst 0, 1) := by decide +kernel
theorem dX8_begins_70 : decode cX8_begins 70 = .ok (.istore_n 1, 1) := by decide +kernel
theorem dX8_begins_71 : decode cX8_begins 71 = .ok (.iload_n 1, 1) := by decide +kernel
theorem dX8_begins_72 : decode cX8_begins 72 = .ok (.aload_n 0, 1) := by decide +kernel
theorem dX8_begins_73 : decode cX8_begins 73 = .ok (.getfield 151, 3) := by decide +kernel
theorem dX8_begins_76 : decode cX8_begins 76 = .ok (.if_icmp .ge 30, 3) := by decide +kernel
theorem dX8_begins_79 : decode cX8_begins 79 = .ok (.aload_n 0, 1) := by decide +kernel
theorem dX8_begins_80 : decode cX8_begins 80 = .ok (.getfield 58, 3) := by decide +kernel
theorem dX8_begins_83 : decode cX8_begins 83 = .ok (.iload_n 1, 1) := by decide +kernel
theorem dX8_begins_84 : decode cX8_begins 84 = .ok (.iconst 0, 1) := by decide +kernel
theorem dX8_begins_85 : decode cX8_begins 85 = .ok (.iastore, 1) := by decide +kernel
theorem dX8_begins_86 : decode cX8_begins 86 = .ok (.aload_n 0, 1) := by decide +kernel
theorem dX8_begins_87 : decode cX8_begins 87 = .ok (.getfield 61, 3) := by decide +kernel
theorem dX8_begins_90 : decode cX8_begins 90 = .ok (.iload_n 1, 1) := by decide +kernel
theorem dX8_begins_91 : decode cX8_begins 91 = .ok (.iconst (-1), 1) := by decide +kernel
theorem dX8_begins_92 : decode cX8_begins 92 = .ok (.iastore, 1) := by decide +kernel
theorem dX8_begins_93 : decode cX8_begins 93 = .ok (.aload_n 0, 1) := by decide +kernel
theorem dX8_begins_94 : decode cX8_begins 94 = .ok (.getfield 67, 3) := by decide +kernel
theorem dX8_begins_97 : decode cX8_begins 97 = .ok (.iload_n 1, 1) := by decide +kernel
theorem dX8_begins_98 : decode cX8_begins 98 = .ok (.iconst (-1), 1) := by decide +kernel
theorem dX8_begins_99 : decode cX8_begins 99 = .ok (.iastore, 1) := by decide +kernel
theorem dX8_begins_100 : decode cX8_begins 100 = .ok (.iinc 1 1, 3) := by decide +kernel
theorem dX8_begins_103 : decode cX8_begins 103 = .ok (.goto (-32), 3) := by decide +kernel
theorem dX8_begins_106 : decode cX8_begins 106 = .ok (.return_, 1) := by decide +kernel
theorem dX8_lendsOn_0 : decode cX8_lendsOn 0 = .ok (.iconst 0, 1) := by decide +kernel
theorem dX8_lendsOn_1 : decode cX8_lendsOn 1 = .ok (.istore_n 2, 1) := by decide +kernel
theorem dX8_lendsOn_2 : decode cX8_lendsOn 2 = .ok (.iload_n 2, 1) := by decide +kernel
theorem dX8_lendsOn_3 : decode cX8_lendsOn 3 = .ok (.aload_n 0, 1) := by decide +kernel
theorem dX8_lendsOn_4 : decode cX8_lendsOn 4 = .ok (.getfield 151, 3) := by decide +kernel
theorem dX8_lendsOn_7 : decode cX8_lendsOn 7 = .ok (.if_icmp .ge 118, 3) := by decide +kernel
theorem dX8_lendsOn_10 : decode cX8_lendsOn 10 = .ok (.aload_n 0, 1) := by decide +kernel
theorem dX8_lendsOn_11 : decode cX8_lendsOn 11 = .ok (.getfield 34, 3) := by decide +kernel
theorem dX8_lendsOn_14 : decode cX8_lendsOn 14 = .ok (.iconst 4, 1) := by decide +kernel
theorem dX8_lendsOn_15 : decode cX8_lendsOn 15 = .ok (.iload_n 2, 1) := by decide +kernel
theorem dX8_lendsOn_16 : decode cX8_lendsOn 16 = .ok (.imul, 1) := by decide +kernel
theorem dX8_lendsOn_17 : decode cX8_lendsOn 17 = .ok (.iconst 1, 1) := by decide +kernel
theorem dX8_lendsOn_18 : decode cX8_lendsOn 18 = .ok (.iadd, 1) := by decide +kernel
theorem dX8_lendsOn_19 : decode cX8_lendsOn 19 = .ok (.iaload, 1) := by decide +kernel
theorem dX8_lendsOn_20 : decode cX8_lendsOn 20 = .ok (.istore_n 3, 1) := by decide +kernel
theorem dX8_lendsOn_21 : decode cX8_lendsOn 21 = .ok (.iload_n 2, 1) := by decide +kernel
theorem dX8_lendsOn_22 : decode cX8_lendsOn 22 = .ok (.aload_n 0, 1) := by decide +kernel
theorem dX8_lendsOn_23 : decode cX8_lendsOn 23 = .ok (.getfield 86, 3) := by decide +kernel
theorem dX8_lendsOn_26 : decode cX8_lendsOn 26 = .ok (.if_icmp .eq 93, 3) := by decide +kernel
theorem dX8_lendsOn_29 : decode cX8_lendsOn 29 = .ok (.aload_n 0, 1) := by decide +kernel
theorem dX8_lendsOn_30 : decode cX8_lendsOn 30 = .ok (.getfield 34, 3) := by decide +kernel
theorem dX8_lendsOn_33 : decode cX8_lendsOn 33 = .ok (.iconst 4, 1) := by decide +kernel
theorem dX8_lendsOn_34 : decode cX8_lendsOn 34 = .ok (.iload_n 2, 1) := by decide +kernel
theorem dX8_lendsOn_35 : decode cX8_lendsOn 35 = .ok (.imul, 1) := by decide +kernel
theorem dX8_lendsOn_36 : decode cX8_lendsOn 36 = .ok (.iaload, 1) := by decide +kernel
theorem dX8_lendsOn_37 : decode cX8_lendsOn 37 = .ok (.iload_n 1, 1) := by decide +kernel
theorem dX8_lendsOn_38 : decode cX8_lendsOn 38 = .ok (.if_icmp .ne 81, 3) := by decide +kernel
theorem dX8_lendsOn_41 : decode cX8_lendsOn 41 = .ok (.aload_n 0, 1) := by decide +kernel
theorem dX8_lendsOn_42 : decode cX8_lendsOn 42 = .ok (.iload_n 3, 1) := by decide +kernel
theorem dX8_lendsOn_43 : decode cX8_lendsOn 43 = .ok (.invokevirtual 145, 3) := by decide +kernel
theorem dX8_lendsOn_46 : decode cX8_lendsOn 46 = .ok (.ifCond .eq 73, 3) := by decide +kernel
theorem dX8_lendsOn_49 : decode cX8_lendsOn 49 = .ok (.aload_n 0, 1) := by decide +kernel
theorem dX8_lendsOn_50 : decode cX8_lendsOn 50 = .ok (.getfield 49, 3) := by decide +kernel
theorem dX8_lendsOn_53 : decode cX8_lendsOn 53 = .ok (.iload_n 3, 1) := by decide +kernel
theorem dX8_lendsOn_54 : decode cX8_lendsOn 54 = .ok (.iaload, 1) := by decide +kernel
theorem dX8_lendsOn_55 : decode cX8_lendsOn 55 = .ok (.iconst (-1), 1) := by decide +kernel
theorem dX8_lendsOn_56 : decode cX8_lendsOn 56 = .ok (.if_icmp .ne 63, 3) := by decide +kernel
theorem dX8_lendsOn_59 : decode cX8_lendsOn 59 = .ok (.aload_n 0, 1) := by decide +kernel
theorem dX8_lendsOn_60 : decode cX8_lendsOn 60 = .ok (.getfield 49, 3) := by decide +kernel
theorem dX8_lendsOn_63 : decode cX8_lendsOn 63 = .ok (.iload_n 3, 1) := by decide +kernel
theorem dX8_lendsOn_64 : decode cX8_lendsOn 64 = .ok (.iload_n 2, 1) := by decide +kernel
theorem dX8_lendsOn_65 : decode cX8_lendsOn 65 = .ok (.iastore, 1) := by decide +kernel
theorem dX8_lendsOn_66 : decode cX8_lendsOn 66 = .ok (.aload_n 0, 1) := by decide +kernel
theorem dX8_lendsOn_67 : decode cX8_lendsOn 67 = .ok (.getfield 55, 3) := by decide +kernel
theorem dX8_lendsOn_70 : decode cX8_lendsOn 70 = .ok (.iload_n 3, 1) := by decide +kernel
theorem dX8_lendsOn_71 : decode cX8_lendsOn 71 = .ok (.iconst 0, 1) := by decide +kernel
theorem dX8_lendsOn_72 : decode cX8_lendsOn 72 = .ok (.iastore, 1) := by decide +kernel
theorem dX8_lendsOn_73 : decode cX8_lendsOn 73 = .ok (.aload_n 0, 1) := by decide +kernel
theorem dX8_lendsOn_74 : decode cX8_lendsOn 74 = .ok (.getfield 52, 3) := by decide +kernel
theorem dX8_lendsOn_77 : decode cX8_lendsOn 77 = .ok (.iload_n 3, 1) := by decide +kernel
theorem dX8_lendsOn_78 : decode cX8_lendsOn 78 = .ok (.iload_n 1, 1) := by decide +kernel
theorem dX8_lendsOn_79 : decode cX8_lendsOn 79 = .ok (.aload_n 0, 1) := by decide +kernel
theorem dX8_lendsOn_80 : decode cX8_lendsOn 80 = .ok (.getfield 34, 3) := by decide +kernel
theorem dX8_lendsOn_83 : decode cX8_lendsOn 83 = .ok (.iconst 4, 1) := by decide +kernel
theorem dX8_lendsOn_84 : decode cX8_lendsOn 84 = .ok (.iload_n 2, 1) := by decide +kernel
theorem dX8_lendsOn_85 : decode cX8_lendsOn 85 = .ok (.imul, 1) := by decide +kernel
theorem dX8_lendsOn_86 : decode cX8_lendsOn 86 = .ok (.iconst 3, 1) := by decide +kernel
theorem dX8_lendsOn_87 : decode cX8_lendsOn 87 = .ok (.iadd, 1) := by decide +kernel
theorem dX8_lendsOn_88 : decode cX8_lendsOn 88 = .ok (.iaload, 1) := by decide +kernel
theorem dX8_lendsOn_89 : decode cX8_lendsOn 89 = .ok (.iadd, 1) := by decide +kernel
theorem dX8_lendsOn_90 : decode cX8_lendsOn 90 = .ok (.iconst 1, 1) := by decide +kernel
theorem dX8_lendsOn_91 : decode cX8_lendsOn 91 = .ok (.isub, 1) := by decide +kernel
theorem dX8_lendsOn_92 : decode cX8_lendsOn 92 = .ok (.iastore, 1) := by decide +kernel
theorem dX8_lendsOn_93 : decode cX8_lendsOn 93 = .ok (.aload_n 0, 1) := by decide +kernel
theorem dX8_lendsOn_94 : decode cX8_lendsOn 94 = .ok (.getfield 58, 3) := by decide +kernel
theorem dX8_lendsOn_97 : decode cX8_lendsOn 97 = .ok (.iload_n 2, 1) := by decide +kernel
theorem dX8_lendsOn_98 : decode cX8_lendsOn 98 = .ok (.iconst 1, 1) := by decide +kernel
theorem dX8_lendsOn_99 : decode cX8_lendsOn 99 = .ok (.iastore, 1) := by decide +kernel
theorem dX8_lendsOn_100 : decode cX8_lendsOn 100 = .ok (.aload_n 0, 1) := by decide +kernel
theorem dX8_lendsOn_101 : decode cX8_lendsOn 101 = .ok (.getfield 64, 3) := by decide +kernel
theorem dX8_lendsOn_104 : decode cX8_lendsOn 104 = .ok (.iload_n 2, 1) := by decide +kernel
theorem dX8_lendsOn_105 : decode cX8_lendsOn 105 = .ok (.aload_n 0, 1) := by decide +kernel
theorem dX8_lendsOn_106 : decode cX8_lendsOn 106 = .ok (.getfield 43, 3) := by decide +kernel
theorem dX8_lendsOn_109 : decode cX8_lendsOn 109 = .ok (.iload_n 3, 1) := by decide +kernel
theorem dX8_lendsOn_110 : decode cX8_lendsOn 110 = .ok (.iaload, 1) := by decide +kernel
theorem dX8_lendsOn_111 : decode cX8_lendsOn 111 = .ok (.aload_n 0, 1) := by decide +kernel
theorem dX8_lendsOn_112 : decode cX8_lendsOn 112 = .ok (.getfield 46, 3) := by decide +kernel
theorem dX8_lendsOn_115 : decode cX8_lendsOn 115 = .ok (.iload_n 3, 1) := by decide +kernel
theorem dX8_lendsOn_116 : decode cX8_lendsOn 116 = .ok (.iaload, 1) := by decide +kernel
theorem dX8_lendsOn_117 : decode cX8_lendsOn 117 = .ok (.imul, 1) := by decide +kernel
theorem dX8_lendsOn_118 : decode cX8_lendsOn 118 = .ok (.iastore, 1) := by decide +kernel
theorem dX8_lendsOn_119 : decode cX8_lendsOn 119 = .ok (.iinc 2 1, 3) := by decide +kernel
theorem dX8_lendsOn_122 : decode cX8_lendsOn 122 = .ok (.goto (-120), 3) := by decide +kernel
theorem dX8_lendsOn_125 : decode cX8_lendsOn 125 = .ok (.return_, 1) := by decide +kernel
theorem dX8_fillsOn_0 : decode cX8_fillsOn 0 = .ok (.iconst 0, 1) := by decide +kernel
theorem dX8_fillsOn_1 : decode cX8_fillsOn 1 = .ok (.istore_n 2, 1) := by decide +kernel
theorem dX8_fillsOn_2 : decode cX8_fillsOn 2 = .ok (.iload_n 2, 1) := by decide +kernel
theorem dX8_fillsOn_3 : decode cX8_fillsOn 3 = .ok (.aload_n 0, 1) := by decide +kernel
theorem dX8_fillsOn_4 : decode cX8_fillsOn 4 = .ok (.getfield 168, 3) := by decide +kernel
theorem dX8_fillsOn_7 : decode cX8_fillsOn 7 = .ok (.if_icmp .ge 66, 3) := by decide +kernel
theorem dX8_fillsOn_10 : decode cX8_fillsOn 10 = .ok (.aload_n 0, 1) := by decide +kernel
theorem dX8_fillsOn_11 : decode cX8_fillsOn 11 = .ok (.getfield 37, 3) := by decide +kernel
theorem dX8_fillsOn_14 : decode cX8_fillsOn 14 = .ok (.iconst 2, 1) := by decide +kernel
theorem dX8_fillsOn_15 : decode cX8_fillsOn 15 = .ok (.iload_n 2, 1) := by decide +kernel
theorem dX8_fillsOn_16 : decode cX8_fillsOn 16 = .ok (.imul, 1) := by decide +kernel
theorem dX8_fillsOn_17 : decode cX8_fillsOn 17 = .ok (.iconst 1, 1) := by decide +kernel
theorem dX8_fillsOn_18 : decode cX8_fillsOn 18 = .ok (.iadd, 1) := by decide +kernel
theorem dX8_fillsOn_19 : decode cX8_fillsOn 19 = .ok (.iaload, 1) := by decide +kernel
theorem dX8_fillsOn_20 : decode cX8_fillsOn 20 = .ok (.istore_n 3, 1) := by decide +kernel
theorem dX8_fillsOn_21 : decode cX8_fillsOn 21 = .ok (.aload_n 0, 1) := by decide +kernel
theorem dX8_fillsOn_22 : decode cX8_fillsOn 22 = .ok (.dup, 1) := by decide +kernel
theorem dX8_fillsOn_23 : decode cX8_fillsOn 23 = .ok (.getfield 183, 3) := by decide +kernel
theorem dX8_fillsOn_26 : decode cX8_fillsOn 26 = .ok (.aload_n 0, 1) := by decide +kernel
theorem dX8_fillsOn_27 : decode cX8_fillsOn 27 = .ok (.getfield 37, 3) := by decide +kernel
theorem dX8_fillsOn_30 : decode cX8_fillsOn 30 = .ok (.iconst 2, 1) := by decide +kernel
theorem dX8_fillsOn_31 : decode cX8_fillsOn 31 = .ok (.iload_n 2, 1) := by decide +kernel
theorem dX8_fillsOn_32 : decode cX8_fillsOn 32 = .ok (.imul, 1) := by decide +kernel
theorem dX8_fillsOn_33 : decode cX8_fillsOn 33 = .ok (.iaload, 1) := by decide +kernel
theorem dX8_fillsOn_34 : decode cX8_fillsOn 34 = .ok (.iload_n 1, 1) := by decide +kernel
theorem dX8_fillsOn_35 : decode cX8_fillsOn 35 = .ok (.if_icmp .ne 27, 3) := by decide +kernel
theorem dX8_fillsOn_38 : decode cX8_fillsOn 38 = .ok (.aload_n 0, 1) := by decide +kernel
theorem dX8_fillsOn_39 : decode cX8_fillsOn 39 = .ok (.iload_n 3, 1) := by decide +kernel
theorem dX8_fillsOn_40 : decode cX8_fillsOn 40 = .ok (.invokevirtual 145, 3) := by decide +kernel
theorem dX8_fillsOn_43 : decode cX8_fillsOn 43 = .ok (.ifCond .eq 19, 3) := by decide +kernel
theorem dX8_fillsOn_46 : decode cX8_fillsOn 46 = .ok (.aload_n 0, 1) := by decide +kernel
theorem dX8_fillsOn_47 : decode cX8_fillsOn 47 = .ok (.getfield 49, 3) := by decide +kernel
theorem dX8_fillsOn_50 : decode cX8_fillsOn 50 = .ok (.iload_n 3, 1) := by decide +kernel
theorem dX8_fillsOn_51 : decode cX8_fillsOn 51 = .ok (.iaload, 1) := by decide +kernel
theorem dX8_fillsOn_52 : decode cX8_fillsOn 52 = .ok (.iconst (-1), 1) := by decide +kernel
theorem dX8_fillsOn_53 : decode cX8_fillsOn 53 = .ok (.if_icmp .eq 9, 3) := by decide +kernel
theorem dX8_fillsOn_56 : decode cX8_fillsOn 56 = .ok (.iconst 1, 1) := by decide +kernel
theorem dX8_fillsOn_57 : decode cX8_fillsOn 57 = .ok (.iload_n 3, 1) := by decide +kernel
theorem dX8_fillsOn_58 : decode cX8_fillsOn 58 = .ok (.ishl, 1) := by decide +kernel
theorem dX8_fillsOn_59 : decode cX8_fillsOn 59 = .ok (.goto 4, 3) := by decide +kernel
theorem dX8_fillsOn_62 : decode cX8_fillsOn 62 = .ok (.iconst 0, 1) := by decide +kernel
theorem dX8_fillsOn_63 : decode cX8_fillsOn 63 = .ok (.ior, 1) := by decide +kernel
theorem dX8_fillsOn_64 : decode cX8_fillsOn 64 = .ok (.putfield 183, 3) := by decide +kernel
theorem dX8_fillsOn_67 : decode cX8_fillsOn 67 = .ok (.iinc 2 1, 3) := by decide +kernel
theorem dX8_fillsOn_70 : decode cX8_fillsOn 70 = .ok (.goto (-68), 3) := by decide +kernel
theorem dX8_fillsOn_73 : decode cX8_fillsOn 73 = .ok (.return_, 1) := by decide +kernel
theorem dX8_patchesOn_0 : decode cX8_patchesOn 0 = .ok (.iconst 0, 1) := by decide +kernel
theorem dX8_patchesOn_1 : decode cX8_patchesOn 1 = .ok (.istore_n 2, 1) := by decide +kernel
theorem dX8_patchesOn_2 : decode cX8_patchesOn 2 = .ok (.iload_n 2, 1) := by decide +kernel
theorem dX8_patchesOn_3 : decode cX8_patchesOn 3 = .ok (.aload_n 0, 1) := by decide +kernel
theorem dX8_patchesOn_4 : decode cX8_patchesOn 4 = .ok (.getfield 171, 3) := by decide +kernel
theorem dX8_patchesOn_7 : decode cX8_patchesOn 7 = .ok (.if_icmp .ge 76, 3) := by decide +kernel
theorem dX8_patchesOn_10 : decode cX8_patchesOn 10 = .ok (.aload_n 0, 1) := by decide +kernel
theorem dX8_patchesOn_11 : decode cX8_patchesOn 11 = .ok (.getfield 40, 3) := by decide +kernel
theorem dX8_patchesOn_14 : decode cX8_patchesOn 14 = .ok (.iconst 2, 1) := by decide +kernel
theorem dX8_patchesOn_15 : decode cX8_patchesOn 15 = .ok (.iload_n 2, 1) := by decide +kernel
theorem dX8_patchesOn_16 : decode cX8_patchesOn 16 = .ok (.imul, 1) := by decide +kernel
theorem dX8_patchesOn_17 : decode cX8_patchesOn 17 = .ok (.iconst 1, 1) := by decide +kernel
theorem dX8_patchesOn_18 : decode cX8_patchesOn 18 = .ok (.iadd, 1) := by decide +kernel
theorem dX8_patchesOn_19 : decode cX8_patchesOn 19 = .ok (.iaload, 1) := by decide +kernel
theorem dX8_patchesOn_20 : decode cX8_patchesOn 20 = .ok (.istore_n 3, 1) := by decide +kernel
theorem dX8_patchesOn_21 : decode cX8_patchesOn 21 = .ok (.iload_n 2, 1) := by decide +kernel
theorem dX8_patchesOn_22 : decode cX8_patchesOn 22 = .ok (.aload_n 0, 1) := by decide +kernel
theorem dX8_patchesOn_23 : decode cX8_patchesOn 23 = .ok (.getfield 89, 3) := by decide +kernel
theorem dX8_patchesOn_26 : decode cX8_patchesOn 26 = .ok (.if_icmp .eq 51, 3) := by decide +kernel
theorem dX8_patchesOn_29 : decode cX8_patchesOn 29 = .ok (.aload_n 0, 1) := by decide +kernel
theorem dX8_patchesOn_30 : decode cX8_patchesOn 30 = .ok (.getfield 40, 3) := by decide +kernel
theorem dX8_patchesOn_33 : decode cX8_patchesOn 33 = .ok (.iconst 2, 1) := by decide +kernel
theorem dX8_patchesOn_34 : decode cX8_patchesOn 34 = .ok (.iload_n 2, 1) := by decide +kernel
theorem dX8_patchesOn_35 : decode cX8_patchesOn 35 = .ok (.imul, 1) := by decide +kernel
theorem dX8_patchesOn_36 : decode cX8_patchesOn 36 = .ok (.iaload, 1) := by decide +kernel
theorem dX8_patchesOn_37 : decode cX8_patchesOn 37 = .ok (.iload_n 1, 1) := by decide +kernel
theorem dX8_patchesOn_38 : decode cX8_patchesOn 38 = .ok (.if_icmp .ne 39, 3) := by decide +kernel
theorem dX8_patchesOn_41 : decode cX8_patchesOn 41 = .ok (.aload_n 0, 1) := by decide +kernel
theorem dX8_patchesOn_42 : decode cX8_patchesOn 42 = .ok (.iload_n 3, 1) := by decide +kernel
theorem dX8_patchesOn_43 : decode cX8_patchesOn 43 = .ok (.invokevirtual 145, 3) := by decide +kernel
theorem dX8_patchesOn_46 : decode cX8_patchesOn 46 = .ok (.ifCond .eq 31, 3) := by decide +kernel
theorem dX8_patchesOn_49 : decode cX8_patchesOn 49 = .ok (.aload_n 0, 1) := by decide +kernel
theorem dX8_patchesOn_50 : decode cX8_patchesOn 50 = .ok (.getfield 49, 3) := by decide +kernel
theorem dX8_patchesOn_53 : decode cX8_patchesOn 53 = .ok (.iload_n 3, 1) := by decide +kernel
theorem dX8_patchesOn_54 : decode cX8_patchesOn 54 = .ok (.iaload, 1) := by decide +kernel
theorem dX8_patchesOn_55 : decode cX8_patchesOn 55 = .ok (.iconst (-1), 1) := by decide +kernel
theorem dX8_patchesOn_56 : decode cX8_patchesOn 56 = .ok (.if_icmp .ne 21, 3) := by decide +kernel
theorem dX8_patchesOn_59 : decode cX8_patchesOn 59 = .ok (.aload_n 0, 1) := by decide +kernel
theorem dX8_patchesOn_60 : decode cX8_patchesOn 60 = .ok (.getfield 43, 3) := by decide +kernel
theorem dX8_patchesOn_63 : decode cX8_patchesOn 63 = .ok (.iload_n 3, 1) := by decide +kernel
theorem dX8_patchesOn_64 : decode cX8_patchesOn 64 = .ok (.aload_n 0, 1) := by decide +kernel
theorem dX8_patchesOn_65 : decode cX8_patchesOn 65 = .ok (.getfield 43, 3) := by decide +kernel
theorem dX8_patchesOn_68 : decode cX8_patchesOn 68 = .ok (.iload_n 3, 1) := by decide +kernel
theorem dX8_patchesOn_69 : decode cX8_patchesOn 69 = .ok (.iaload, 1) := by decide +kernel
theorem dX8_patchesOn_70 : decode cX8_patchesOn 70 = .ok (.iconst 1, 1) := by decide +kernel
theorem dX8_patchesOn_71 : decode cX8_patchesOn 71 = .ok (.isub, 1) := by decide +kernel
theorem dX8_patchesOn_72 : decode cX8_patchesOn 72 = .ok (.iconst 1, 1) := by decide +kernel
theorem dX8_patchesOn_73 : decode cX8_patchesOn 73 = .ok (.invokestatic 186, 3) := by decide +kernel
theorem dX8_patchesOn_76 : decode cX8_patchesOn 76 = .ok (.iastore, 1) := by decide +kernel
theorem dX8_patchesOn_77 : decode cX8_patchesOn 77 = .ok (.iinc 2 1, 3) := by decide +kernel
theorem dX8_patchesOn_80 : decode cX8_patchesOn 80 = .ok (.goto (-78), 3) := by decide +kernel
theorem dX8_patchesOn_83 : decode cX8_patchesOn 83 = .ok (.return_, 1) := by decide +kernel
theorem dX8_grows_0 : decode cX8_grows 0 = .ok (.aload_n 0, 1) := by decide +kernel
theorem dX8_grows_1 : decode cX8_grows 1 = .ok (.getfield 31, 3) := by decide +kernel
theorem dX8_grows_4 : decode cX8_grows 4 = .ok (.iconst 4, 1) := by decide +kernel
theorem dX8_grows_5 : decode cX8_grows 5 = .ok (.iload_n 1, 1) := by decide +kernel
theorem dX8_grows_6 : decode cX8_grows 6 = .ok (.imul, 1) := by decide +kernel
theorem dX8_grows_7 : decode cX8_grows 7 = .ok (.iaload, 1) := by decide +kernel
theorem dX8_grows_8 : decode cX8_grows 8 = .ok (.istore_n 2, 1) := by decide +kernel
theorem dX8_grows_9 : decode cX8_grows 9 = .ok (.aload_n 0, 1) := by decide +kernel
theorem dX8_grows_10 : decode cX8_grows 10 = .ok (.getfield 43, 3) := by decide +kernel
theorem dX8_grows_13 : decode cX8_grows 13 = .ok (.iload_n 1, 1) := by decide +kernel
theorem dX8_grows_14 : decode cX8_grows 14 = .ok (.iload_n 2, 1) := by decide +kernel
theorem dX8_grows_15 : decode cX8_grows 15 = .ok (.iconst 2, 1) := by decide +kernel
theorem dX8_grows_16 : decode cX8_grows 16 = .ok (.if_icmp .ne 12, 3) := by decide +kernel
theorem dX8_grows_19 : decode cX8_grows 19 = .ok (.aload_n 0, 1) := by decide +kernel
theorem dX8_grows_20 : decode cX8_grows 20 = .ok (.getfield 43, 3) := by decide +kernel
theorem dX8_grows_23 : decode cX8_grows 23 = .ok (.iload_n 1, 1) := by decide +kernel
theorem dX8_grows_24 : decode cX8_grows 24 = .ok (.iaload, 1) := by decide +kernel
theorem dX8_grows_25 : decode cX8_grows 25 = .ok (.goto 16, 3) := by decide +kernel
theorem dX8_grows_28 : decode cX8_grows 28 = .ok (.aload_n 0, 1) := by decide +kernel
theorem dX8_grows_29 : decode cX8_grows 29 = .ok (.getfield 43, 3) := by decide +kernel
theorem dX8_grows_32 : decode cX8_grows 32 = .ok (.iload_n 1, 1) := by decide +kernel
theorem dX8_grows_33 : decode cX8_grows 33 = .ok (.iaload, 1) := by decide +kernel
theorem dX8_grows_34 : decode cX8_grows 34 = .ok (.iconst 1, 1) := by decide +kernel
theorem dX8_grows_35 : decode cX8_grows 35 = .ok (.iadd, 1) := by decide +kernel
theorem dX8_grows_36 : decode cX8_grows 36 = .ok (.bipush 9, 2) := by decide +kernel
theorem dX8_grows_38 : decode cX8_grows 38 = .ok (.invokestatic 189, 3) := by decide +kernel
theorem dX8_grows_41 : decode cX8_grows 41 = .ok (.iastore, 1) := by decide +kernel
theorem dX8_grows_42 : decode cX8_grows 42 = .ok (.aload_n 0, 1) := by decide +kernel
theorem dX8_grows_43 : decode cX8_grows 43 = .ok (.getfield 46, 3) := by decide +kernel
theorem dX8_grows_46 : decode cX8_grows 46 = .ok (.iload_n 1, 1) := by decide +kernel
theorem dX8_grows_47 : decode cX8_grows 47 = .ok (.iload_n 2, 1) := by decide +kernel
theorem dX8_grows_48 : decode cX8_grows 48 = .ok (.iconst 2, 1) := by decide +kernel
theorem dX8_grows_49 : decode cX8_grows 49 = .ok (.if_icmp .ne 19, 3) := by decide +kernel
theorem dX8_grows_52 : decode cX8_grows 52 = .ok (.aload_n 0, 1) := by decide +kernel
theorem dX8_grows_53 : decode cX8_grows 53 = .ok (.getfield 46, 3) := by decide +kernel
theorem dX8_grows_56 : decode cX8_grows 56 = .ok (.iload_n 1, 1) := by decide +kernel
theorem dX8_grows_57 : decode cX8_grows 57 = .ok (.iaload, 1) := by decide +kernel
theorem dX8_grows_58 : decode cX8_grows 58 = .ok (.iconst 1, 1) := by decide +kernel
theorem dX8_grows_59 : decode cX8_grows 59 = .ok (.iadd, 1) := by decide +kernel
theorem dX8_grows_60 : decode cX8_grows 60 = .ok (.bipush 9, 2) := by decide +kernel
theorem dX8_grows_62 : decode cX8_grows 62 = .ok (.invokestatic 189, 3) := by decide +kernel
theorem dX8_grows_65 : decode cX8_grows 65 = .ok (.goto 29, 3) := by decide +kernel
theorem dX8_grows_68 : decode cX8_grows 68 = .ok (.iload_n 2, 1) := by decide +kernel
theorem dX8_grows_69 : decode cX8_grows 69 = .ok (.iconst 1, 1) := by decide +kernel
theorem dX8_grows_70 : decode cX8_grows 70 = .ok (.if_icmp .ne 18, 3) := by decide +kernel
theorem dX8_grows_73 : decode cX8_grows 73 = .ok (.aload_n 0, 1) := by decide +kernel
theorem dX8_grows_74 : decode cX8_grows 74 = .ok (.getfield 46, 3) := by decide +kernel
theorem dX8_grows_77 : decode cX8_grows 77 = .ok (.iload_n 1, 1) := by decide +kernel
theorem dX8_grows_78 : decode cX8_grows 78 = .ok (.iaload, 1) := by decide +kernel
theorem dX8_grows_79 : decode cX8_grows 79 = .ok (.iconst 1, 1) := by decide +kernel
theorem dX8_grows_80 : decode cX8_grows 80 = .ok (.isub, 1) := by decide +kernel
theorem dX8_grows_81 : decode cX8_grows 81 = .ok (.iconst 1, 1) := by decide +kernel
theorem dX8_grows_82 : decode cX8_grows 82 = .ok (.invokestatic 186, 3) := by decide +kernel
theorem dX8_grows_85 : decode cX8_grows 85 = .ok (.goto 9, 3) := by decide +kernel
theorem dX8_grows_88 : decode cX8_grows 88 = .ok (.aload_n 0, 1) := by decide +kernel
theorem dX8_grows_89 : decode cX8_grows 89 = .ok (.getfield 46, 3) := by decide +kernel
theorem dX8_grows_92 : decode cX8_grows 92 = .ok (.iload_n 1, 1) := by decide +kernel
theorem dX8_grows_93 : decode cX8_grows 93 = .ok (.iaload, 1) := by decide +kernel
theorem dX8_grows_94 : decode cX8_grows 94 = .ok (.iastore, 1) := by decide +kernel
theorem dX8_grows_95 : decode cX8_grows 95 = .ok (.return_, 1) := by decide +kernel
theorem dX8_comesBack_0 : decode cX8_comesBack 0 = .ok (.aload_n 0, 1) := by decide +kernel
theorem dX8_comesBack_1 : decode cX8_comesBack 1 = .ok (.getfield 49, 3) := by decide +kernel
theorem dX8_comesBack_4 : decode cX8_comesBack 4 = .ok (.iload_n 1, 1) := by decide +kernel
theorem dX8_comesBack_5 : decode cX8_comesBack 5 = .ok (.iaload, 1) := by decide +kernel
theorem dX8_comesBack_6 : decode cX8_comesBack 6 = .ok (.istore_n 3, 1) := by decide +kernel
theorem dX8_comesBack_7 : decode cX8_comesBack 7 = .ok (.aload_n 0, 1) := by decide +kernel
theorem dX8_comesBack_8 : decode cX8_comesBack 8 = .ok (.getfield 49, 3) := by decide +kernel
theorem dX8_comesBack_11 : decode cX8_comesBack 11 = .ok (.iload_n 1, 1) := by decide +kernel
theorem dX8_comesBack_12 : decode cX8_comesBack 12 = .ok (.iconst (-1), 1) := by decide +kernel
theorem dX8_comesBack_13 : decode cX8_comesBack 13 = .ok (.iastore, 1) := by decide +kernel
theorem dX8_comesBack_14 : decode cX8_comesBack 14 = .ok (.aload_n 0, 1) := by decide +kernel
theorem dX8_comesBack_15 : decode cX8_comesBack 15 = .ok (.getfield 67, 3) := by decide +kernel
theorem dX8_comesBack_18 : decode cX8_comesBack 18 = .ok (.iload_n 3, 1) := by decide +kernel
theorem dX8_comesBack_19 : decode cX8_comesBack 19 = .ok (.aload_n 0, 1) := by decide +kernel
theorem dX8_comesBack_20 : decode cX8_comesBack 20 = .ok (.getfield 43, 3) := by decide +kernel
theorem dX8_comesBack_23 : decode cX8_comesBack 23 = .ok (.iload_n 1, 1) := by decide +kernel
theorem dX8_comesBack_24 : decode cX8_comesBack 24 = .ok (.iaload, 1) := by decide +kernel
theorem dX8_comesBack_25 : decode cX8_comesBack 25 = .ok (.aload_n 0, 1) := by decide +kernel
theorem dX8_comesBack_26 : decode cX8_comesBack 26 = .ok (.getfield 46, 3) := by decide +kernel
theorem dX8_comesBack_29 : decode cX8_comesBack 29 = .ok (.iload_n 1, 1) := by decide +kernel
theorem dX8_comesBack_30 : decode cX8_comesBack 30 = .ok (.iaload, 1) := by decide +kernel
theorem dX8_comesBack_31 : decode cX8_comesBack 31 = .ok (.imul, 1) := by decide +kernel
theorem dX8_comesBack_32 : decode cX8_comesBack 32 = .ok (.iastore, 1) := by decide +kernel
theorem dX8_comesBack_33 : decode cX8_comesBack 33 = .ok (.aload_n 0, 1) := by decide +kernel
theorem dX8_comesBack_34 : decode cX8_comesBack 34 = .ok (.getfield 61, 3) := by decide +kernel
theorem dX8_comesBack_37 : decode cX8_comesBack 37 = .ok (.iload_n 3, 1) := by decide +kernel
theorem dX8_comesBack_38 : decode cX8_comesBack 38 = .ok (.aload_n 0, 1) := by decide +kernel
theorem dX8_comesBack_39 : decode cX8_comesBack 39 = .ok (.getfield 183, 3) := by decide +kernel
theorem dX8_comesBack_42 : decode cX8_comesBack 42 = .ok (.iload_n 1, 1) := by decide +kernel
theorem dX8_comesBack_43 : decode cX8_comesBack 43 = .ok (.invokestatic 192, 3) := by decide +kernel
theorem dX8_comesBack_46 : decode cX8_comesBack 46 = .ok (.ifCond .eq 7, 3) := by decide +kernel
theorem dX8_comesBack_49 : decode cX8_comesBack 49 = .ok (.iload_n 2, 1) := by decide +kernel
theorem dX8_comesBack_50 : decode cX8_comesBack 50 = .ok (.goto 4, 3) := by decide +kernel
theorem dX8_comesBack_53 : decode cX8_comesBack 53 = .ok (.iconst (-1), 1) := by decide +kernel
theorem dX8_comesBack_54 : decode cX8_comesBack 54 = .ok (.iastore, 1) := by decide +kernel
theorem dX8_comesBack_55 : decode cX8_comesBack 55 = .ok (.aload_n 0, 1) := by decide +kernel
theorem dX8_comesBack_56 : decode cX8_comesBack 56 = .ok (.dup, 1) := by decide +kernel
theorem dX8_comesBack_57 : decode cX8_comesBack 57 = .ok (.getfield 183, 3) := by decide +kernel
theorem dX8_comesBack_60 : decode cX8_comesBack 60 = .ok (.iconst 1, 1) := by decide +kernel
theorem dX8_comesBack_61 : decode cX8_comesBack 61 = .ok (.iload_n 1, 1) := by decide +kernel
theorem dX8_comesBack_62 : decode cX8_comesBack 62 = .ok (.ishl, 1) := by decide +kernel
theorem dX8_comesBack_63 : decode cX8_comesBack 63 = .ok (.iconst (-1), 1) := by decide +kernel
theorem dX8_comesBack_64 : decode cX8_comesBack 64 = .ok (.ixor, 1) := by decide +kernel
theorem dX8_comesBack_65 : decode cX8_comesBack 65 = .ok (.iand, 1) := by decide +kernel
theorem dX8_comesBack_66 : decode cX8_comesBack 66 = .ok (.putfield 183, 3) := by decide +kernel
theorem dX8_comesBack_69 : decode cX8_comesBack 69 = .ok (.return_, 1) := by decide +kernel
theorem dX8_day_0 : decode cX8_day 0 = .ok (.aload_n 0, 1) := by decide +kernel
theorem dX8_day_1 : decode cX8_day 1 = .ok (.iload_n 1, 1) := by decide +kernel
theorem dX8_day_2 : decode cX8_day 2 = .ok (.invokevirtual 196, 3) := by decide +kernel
theorem dX8_day_5 : decode cX8_day 5 = .ok (.aload_n 0, 1) := by decide +kernel
theorem dX8_day_6 : decode cX8_day 6 = .ok (.iload_n 1, 1) := by decide +kernel
theorem dX8_day_7 : decode cX8_day 7 = .ok (.invokevirtual 200, 3) := by decide +kernel
theorem dX8_day_10 : decode cX8_day 10 = .ok (.aload_n 0, 1) := by decide +kernel
theorem dX8_day_11 : decode cX8_day 11 = .ok (.iload_n 1, 1) := by decide +kernel
theorem dX8_day_12 : decode cX8_day 12 = .ok (.invokevirtual 203, 3) := by decide +kernel
theorem dX8_day_15 : decode cX8_day 15 = .ok (.iconst 0, 1) := by decide +kernel
theorem dX8_day_16 : decode cX8_day 16 = .ok (.istore_n 2, 1) := by decide +kernel
theorem dX8_day_17 : decode cX8_day 17 = .ok (.iload_n 2, 1) := by decide +kernel
theorem dX8_day_18 : decode cX8_day 18 = .ok (.aload_n 0, 1) := by decide +kernel
theorem dX8_day_19 : decode cX8_day 19 = .ok (.getfield 28, 3) := by decide +kernel
theorem dX8_day_22 : decode cX8_day 22 = .ok (.iconst 0, 1) := by decide +kernel
theorem dX8_day_23 : decode cX8_day 23 = .ok (.iaload, 1) := by decide +kernel
theorem dX8_day_24 : decode cX8_day 24 = .ok (.if_icmp .ge 76, 3) := by decide +kernel
theorem dX8_day_27 : decode cX8_day 27 = .ok (.aload_n 0, 1) := by decide +kernel
theorem dX8_day_28 : decode cX8_day 28 = .ok (.getfield 49, 3) := by decide +kernel
theorem dX8_day_31 : decode cX8_day 31 = .ok (.iload_n 2, 1) := by decide +kernel
theorem dX8_day_32 : decode cX8_day 32 = .ok (.iaload, 1) := by decide +kernel
theorem dX8_day_33 : decode cX8_day 33 = .ok (.iconst (-1), 1) := by decide +kernel
theorem dX8_day_34 : decode cX8_day 34 = .ok (.if_icmp .eq 60, 3) := by decide +kernel
theorem dX8_day_37 : decode cX8_day 37 = .ok (.aload_n 0, 1) := by decide +kernel
theorem dX8_day_38 : decode cX8_day 38 = .ok (.getfield 55, 3) := by decide +kernel
theorem dX8_day_41 : decode cX8_day 41 = .ok (.iload_n 2, 1) := by decide +kernel
theorem dX8_day_42 : decode cX8_day 42 = .ok (.dup2, 1) := by decide +kernel
theorem dX8_day_43 : decode cX8_day 43 = .ok (.iaload, 1) := by decide +kernel
theorem dX8_day_44 : decode cX8_day 44 = .ok (.iconst 1, 1) := by decide +kernel
theorem dX8_day_45 : decode cX8_day 45 = .ok (.iadd, 1) := by decide +kernel
theorem dX8_day_46 : decode cX8_day 46 = .ok (.iastore, 1) := by decide +kernel
theorem dX8_day_47 : decode cX8_day 47 = .ok (.aload_n 0, 1) := by decide +kernel
theorem dX8_day_48 : decode cX8_day 48 = .ok (.getfield 31, 3) := by decide +kernel
theorem dX8_day_51 : decode cX8_day 51 = .ok (.iconst 4, 1) := by decide +kernel
theorem dX8_day_52 : decode cX8_day 52 = .ok (.iload_n 2, 1) := by decide +kernel
theorem dX8_day_53 : decode cX8_day 53 = .ok (.imul, 1) := by decide +kernel
theorem dX8_day_54 : decode cX8_day 54 = .ok (.iconst 3, 1) := by decide +kernel
theorem dX8_day_55 : decode cX8_day 55 = .ok (.iadd, 1) := by decide +kernel
theorem dX8_day_56 : decode cX8_day 56 = .ok (.iaload, 1) := by decide +kernel
theorem dX8_day_57 : decode cX8_day 57 = .ok (.istore_n 3, 1) := by decide +kernel
theorem dX8_day_58 : decode cX8_day 58 = .ok (.iload_n 3, 1) := by decide +kernel
theorem dX8_day_59 : decode cX8_day 59 = .ok (.ifCond .le 19, 3) := by decide +kernel
theorem dX8_day_62 : decode cX8_day 62 = .ok (.aload_n 0, 1) := by decide +kernel
theorem dX8_day_63 : decode cX8_day 63 = .ok (.getfield 55, 3) := by decide +kernel
theorem dX8_day_66 : decode cX8_day 66 = .ok (.iload_n 2, 1) := by decide +kernel
theorem dX8_day_67 : decode cX8_day 67 = .ok (.iaload, 1) := by decide +kernel
theorem dX8_day_68 : decode cX8_day 68 = .ok (.iload_n 3, 1) := by decide +kernel
theorem dX8_day_69 : decode cX8_day 69 = .ok (.irem, 1) := by decide +kernel
theorem dX8_day_70 : decode cX8_day 70 = .ok (.ifCond .ne 8, 3) := by decide +kernel
theorem dX8_day_73 : decode cX8_day 73 = .ok (.aload_n 0, 1) := by decide +kernel
theorem dX8_day_74 : decode cX8_day 74 = .ok (.iload_n 2, 1) := by decide +kernel
theorem dX8_day_75 : decode cX8_day 75 = .ok (.invokevirtual 206, 3) := by decide +kernel
theorem dX8_day_78 : decode cX8_day 78 = .ok (.aload_n 0, 1) := by decide +kernel
theorem dX8_day_79 : decode cX8_day 79 = .ok (.getfield 52, 3) := by decide +kernel
theorem dX8_day_82 : decode cX8_day 82 = .ok (.iload_n 2, 1) := by decide +kernel
theorem dX8_day_83 : decode cX8_day 83 = .ok (.iaload, 1) := by decide +kernel
theorem dX8_day_84 : decode cX8_day 84 = .ok (.iload_n 1, 1) := by decide +kernel
theorem dX8_day_85 : decode cX8_day 85 = .ok (.if_icmp .ne 9, 3) := by decide +kernel
theorem dX8_day_88 : decode cX8_day 88 = .ok (.aload_n 0, 1) := by decide +kernel
theorem dX8_day_89 : decode cX8_day 89 = .ok (.iload_n 2, 1) := by decide +kernel
theorem dX8_day_90 : decode cX8_day 90 = .ok (.iload_n 1, 1) := by decide +kernel
theorem dX8_day_91 : decode cX8_day 91 = .ok (.invokevirtual 209, 3) := by decide +kernel
theorem dX8_day_94 : decode cX8_day 94 = .ok (.iinc 2 1, 3) := by decide +kernel
theorem dX8_day_97 : decode cX8_day 97 = .ok (.goto (-80), 3) := by decide +kernel
theorem dX8_day_100 : decode cX8_day 100 = .ok (.return_, 1) := by decide +kernel
theorem dX8_lives_0 : decode cX8_lives 0 = .ok (.aload_n 0, 1) := by decide +kernel
theorem dX8_lives_1 : decode cX8_lives 1 = .ok (.invokevirtual 212, 3) := by decide +kernel
theorem dX8_lives_4 : decode cX8_lives 4 = .ok (.iconst 0, 1) := by decide +kernel
theorem dX8_lives_5 : decode cX8_lives 5 = .ok (.istore_n 2, 1) := by decide +kernel
theorem dX8_lives_6 : decode cX8_lives 6 = .ok (.iload_n 2, 1) := by decide +kernel
theorem dX8_lives_7 : decode cX8_lives 7 = .ok (.iload_n 1, 1) := by decide +kernel
theorem dX8_lives_8 : decode cX8_lives 8 = .ok (.if_icmp .gt 14, 3) := by decide +kernel
theorem dX8_lives_11 : decode cX8_lives 11 = .ok (.aload_n 0, 1) := by decide +kernel
theorem dX8_lives_12 : decode cX8_lives 12 = .ok (.iload_n 2, 1) := by decide +kernel
theorem dX8_lives_13 : decode cX8_lives 13 = .ok (.invokevirtual 215, 3) := by decide +kernel
theorem dX8_lives_16 : decode cX8_lives 16 = .ok (.iinc 2 1, 3) := by decide +kernel
theorem dX8_lives_19 : decode cX8_lives 19 = .ok (.goto (-13), 3) := by decide +kernel
theorem dX8_lives_22 : decode cX8_lives 22 = .ok (.return_, 1) := by decide +kernel
theorem dX8_isOf_0 : decode cX8_isOf 0 = .ok (.aload_n 0, 1) := by decide +kernel
theorem dX8_isOf_1 : decode cX8_isOf 1 = .ok (.iload_n 1, 1) := by decide +kernel
theorem dX8_isOf_2 : decode cX8_isOf 2 = .ok (.invokevirtual 218, 3) := by decide +kernel
theorem dX8_isOf_5 : decode cX8_isOf 5 = .ok (.iload_n 3, 1) := by decide +kernel
theorem dX8_isOf_6 : decode cX8_isOf 6 = .ok (.ifCond .ne 12, 3) := by decide +kernel
theorem dX8_isOf_9 : decode cX8_isOf 9 = .ok (.aload_n 0, 1) := by decide +kernel
theorem dX8_isOf_10 : decode cX8_isOf 10 = .ok (.getfield 43, 3) := by decide +kernel
theorem dX8_isOf_13 : decode cX8_isOf 13 = .ok (.iload_n 2, 1) := by decide +kernel
theorem dX8_isOf_14 : decode cX8_isOf 14 = .ok (.iaload, 1) := by decide +kernel
theorem dX8_isOf_15 : decode cX8_isOf 15 = .ok (.goto 46, 3) := by decide +kernel
theorem dX8_isOf_18 : decode cX8_isOf 18 = .ok (.iload_n 3, 1) := by decide +kernel
theorem dX8_isOf_19 : decode cX8_isOf 19 = .ok (.iconst 1, 1) := by decide +kernel
theorem dX8_isOf_20 : decode cX8_isOf 20 = .ok (.if_icmp .ne 12, 3) := by decide +kernel
theorem dX8_isOf_23 : decode cX8_isOf 23 = .ok (.aload_n 0, 1) := by decide +kernel
theorem dX8_isOf_24 : decode cX8_isOf 24 = .ok (.getfield 46, 3) := by decide +kernel
theorem dX8_isOf_27 : decode cX8_isOf 27 = .ok (.iload_n 2, 1) := by decide +kernel
theorem dX8_isOf_28 : decode cX8_isOf 28 = .ok (.iaload, 1) := by decide +kernel
theorem dX8_isOf_29 : decode cX8_isOf 29 = .ok (.goto 32, 3) := by decide +kernel
theorem dX8_isOf_32 : decode cX8_isOf 32 = .ok (.aload_n 0, 1) := by decide +kernel
theorem dX8_isOf_33 : decode cX8_isOf 33 = .ok (.getfield 49, 3) := by decide +kernel
theorem dX8_isOf_36 : decode cX8_isOf 36 = .ok (.iload_n 2, 1) := by decide +kernel
theorem dX8_isOf_37 : decode cX8_isOf 37 = .ok (.iaload, 1) := by decide +kernel
theorem dX8_isOf_38 : decode cX8_isOf 38 = .ok (.iconst (-1), 1) := by decide +kernel
theorem dX8_isOf_39 : decode cX8_isOf 39 = .ok (.if_icmp .ne 7, 3) := by decide +kernel
theorem dX8_isOf_42 : decode cX8_isOf 42 = .ok (.iconst (-1), 1) := by decide +kernel
theorem dX8_isOf_43 : decode cX8_isOf 43 = .ok (.goto 18, 3) := by decide +kernel
theorem dX8_isOf_46 : decode cX8_isOf 46 = .ok (.aload_n 0, 1) := by decide +kernel
theorem dX8_isOf_47 : decode cX8_isOf 47 = .ok (.getfield 34, 3) := by decide +kernel
theorem dX8_isOf_50 : decode cX8_isOf 50 = .ok (.iconst 4, 1) := by decide +kernel
theorem dX8_isOf_51 : decode cX8_isOf 51 = .ok (.aload_n 0, 1) := by decide +kernel
theorem dX8_isOf_52 : decode cX8_isOf 52 = .ok (.getfield 49, 3) := by decide +kernel
theorem dX8_isOf_55 : decode cX8_isOf 55 = .ok (.iload_n 2, 1) := by decide +kernel
theorem dX8_isOf_56 : decode cX8_isOf 56 = .ok (.iaload, 1) := by decide +kernel
theorem dX8_isOf_57 : decode cX8_isOf 57 = .ok (.imul, 1) := by decide +kernel
theorem dX8_isOf_58 : decode cX8_isOf 58 = .ok (.iconst 2, 1) := by decide +kernel
theorem dX8_isOf_59 : decode cX8_isOf 59 = .ok (.iadd, 1) := by decide +kernel
theorem dX8_isOf_60 : decode cX8_isOf 60 = .ok (.iaload, 1) := by decide +kernel
theorem dX8_isOf_61 : decode cX8_isOf 61 = .ok (.ireturn, 1) := by decide +kernel
theorem dX8_is_0 : decode cX8_is 0 = .ok (.aload_n 0, 1) := by decide +kernel
theorem dX8_is_1 : decode cX8_is 1 = .ok (.invokevirtual 142, 3) := by decide +kernel
theorem dX8_is_4 : decode cX8_is 4 = .ok (.iload_n 1, 1) := by decide +kernel
theorem dX8_is_5 : decode cX8_is 5 = .ok (.invokestatic 154, 3) := by decide +kernel
theorem dX8_is_8 : decode cX8_is 8 = .ok (.ifCond .eq 33, 3) := by decide +kernel
theorem dX8_is_11 : decode cX8_is 11 = .ok (.aload_n 0, 1) := by decide +kernel
theorem dX8_is_12 : decode cX8_is 12 = .ok (.iload_n 2, 1) := by decide +kernel
theorem dX8_is_13 : decode cX8_is 13 = .ok (.invokevirtual 145, 3) := by decide +kernel
theorem dX8_is_16 : decode cX8_is 16 = .ok (.ifCond .eq 25, 3) := by decide +kernel
theorem dX8_is_19 : decode cX8_is 19 = .ok (.iload_n 3, 1) := by decide +kernel
theorem dX8_is_20 : decode cX8_is 20 = .ok (.i2l, 1) := by decide +kernel
theorem dX8_is_21 : decode cX8_is 21 = .ok (.lconst 0, 1) := by decide +kernel
theorem dX8_is_22 : decode cX8_is 22 = .ok (.ldc2_w 107, 3) := by decide +kernel
theorem dX8_is_25 : decode cX8_is 25 = .ok (.invokestatic 94, 3) := by decide +kernel
theorem dX8_is_28 : decode cX8_is 28 = .ok (.ifCond .eq 13, 3) := by decide +kernel
theorem dX8_is_31 : decode cX8_is 31 = .ok (.aload_n 0, 1) := by decide +kernel
theorem dX8_is_32 : decode cX8_is 32 = .ok (.iload_n 1, 1) := by decide +kernel
theorem dX8_is_33 : decode cX8_is 33 = .ok (.iload_n 2, 1) := by decide +kernel
theorem dX8_is_34 : decode cX8_is 34 = .ok (.iload_n 3, 1) := by decide +kernel
theorem dX8_is_35 : decode cX8_is 35 = .ok (.invokevirtual 221, 3) := by decide +kernel
theorem dX8_is_38 : decode cX8_is 38 = .ok (.goto 5, 3) := by decide +kernel
theorem dX8_is_41 : decode cX8_is 41 = .ok (.bipush (-2), 2) := by decide +kernel
theorem dX8_is_43 : decode cX8_is 43 = .ok (.ireturn, 1) := by decide +kernel
theorem dX8_vaultNow_0 : decode cX8_vaultNow 0 = .ok (.iconst 0, 1) := by decide +kernel
theorem dX8_vaultNow_1 : decode cX8_vaultNow 1 = .ok (.istore_n 1, 1) := by decide +kernel
theorem dX8_vaultNow_2 : decode cX8_vaultNow 2 = .ok (.iconst 0, 1) := by decide +kernel
theorem dX8_vaultNow_3 : decode cX8_vaultNow 3 = .ok (.istore_n 2, 1) := by decide +kernel
theorem dX8_vaultNow_4 : decode cX8_vaultNow 4 = .ok (.iload_n 2, 1) := by decide +kernel
theorem dX8_vaultNow_5 : decode cX8_vaultNow 5 = .ok (.aload_n 0, 1) := by decide +kernel
theorem dX8_vaultNow_6 : decode cX8_vaultNow 6 = .ok (.getfield 28, 3) := by decide +kernel
theorem dX8_vaultNow_9 : decode cX8_vaultNow 9 = .ok (.iconst 0, 1) := by decide +kernel
theorem dX8_vaultNow_10 : decode cX8_vaultNow 10 = .ok (.iaload, 1) := by decide +kernel
theorem dX8_vaultNow_11 : decode cX8_vaultNow 11 = .ok (.if_icmp .ge 39, 3) := by decide +kernel
theorem dX8_vaultNow_14 : decode cX8_vaultNow 14 = .ok (.iload_n 1, 1) := by decide +kernel
theorem dX8_vaultNow_15 : decode cX8_vaultNow 15 = .ok (.aload_n 0, 1) := by decide +kernel
theorem dX8_vaultNow_16 : decode cX8_vaultNow 16 = .ok (.getfield 49, 3) := by decide +kernel
theorem dX8_vaultNow_19 : decode cX8_vaultNow 19 = .ok (.iload_n 2, 1) := by decide +kernel
theorem dX8_vaultNow_20 : decode cX8_vaultNow 20 = .ok (.iaload, 1) := by decide +kernel
theorem dX8_vaultNow_21 : decode cX8_vaultNow 21 = .ok (.iconst (-1), 1) := by decide +kernel
theorem dX8_vaultNow_22 : decode cX8_vaultNow 22 = .ok (.if_icmp .ne 19, 3) := by decide +kernel
theorem dX8_vaultNow_25 : decode cX8_vaultNow 25 = .ok (.aload_n 0, 1) := by decide +kernel
theorem dX8_vaultNow_26 : decode cX8_vaultNow 26 = .ok (.getfield 43, 3) := by decide +kernel
theorem dX8_vaultNow_29 : decode cX8_vaultNow 29 = .ok (.iload_n 2, 1) := by decide +kernel
theorem dX8_vaultNow_30 : decode cX8_vaultNow 30 = .ok (.iaload, 1) := by decide +kernel
theorem dX8_vaultNow_31 : decode cX8_vaultNow 31 = .ok (.aload_n 0, 1) := by decide +kernel
theorem dX8_vaultNow_32 : decode cX8_vaultNow 32 = .ok (.getfield 46, 3) := by decide +kernel
theorem dX8_vaultNow_35 : decode cX8_vaultNow 35 = .ok (.iload_n 2, 1) := by decide +kernel
theorem dX8_vaultNow_36 : decode cX8_vaultNow 36 = .ok (.iaload, 1) := by decide +kernel
theorem dX8_vaultNow_37 : decode cX8_vaultNow 37 = .ok (.imul, 1) := by decide +kernel
theorem dX8_vaultNow_38 : decode cX8_vaultNow 38 = .ok (.goto 4, 3) := by decide +kernel
theorem dX8_vaultNow_41 : decode cX8_vaultNow 41 = .ok (.iconst 0, 1) := by decide +kernel
theorem dX8_vaultNow_42 : decode cX8_vaultNow 42 = .ok (.iadd, 1) := by decide +kernel
theorem dX8_vaultNow_43 : decode cX8_vaultNow 43 = .ok (.istore_n 1, 1) := by decide +kernel
theorem dX8_vaultNow_44 : decode cX8_vaultNow 44 = .ok (.iinc 2 1, 3) := by decide +kernel
theorem dX8_vaultNow_47 : decode cX8_vaultNow 47 = .ok (.goto (-43), 3) := by decide +kernel
theorem dX8_vaultNow_50 : decode cX8_vaultNow 50 = .ok (.iload_n 1, 1) := by decide +kernel
theorem dX8_vaultNow_51 : decode cX8_vaultNow 51 = .ok (.ireturn, 1) := by decide +kernel
theorem dX8_behindOf_0 : decode cX8_behindOf 0 = .ok (.aload_n 0, 1) := by decide +kernel
theorem dX8_behindOf_1 : decode cX8_behindOf 1 = .ok (.iload_n 1, 1) := by decide +kernel
theorem dX8_behindOf_2 : decode cX8_behindOf 2 = .ok (.invokevirtual 218, 3) := by decide +kernel
theorem dX8_behindOf_5 : decode cX8_behindOf 5 = .ok (.iload_n 2, 1) := by decide +kernel
theorem dX8_behindOf_6 : decode cX8_behindOf 6 = .ok (.ifCond .ne 10, 3) := by decide +kernel
theorem dX8_behindOf_9 : decode cX8_behindOf 9 = .ok (.aload_n 0, 1) := by decide +kernel
theorem dX8_behindOf_10 : decode cX8_behindOf 10 = .ok (.invokevirtual 224, 3) := by decide +kernel
theorem dX8_behindOf_13 : decode cX8_behindOf 13 = .ok (.goto 7, 3) := by decide +kernel
theorem dX8_behindOf_16 : decode cX8_behindOf 16 = .ok (.aload_n 0, 1) := by decide +kernel
theorem dX8_behindOf_17 : decode cX8_behindOf 17 = .ok (.getfield 183, 3) := by decide +kernel
theorem dX8_behindOf_20 : decode cX8_behindOf 20 = .ok (.ireturn, 1) := by decide +kernel
theorem dX8_behind_0 : decode cX8_behind 0 = .ok (.aload_n 0, 1) := by decide +kernel
theorem dX8_behind_1 : decode cX8_behind 1 = .ok (.invokevirtual 142, 3) := by decide +kernel
theorem dX8_behind_4 : decode cX8_behind 4 = .ok (.iload_n 1, 1) := by decide +kernel
theorem dX8_behind_5 : decode cX8_behind 5 = .ok (.invokestatic 154, 3) := by decide +kernel
theorem dX8_behind_8 : decode cX8_behind 8 = .ok (.ifCond .eq 19, 3) := by decide +kernel
theorem dX8_behind_11 : decode cX8_behind 11 = .ok (.iload_n 2, 1) := by decide +kernel
theorem dX8_behind_12 : decode cX8_behind 12 = .ok (.invokestatic 122, 3) := by decide +kernel
theorem dX8_behind_15 : decode cX8_behind 15 = .ok (.ifCond .eq 12, 3) := by decide +kernel
theorem dX8_behind_18 : decode cX8_behind 18 = .ok (.aload_n 0, 1) := by decide +kernel
theorem dX8_behind_19 : decode cX8_behind 19 = .ok (.iload_n 1, 1) := by decide +kernel
theorem dX8_behind_20 : decode cX8_behind 20 = .ok (.iload_n 2, 1) := by decide +kernel
theorem dX8_behind_21 : decode cX8_behind 21 = .ok (.invokevirtual 228, 3) := by decide +kernel
theorem dX8_behind_24 : decode cX8_behind 24 = .ok (.goto 5, 3) := by decide +kernel
theorem dX8_behind_27 : decode cX8_behind 27 = .ok (.bipush (-2), 2) := by decide +kernel
theorem dX8_behind_29 : decode cX8_behind 29 = .ok (.ireturn, 1) := by decide +kernel
theorem dX8_cameOf_0 : decode cX8_cameOf 0 = .ok (.aload_n 0, 1) := by decide +kernel
theorem dX8_cameOf_1 : decode cX8_cameOf 1 = .ok (.bipush 39, 2) := by decide +kernel
theorem dX8_cameOf_3 : decode cX8_cameOf 3 = .ok (.invokevirtual 218, 3) := by decide +kernel
theorem dX8_cameOf_6 : decode cX8_cameOf 6 = .ok (.iload_n 2, 1) := by decide +kernel
theorem dX8_cameOf_7 : decode cX8_cameOf 7 = .ok (.ifCond .ne 12, 3) := by decide +kernel
theorem dX8_cameOf_10 : decode cX8_cameOf 10 = .ok (.aload_n 0, 1) := by decide +kernel
theorem dX8_cameOf_11 : decode cX8_cameOf 11 = .ok (.getfield 58, 3) := by decide +kernel
theorem dX8_cameOf_14 : decode cX8_cameOf 14 = .ok (.iload_n 1, 1) := by decide +kernel
theorem dX8_cameOf_15 : decode cX8_cameOf 15 = .ok (.iaload, 1) := by decide +kernel
theorem dX8_cameOf_16 : decode cX8_cameOf 16 = .ok (.goto 53, 3) := by decide +kernel
theorem dX8_cameOf_19 : decode cX8_cameOf 19 = .ok (.iload_n 2, 1) := by decide +kernel
theorem dX8_cameOf_20 : decode cX8_cameOf 20 = .ok (.iconst 1, 1) := by decide +kernel
theorem dX8_cameOf_21 : decode cX8_cameOf 21 = .ok (.if_icmp .ne 21, 3) := by decide +kernel
theorem dX8_cameOf_24 : decode cX8_cameOf 24 = .ok (.aload_n 0, 1) := by decide +kernel
theorem dX8_cameOf_25 : decode cX8_cameOf 25 = .ok (.getfield 61, 3) := by decide +kernel
theorem dX8_cameOf_28 : decode cX8_cameOf 28 = .ok (.iload_n 1, 1) := by decide +kernel
theorem dX8_cameOf_29 : decode cX8_cameOf 29 = .ok (.iaload, 1) := by decide +kernel
theorem dX8_cameOf_30 : decode cX8_cameOf 30 = .ok (.iconst (-1), 1) := by decide +kernel
theorem dX8_cameOf_31 : decode cX8_cameOf 31 = .ok (.if_icmp .ne 7, 3) := by decide +kernel
theorem dX8_cameOf_34 : decode cX8_cameOf 34 = .ok (.iconst 0, 1) := by decide +kernel
theorem dX8_cameOf_35 : decode cX8_cameOf 35 = .ok (.goto 34, 3) := by decide +kernel
theorem dX8_cameOf_38 : decode cX8_cameOf 38 = .ok (.iconst 1, 1) := by decide +kernel
theorem dX8_cameOf_39 : decode cX8_cameOf 39 = .ok (.goto 30, 3) := by decide +kernel
theorem dX8_cameOf_42 : decode cX8_cameOf 42 = .ok (.aload_n 0, 1) := by decide +kernel
theorem dX8_cameOf_43 : decode cX8_cameOf 43 = .ok (.getfield 67, 3) := by decide +kernel
theorem dX8_cameOf_46 : decode cX8_cameOf 46 = .ok (.iload_n 1, 1) := by decide +kernel
theorem dX8_cameOf_47 : decode cX8_cameOf 47 = .ok (.iaload, 1) := by decide +kernel
theorem dX8_cameOf_48 : decode cX8_cameOf 48 = .ok (.iconst (-1), 1) := by decide +kernel
theorem dX8_cameOf_49 : decode cX8_cameOf 49 = .ok (.if_icmp .ne 7, 3) := by decide +kernel
theorem dX8_cameOf_52 : decode cX8_cameOf 52 = .ok (.iconst 0, 1) := by decide +kernel
theorem dX8_cameOf_53 : decode cX8_cameOf 53 = .ok (.goto 16, 3) := by decide +kernel
theorem dX8_cameOf_56 : decode cX8_cameOf 56 = .ok (.aload_n 0, 1) := by decide +kernel
theorem dX8_cameOf_57 : decode cX8_cameOf 57 = .ok (.getfield 67, 3) := by decide +kernel
theorem dX8_cameOf_60 : decode cX8_cameOf 60 = .ok (.iload_n 1, 1) := by decide +kernel
theorem dX8_cameOf_61 : decode cX8_cameOf 61 = .ok (.iaload, 1) := by decide +kernel
theorem dX8_cameOf_62 : decode cX8_cameOf 62 = .ok (.aload_n 0, 1) := by decide +kernel
theorem dX8_cameOf_63 : decode cX8_cameOf 63 = .ok (.getfield 64, 3) := by decide +kernel
theorem dX8_cameOf_66 : decode cX8_cameOf 66 = .ok (.iload_n 1, 1) := by decide +kernel
theorem dX8_cameOf_67 : decode cX8_cameOf 67 = .ok (.iaload, 1) := by decide +kernel
theorem dX8_cameOf_68 : decode cX8_cameOf 68 = .ok (.isub, 1) := by decide +kernel
theorem dX8_cameOf_69 : decode cX8_cameOf 69 = .ok (.ireturn, 1) := by decide +kernel
theorem dX8_came_0 : decode cX8_came 0 = .ok (.aload_n 0, 1) := by decide +kernel
theorem dX8_came_1 : decode cX8_came 1 = .ok (.invokevirtual 142, 3) := by decide +kernel
theorem dX8_came_4 : decode cX8_came 4 = .ok (.iload_n 1, 1) := by decide +kernel
theorem dX8_came_5 : decode cX8_came 5 = .ok (.i2l, 1) := by decide +kernel
theorem dX8_came_6 : decode cX8_came 6 = .ok (.lconst 0, 1) := by decide +kernel
theorem dX8_came_7 : decode cX8_came 7 = .ok (.aload_n 0, 1) := by decide +kernel
theorem dX8_came_8 : decode cX8_came 8 = .ok (.getfield 151, 3) := by decide +kernel
theorem dX8_came_11 : decode cX8_came 11 = .ok (.iconst 1, 1) := by decide +kernel
theorem dX8_came_12 : decode cX8_came 12 = .ok (.isub, 1) := by decide +kernel
theorem dX8_came_13 : decode cX8_came 13 = .ok (.i2l, 1) := by decide +kernel
theorem dX8_came_14 : decode cX8_came 14 = .ok (.invokestatic 94, 3) := by decide +kernel
theorem dX8_came_17 : decode cX8_came 17 = .ok (.ifCond .eq 24, 3) := by decide +kernel
theorem dX8_came_20 : decode cX8_came 20 = .ok (.iload_n 2, 1) := by decide +kernel
theorem dX8_came_21 : decode cX8_came 21 = .ok (.i2l, 1) := by decide +kernel
theorem dX8_came_22 : decode cX8_came 22 = .ok (.lconst 0, 1) := by decide +kernel
theorem dX8_came_23 : decode cX8_came 23 = .ok (.ldc2_w 107, 3) := by decide +kernel
theorem dX8_came_26 : decode cX8_came 26 = .ok (.invokestatic 94, 3) := by decide +kernel
theorem dX8_came_29 : decode cX8_came 29 = .ok (.ifCond .eq 12, 3) := by decide +kernel
theorem dX8_came_32 : decode cX8_came 32 = .ok (.aload_n 0, 1) := by decide +kernel
theorem dX8_came_33 : decode cX8_came 33 = .ok (.iload_n 1, 1) := by decide +kernel
theorem dX8_came_34 : decode cX8_came 34 = .ok (.iload_n 2, 1) := by decide +kernel
theorem dX8_came_35 : decode cX8_came 35 = .ok (.invokevirtual 231, 3) := by decide +kernel
theorem dX8_came_38 : decode cX8_came 38 = .ok (.goto 6, 3) := by decide +kernel
theorem dX8_came_41 : decode cX8_came 41 = .ok (.sipush (-1002), 3) := by decide +kernel
theorem dX8_came_44 : decode cX8_came 44 = .ok (.ireturn, 1) := by decide +kernel
theorem dX8_breachesOf_0 : decode cX8_breachesOf 0 = .ok (.aload_n 0, 1) := by decide +kernel
theorem dX8_breachesOf_1 : decode cX8_breachesOf 1 = .ok (.bipush 39, 2) := by decide +kernel
theorem dX8_breachesOf_3 : decode cX8_breachesOf 3 = .ok (.invokevirtual 218, 3) := by decide +kernel
theorem dX8_breachesOf_6 : decode cX8_breachesOf 6 = .ok (.iconst 0, 1) := by decide +kernel
theorem dX8_breachesOf_7 : decode cX8_breachesOf 7 = .ok (.istore_n 2, 1) := by decide +kernel
theorem dX8_breachesOf_8 : decode cX8_breachesOf 8 = .ok (.iconst 0, 1) := by decide +kernel
theorem dX8_breachesOf_9 : decode cX8_breachesOf 9 = .ok (.istore_n 3, 1) := by decide +kernel
theorem dX8_breachesOf_10 : decode cX8_breachesOf 10 = .ok (.iload_n 3, 1) := by decide +kernel
theorem dX8_breachesOf_11 : decode cX8_breachesOf 11 = .ok (.aload_n 0, 1) := by decide +kernel
theorem dX8_breachesOf_12 : decode cX8_breachesOf 12 = .ok (.getfield 151, 3) := by decide +kernel
theorem dX8_breachesOf_15 : decode cX8_breachesOf 15 = .ok (.if_icmp .ge 41, 3) := by decide +kernel
theorem dX8_breachesOf_18 : decode cX8_breachesOf 18 = .ok (.iload_n 2, 1) := by decide +kernel
theorem dX8_breachesOf_19 : decode cX8_breachesOf 19 = .ok (.aload_n 0, 1) := by decide +kernel
theorem dX8_breachesOf_20 : decode cX8_breachesOf 20 = .ok (.getfield 61, 3) := by decide +kernel
theorem dX8_breachesOf_23 : decode cX8_breachesOf 23 = .ok (.iload_n 3, 1) := by decide +kernel
theorem dX8_breachesOf_24 : decode cX8_breachesOf 24 = .ok (.iaload, 1) := by decide +kernel
theorem dX8_breachesOf_25 : decode cX8_breachesOf 25 = .ok (.iconst (-1), 1) := by decide +kernel
theorem dX8_breachesOf_26 : decode cX8_breachesOf 26 = .ok (.if_icmp .eq 21, 3) := by decide +kernel
theorem dX8_breachesOf_29 : decode cX8_breachesOf 29 = .ok (.aload_n 0, 1) := by decide +kernel
theorem dX8_breachesOf_30 : decode cX8_breachesOf 30 = .ok (.getfield 34, 3) := by decide +kernel
theorem dX8_breachesOf_33 : decode cX8_breachesOf 33 = .ok (.iconst 4, 1) := by decide +kernel
theorem dX8_breachesOf_34 : decode cX8_breachesOf 34 = .ok (.iload_n 3, 1) := by decide +kernel
theorem dX8_breachesOf_35 : decode cX8_breachesOf 35 = .ok (.imul, 1) := by decide +kernel
theorem dX8_breachesOf_36 : decode cX8_breachesOf 36 = .ok (.iconst 2, 1) := by decide +kernel
theorem dX8_breachesOf_37 : decode cX8_breachesOf 37 = .ok (.iadd, 1) := by decide +kernel
theorem dX8_breachesOf_38 : decode cX8_breachesOf 38 = .ok (.iaload, 1) := by decide +kernel
theorem dX8_breachesOf_39 : decode cX8_breachesOf 39 = .ok (.iload_n 1, 1) := by decide +kernel
theorem dX8_breachesOf_40 : decode cX8_breachesOf 40 = .ok (.if_icmp .ne 7, 3) := by decide +kernel
theorem dX8_breachesOf_43 : decode cX8_breachesOf 43 = .ok (.iconst 1, 1) := by decide +kernel
theorem dX8_breachesOf_44 : decode cX8_breachesOf 44 = .ok (.goto 4, 3) := by decide +kernel
theorem dX8_breachesOf_47 : decode cX8_breachesOf 47 = .ok (.iconst 0, 1) := by decide +kernel
theorem dX8_breachesOf_48 : decode cX8_breachesOf 48 = .ok (.iadd, 1) := by decide +kernel
theorem dX8_breachesOf_49 : decode cX8_breachesOf 49 = .ok (.istore_n 2, 1) := by decide +kernel
theorem dX8_breachesOf_50 : decode cX8_breachesOf 50 = .ok (.iinc 3 1, 3) := by decide +kernel
theorem dX8_breachesOf_53 : decode cX8_breachesOf 53 = .ok (.goto (-43), 3) := by decide +kernel
theorem dX8_breachesOf_56 : decode cX8_breachesOf 56 = .ok (.iload_n 2, 1) := by decide +kernel
theorem dX8_breachesOf_57 : decode cX8_breachesOf 57 = .ok (.ireturn, 1) := by decide +kernel
