theorem dX8_breaches_0 : decode cX8_breaches 0 = .ok (.aload_n 0, 1) := by decide +kernel
theorem dX8_breaches_1 : decode cX8_breaches 1 = .ok (.invokevirtual 142, 3) := by decide +kernel
theorem dX8_breaches_4 : decode cX8_breaches 4 = .ok (.iload_n 1, 1) := by decide +kernel
theorem dX8_breaches_5 : decode cX8_breaches 5 = .ok (.i2l, 1) := by decide +kernel
theorem dX8_breaches_6 : decode cX8_breaches 6 = .ok (.lconst 0, 1) := by decide +kernel
theorem dX8_breaches_7 : decode cX8_breaches 7 = .ok (.ldc2_w 160, 3) := by decide +kernel
theorem dX8_breaches_10 : decode cX8_breaches 10 = .ok (.invokestatic 94, 3) := by decide +kernel
theorem dX8_breaches_13 : decode cX8_breaches 13 = .ok (.ifCond .eq 11, 3) := by decide +kernel
theorem dX8_breaches_16 : decode cX8_breaches 16 = .ok (.aload_n 0, 1) := by decide +kernel
theorem dX8_breaches_17 : decode cX8_breaches 17 = .ok (.iload_n 1, 1) := by decide +kernel
theorem dX8_breaches_18 : decode cX8_breaches 18 = .ok (.invokevirtual 234, 3) := by decide +kernel
theorem dX8_breaches_21 : decode cX8_breaches 21 = .ok (.goto 5, 3) := by decide +kernel
theorem dX8_breaches_24 : decode cX8_breaches 24 = .ok (.bipush (-2), 2) := by decide +kernel
theorem dX8_breaches_26 : decode cX8_breaches 26 = .ok (.ireturn, 1) := by decide +kernel
theorem dX8_firstNow_0 : decode cX8_firstNow 0 = .ok (.aload_n 0, 1) := by decide +kernel
theorem dX8_firstNow_1 : decode cX8_firstNow 1 = .ok (.bipush 39, 2) := by decide +kernel
theorem dX8_firstNow_3 : decode cX8_firstNow 3 = .ok (.invokevirtual 218, 3) := by decide +kernel
theorem dX8_firstNow_6 : decode cX8_firstNow 6 = .ok (.iconst (-1), 1) := by decide +kernel
theorem dX8_firstNow_7 : decode cX8_firstNow 7 = .ok (.istore_n 1, 1) := by decide +kernel
theorem dX8_firstNow_8 : decode cX8_firstNow 8 = .ok (.iconst 0, 1) := by decide +kernel
theorem dX8_firstNow_9 : decode cX8_firstNow 9 = .ok (.istore_n 2, 1) := by decide +kernel
theorem dX8_firstNow_10 : decode cX8_firstNow 10 = .ok (.iload_n 2, 1) := by decide +kernel
theorem dX8_firstNow_11 : decode cX8_firstNow 11 = .ok (.aload_n 0, 1) := by decide +kernel
theorem dX8_firstNow_12 : decode cX8_firstNow 12 = .ok (.getfield 151, 3) := by decide +kernel
theorem dX8_firstNow_15 : decode cX8_firstNow 15 = .ok (.if_icmp .ge 45, 3) := by decide +kernel
theorem dX8_firstNow_18 : decode cX8_firstNow 18 = .ok (.aload_n 0, 1) := by decide +kernel
theorem dX8_firstNow_19 : decode cX8_firstNow 19 = .ok (.getfield 61, 3) := by decide +kernel
theorem dX8_firstNow_22 : decode cX8_firstNow 22 = .ok (.iload_n 2, 1) := by decide +kernel
theorem dX8_firstNow_23 : decode cX8_firstNow 23 = .ok (.iaload, 1) := by decide +kernel
theorem dX8_firstNow_24 : decode cX8_firstNow 24 = .ok (.iconst (-1), 1) := by decide +kernel
theorem dX8_firstNow_25 : decode cX8_firstNow 25 = .ok (.if_icmp .eq 27, 3) := by decide +kernel
theorem dX8_firstNow_28 : decode cX8_firstNow 28 = .ok (.iload_n 1, 1) := by decide +kernel
theorem dX8_firstNow_29 : decode cX8_firstNow 29 = .ok (.iconst (-1), 1) := by decide +kernel
theorem dX8_firstNow_30 : decode cX8_firstNow 30 = .ok (.if_icmp .eq 18, 3) := by decide +kernel
theorem dX8_firstNow_33 : decode cX8_firstNow 33 = .ok (.aload_n 0, 1) := by decide +kernel
theorem dX8_firstNow_34 : decode cX8_firstNow 34 = .ok (.getfield 61, 3) := by decide +kernel
theorem dX8_firstNow_37 : decode cX8_firstNow 37 = .ok (.iload_n 2, 1) := by decide +kernel
theorem dX8_firstNow_38 : decode cX8_firstNow 38 = .ok (.iaload, 1) := by decide +kernel
theorem dX8_firstNow_39 : decode cX8_firstNow 39 = .ok (.aload_n 0, 1) := by decide +kernel
theorem dX8_firstNow_40 : decode cX8_firstNow 40 = .ok (.getfield 61, 3) := by decide +kernel
theorem dX8_firstNow_43 : decode cX8_firstNow 43 = .ok (.iload_n 1, 1) := by decide +kernel
theorem dX8_firstNow_44 : decode cX8_firstNow 44 = .ok (.iaload, 1) := by decide +kernel
theorem dX8_firstNow_45 : decode cX8_firstNow 45 = .ok (.if_icmp .ge 7, 3) := by decide +kernel
theorem dX8_firstNow_48 : decode cX8_firstNow 48 = .ok (.iload_n 2, 1) := by decide +kernel
theorem dX8_firstNow_49 : decode cX8_firstNow 49 = .ok (.goto 4, 3) := by decide +kernel
theorem dX8_firstNow_52 : decode cX8_firstNow 52 = .ok (.iload_n 1, 1) := by decide +kernel
theorem dX8_firstNow_53 : decode cX8_firstNow 53 = .ok (.istore_n 1, 1) := by decide +kernel
theorem dX8_firstNow_54 : decode cX8_firstNow 54 = .ok (.iinc 2 1, 3) := by decide +kernel
theorem dX8_firstNow_57 : decode cX8_firstNow 57 = .ok (.goto (-47), 3) := by decide +kernel
theorem dX8_firstNow_60 : decode cX8_firstNow 60 = .ok (.iload_n 1, 1) := by decide +kernel
theorem dX8_firstNow_61 : decode cX8_firstNow 61 = .ok (.ireturn, 1) := by decide +kernel
theorem dX8_first_0 : decode cX8_first 0 = .ok (.aload_n 0, 1) := by decide +kernel
theorem dX8_first_1 : decode cX8_first 1 = .ok (.invokevirtual 142, 3) := by decide +kernel
theorem dX8_first_4 : decode cX8_first 4 = .ok (.aload_n 0, 1) := by decide +kernel
theorem dX8_first_5 : decode cX8_first 5 = .ok (.invokevirtual 237, 3) := by decide +kernel
theorem dX8_first_8 : decode cX8_first 8 = .ok (.ireturn, 1) := by decide +kernel
theorem dX8_servesBy_0 : decode cX8_servesBy 0 = .ok (.bipush 32, 2) := by decide +kernel
theorem dX8_servesBy_2 : decode cX8_servesBy 2 = .ok (.iconst 4, 1) := by decide +kernel
theorem dX8_servesBy_3 : decode cX8_servesBy 3 = .ok (.iload_n 2, 1) := by decide +kernel
theorem dX8_servesBy_4 : decode cX8_servesBy 4 = .ok (.imul, 1) := by decide +kernel
theorem dX8_servesBy_5 : decode cX8_servesBy 5 = .ok (.iadd, 1) := by decide +kernel
theorem dX8_servesBy_6 : decode cX8_servesBy 6 = .ok (.istore 4, 2) := by decide +kernel
theorem dX8_servesBy_8 : decode cX8_servesBy 8 = .ok (.aload_n 0, 1) := by decide +kernel
theorem dX8_servesBy_9 : decode cX8_servesBy 9 = .ok (.getfield 31, 3) := by decide +kernel
theorem dX8_servesBy_12 : decode cX8_servesBy 12 = .ok (.iload 4, 2) := by decide +kernel
theorem dX8_servesBy_14 : decode cX8_servesBy 14 = .ok (.iaload, 1) := by decide +kernel
theorem dX8_servesBy_15 : decode cX8_servesBy 15 = .ok (.iconst 3, 1) := by decide +kernel
theorem dX8_servesBy_16 : decode cX8_servesBy 16 = .ok (.if_icmp .eq 21, 3) := by decide +kernel
theorem dX8_servesBy_19 : decode cX8_servesBy 19 = .ok (.aload_n 0, 1) := by decide +kernel
theorem dX8_servesBy_20 : decode cX8_servesBy 20 = .ok (.getfield 31, 3) := by decide +kernel
theorem dX8_servesBy_23 : decode cX8_servesBy 23 = .ok (.iload 4, 2) := by decide +kernel
theorem dX8_servesBy_25 : decode cX8_servesBy 25 = .ok (.iaload, 1) := by decide +kernel
theorem dX8_servesBy_26 : decode cX8_servesBy 26 = .ok (.aload_n 0, 1) := by decide +kernel
theorem dX8_servesBy_27 : decode cX8_servesBy 27 = .ok (.getfield 31, 3) := by decide +kernel
theorem dX8_servesBy_30 : decode cX8_servesBy 30 = .ok (.iconst 4, 1) := by decide +kernel
theorem dX8_servesBy_31 : decode cX8_servesBy 31 = .ok (.iload_n 1, 1) := by decide +kernel
theorem dX8_servesBy_32 : decode cX8_servesBy 32 = .ok (.imul, 1) := by decide +kernel
theorem dX8_servesBy_33 : decode cX8_servesBy 33 = .ok (.iaload, 1) := by decide +kernel
theorem dX8_servesBy_34 : decode cX8_servesBy 34 = .ok (.if_icmp .ne 7, 3) := by decide +kernel
theorem dX8_servesBy_37 : decode cX8_servesBy 37 = .ok (.iconst 1, 1) := by decide +kernel
theorem dX8_servesBy_38 : decode cX8_servesBy 38 = .ok (.goto 4, 3) := by decide +kernel
theorem dX8_servesBy_41 : decode cX8_servesBy 41 = .ok (.iconst 0, 1) := by decide +kernel
theorem dX8_servesBy_42 : decode cX8_servesBy 42 = .ok (.istore 5, 2) := by decide +kernel
theorem dX8_servesBy_44 : decode cX8_servesBy 44 = .ok (.iload 5, 2) := by decide +kernel
theorem dX8_servesBy_46 : decode cX8_servesBy 46 = .ok (.ifCond .eq 58, 3) := by decide +kernel
theorem dX8_servesBy_49 : decode cX8_servesBy 49 = .ok (.iload_n 3, 1) := by decide +kernel
theorem dX8_servesBy_50 : decode cX8_servesBy 50 = .ok (.i2l, 1) := by decide +kernel
theorem dX8_servesBy_51 : decode cX8_servesBy 51 = .ok (.aload_n 0, 1) := by decide +kernel
theorem dX8_servesBy_52 : decode cX8_servesBy 52 = .ok (.getfield 31, 3) := by decide +kernel
theorem dX8_servesBy_55 : decode cX8_servesBy 55 = .ok (.iload 4, 2) := by decide +kernel
theorem dX8_servesBy_57 : decode cX8_servesBy 57 = .ok (.iconst 1, 1) := by decide +kernel
theorem dX8_servesBy_58 : decode cX8_servesBy 58 = .ok (.iadd, 1) := by decide +kernel
theorem dX8_servesBy_59 : decode cX8_servesBy 59 = .ok (.iaload, 1) := by decide +kernel
theorem dX8_servesBy_60 : decode cX8_servesBy 60 = .ok (.i2l, 1) := by decide +kernel
theorem dX8_servesBy_61 : decode cX8_servesBy 61 = .ok (.aload_n 0, 1) := by decide +kernel
theorem dX8_servesBy_62 : decode cX8_servesBy 62 = .ok (.getfield 31, 3) := by decide +kernel
theorem dX8_servesBy_65 : decode cX8_servesBy 65 = .ok (.iload 4, 2) := by decide +kernel
theorem dX8_servesBy_67 : decode cX8_servesBy 67 = .ok (.iconst 1, 1) := by decide +kernel
theorem dX8_servesBy_68 : decode cX8_servesBy 68 = .ok (.iadd, 1) := by decide +kernel
theorem dX8_servesBy_69 : decode cX8_servesBy 69 = .ok (.iaload, 1) := by decide +kernel
theorem dX8_servesBy_70 : decode cX8_servesBy 70 = .ok (.aload_n 0, 1) := by decide +kernel
theorem dX8_servesBy_71 : decode cX8_servesBy 71 = .ok (.getfield 82, 3) := by decide +kernel
theorem dX8_servesBy_74 : decode cX8_servesBy 74 = .ok (.iadd, 1) := by decide +kernel
theorem dX8_servesBy_75 : decode cX8_servesBy 75 = .ok (.i2l, 1) := by decide +kernel
theorem dX8_servesBy_76 : decode cX8_servesBy 76 = .ok (.invokestatic 94, 3) := by decide +kernel
theorem dX8_servesBy_79 : decode cX8_servesBy 79 = .ok (.ifCond .eq 25, 3) := by decide +kernel
theorem dX8_servesBy_82 : decode cX8_servesBy 82 = .ok (.aload_n 0, 1) := by decide +kernel
theorem dX8_servesBy_83 : decode cX8_servesBy 83 = .ok (.getfield 46, 3) := by decide +kernel
theorem dX8_servesBy_86 : decode cX8_servesBy 86 = .ok (.iload_n 1, 1) := by decide +kernel
theorem dX8_servesBy_87 : decode cX8_servesBy 87 = .ok (.iaload, 1) := by decide +kernel
theorem dX8_servesBy_88 : decode cX8_servesBy 88 = .ok (.aload_n 0, 1) := by decide +kernel
theorem dX8_servesBy_89 : decode cX8_servesBy 89 = .ok (.getfield 31, 3) := by decide +kernel
theorem dX8_servesBy_92 : decode cX8_servesBy 92 = .ok (.iload 4, 2) := by decide +kernel
theorem dX8_servesBy_94 : decode cX8_servesBy 94 = .ok (.iconst 2, 1) := by decide +kernel
theorem dX8_servesBy_95 : decode cX8_servesBy 95 = .ok (.iadd, 1) := by decide +kernel
theorem dX8_servesBy_96 : decode cX8_servesBy 96 = .ok (.iaload, 1) := by decide +kernel
theorem dX8_servesBy_97 : decode cX8_servesBy 97 = .ok (.if_icmp .lt 7, 3) := by decide +kernel
theorem dX8_servesBy_100 : decode cX8_servesBy 100 = .ok (.iconst 1, 1) := by decide +kernel
theorem dX8_servesBy_101 : decode cX8_servesBy 101 = .ok (.goto 4, 3) := by decide +kernel
theorem dX8_servesBy_104 : decode cX8_servesBy 104 = .ok (.iconst 0, 1) := by decide +kernel
theorem dX8_servesBy_105 : decode cX8_servesBy 105 = .ok (.ireturn, 1) := by decide +kernel
theorem dX8_servesNow_0 : decode cX8_servesNow 0 = .ok (.aload_n 0, 1) := by decide +kernel
theorem dX8_servesNow_1 : decode cX8_servesNow 1 = .ok (.iload_n 1, 1) := by decide +kernel
theorem dX8_servesNow_2 : decode cX8_servesNow 2 = .ok (.iload_n 2, 1) := by decide +kernel
theorem dX8_servesNow_3 : decode cX8_servesNow 3 = .ok (.aload_n 0, 1) := by decide +kernel
theorem dX8_servesNow_4 : decode cX8_servesNow 4 = .ok (.getfield 43, 3) := by decide +kernel
theorem dX8_servesNow_7 : decode cX8_servesNow 7 = .ok (.iload_n 1, 1) := by decide +kernel
theorem dX8_servesNow_8 : decode cX8_servesNow 8 = .ok (.iaload, 1) := by decide +kernel
theorem dX8_servesNow_9 : decode cX8_servesNow 9 = .ok (.invokevirtual 240, 3) := by decide +kernel
theorem dX8_servesNow_12 : decode cX8_servesNow 12 = .ok (.ireturn, 1) := by decide +kernel
theorem dX8_servesOf_0 : decode cX8_servesOf 0 = .ok (.aload_n 0, 1) := by decide +kernel
theorem dX8_servesOf_1 : decode cX8_servesOf 1 = .ok (.iload_n 1, 1) := by decide +kernel
theorem dX8_servesOf_2 : decode cX8_servesOf 2 = .ok (.invokevirtual 218, 3) := by decide +kernel
theorem dX8_servesOf_5 : decode cX8_servesOf 5 = .ok (.iconst 0, 1) := by decide +kernel
theorem dX8_servesOf_6 : decode cX8_servesOf 6 = .ok (.istore_n 3, 1) := by decide +kernel
theorem dX8_servesOf_7 : decode cX8_servesOf 7 = .ok (.iconst 0, 1) := by decide +kernel
theorem dX8_servesOf_8 : decode cX8_servesOf 8 = .ok (.istore 4, 2) := by decide +kernel
theorem dX8_servesOf_10 : decode cX8_servesOf 10 = .ok (.iload 4, 2) := by decide +kernel
theorem dX8_servesOf_12 : decode cX8_servesOf 12 = .ok (.aload_n 0, 1) := by decide +kernel
theorem dX8_servesOf_13 : decode cX8_servesOf 13 = .ok (.getfield 28, 3) := by decide +kernel
theorem dX8_servesOf_16 : decode cX8_servesOf 16 = .ok (.iconst 1, 1) := by decide +kernel
theorem dX8_servesOf_17 : decode cX8_servesOf 17 = .ok (.iaload, 1) := by decide +kernel
theorem dX8_servesOf_18 : decode cX8_servesOf 18 = .ok (.if_icmp .ge 30, 3) := by decide +kernel
theorem dX8_servesOf_21 : decode cX8_servesOf 21 = .ok (.iload_n 3, 1) := by decide +kernel
theorem dX8_servesOf_22 : decode cX8_servesOf 22 = .ok (.aload_n 0, 1) := by decide +kernel
theorem dX8_servesOf_23 : decode cX8_servesOf 23 = .ok (.iload_n 2, 1) := by decide +kernel
theorem dX8_servesOf_24 : decode cX8_servesOf 24 = .ok (.iload 4, 2) := by decide +kernel
theorem dX8_servesOf_26 : decode cX8_servesOf 26 = .ok (.invokevirtual 244, 3) := by decide +kernel
theorem dX8_servesOf_29 : decode cX8_servesOf 29 = .ok (.ifCond .eq 10, 3) := by decide +kernel
theorem dX8_servesOf_32 : decode cX8_servesOf 32 = .ok (.iconst 1, 1) := by decide +kernel
theorem dX8_servesOf_33 : decode cX8_servesOf 33 = .ok (.iload 4, 2) := by decide +kernel
theorem dX8_servesOf_35 : decode cX8_servesOf 35 = .ok (.ishl, 1) := by decide +kernel
theorem dX8_servesOf_36 : decode cX8_servesOf 36 = .ok (.goto 4, 3) := by decide +kernel
theorem dX8_servesOf_39 : decode cX8_servesOf 39 = .ok (.iconst 0, 1) := by decide +kernel
theorem dX8_servesOf_40 : decode cX8_servesOf 40 = .ok (.ior, 1) := by decide +kernel
theorem dX8_servesOf_41 : decode cX8_servesOf 41 = .ok (.istore_n 3, 1) := by decide +kernel
theorem dX8_servesOf_42 : decode cX8_servesOf 42 = .ok (.iinc 4 1, 3) := by decide +kernel
theorem dX8_servesOf_45 : decode cX8_servesOf 45 = .ok (.goto (-35), 3) := by decide +kernel
theorem dX8_servesOf_48 : decode cX8_servesOf 48 = .ok (.iload_n 3, 1) := by decide +kernel
theorem dX8_servesOf_49 : decode cX8_servesOf 49 = .ok (.ireturn, 1) := by decide +kernel
theorem dX8_serves_0 : decode cX8_serves 0 = .ok (.aload_n 0, 1) := by decide +kernel
theorem dX8_serves_1 : decode cX8_serves 1 = .ok (.invokevirtual 142, 3) := by decide +kernel
theorem dX8_serves_4 : decode cX8_serves 4 = .ok (.iload_n 1, 1) := by decide +kernel
theorem dX8_serves_5 : decode cX8_serves 5 = .ok (.invokestatic 154, 3) := by decide +kernel
theorem dX8_serves_8 : decode cX8_serves 8 = .ok (.ifCond .eq 20, 3) := by decide +kernel
theorem dX8_serves_11 : decode cX8_serves 11 = .ok (.aload_n 0, 1) := by decide +kernel
theorem dX8_serves_12 : decode cX8_serves 12 = .ok (.iload_n 2, 1) := by decide +kernel
theorem dX8_serves_13 : decode cX8_serves 13 = .ok (.invokevirtual 145, 3) := by decide +kernel
theorem dX8_serves_16 : decode cX8_serves 16 = .ok (.ifCond .eq 12, 3) := by decide +kernel
theorem dX8_serves_19 : decode cX8_serves 19 = .ok (.aload_n 0, 1) := by decide +kernel
theorem dX8_serves_20 : decode cX8_serves 20 = .ok (.iload_n 1, 1) := by decide +kernel
theorem dX8_serves_21 : decode cX8_serves 21 = .ok (.iload_n 2, 1) := by decide +kernel
theorem dX8_serves_22 : decode cX8_serves 22 = .ok (.invokevirtual 247, 3) := by decide +kernel
theorem dX8_serves_25 : decode cX8_serves 25 = .ok (.goto 5, 3) := by decide +kernel
theorem dX8_serves_28 : decode cX8_serves 28 = .ok (.bipush (-2), 2) := by decide +kernel
theorem dX8_serves_30 : decode cX8_serves 30 = .ok (.ireturn, 1) := by decide +kernel
theorem dX8_may_0 : decode cX8_may 0 = .ok (.iload_n 3, 1) := by decide +kernel
theorem dX8_may_1 : decode cX8_may 1 = .ok (.iload_n 2, 1) := by decide +kernel
theorem dX8_may_2 : decode cX8_may 2 = .ok (.invokestatic 192, 3) := by decide +kernel
theorem dX8_may_5 : decode cX8_may 5 = .ok (.ifCond .ne 26, 3) := by decide +kernel
theorem dX8_may_8 : decode cX8_may 8 = .ok (.aload_n 0, 1) := by decide +kernel
theorem dX8_may_9 : decode cX8_may 9 = .ok (.getfield 49, 3) := by decide +kernel
theorem dX8_may_12 : decode cX8_may 12 = .ok (.iload_n 2, 1) := by decide +kernel
theorem dX8_may_13 : decode cX8_may 13 = .ok (.iaload, 1) := by decide +kernel
theorem dX8_may_14 : decode cX8_may 14 = .ok (.iconst (-1), 1) := by decide +kernel
theorem dX8_may_15 : decode cX8_may 15 = .ok (.if_icmp .ne 16, 3) := by decide +kernel
theorem dX8_may_18 : decode cX8_may 18 = .ok (.aload_n 0, 1) := by decide +kernel
theorem dX8_may_19 : decode cX8_may 19 = .ok (.iload_n 2, 1) := by decide +kernel
theorem dX8_may_20 : decode cX8_may 20 = .ok (.iload_n 1, 1) := by decide +kernel
theorem dX8_may_21 : decode cX8_may 21 = .ok (.invokevirtual 244, 3) := by decide +kernel
theorem dX8_may_24 : decode cX8_may 24 = .ok (.ifCond .eq 7, 3) := by decide +kernel
theorem dX8_may_27 : decode cX8_may 27 = .ok (.iconst 1, 1) := by decide +kernel
theorem dX8_may_28 : decode cX8_may 28 = .ok (.goto 4, 3) := by decide +kernel
theorem dX8_may_31 : decode cX8_may 31 = .ok (.iconst 0, 1) := by decide +kernel
theorem dX8_may_32 : decode cX8_may 32 = .ok (.ireturn, 1) := by decide +kernel
theorem dX8_worthBy_0 : decode cX8_worthBy 0 = .ok (.aload_n 0, 1) := by decide +kernel
theorem dX8_worthBy_1 : decode cX8_worthBy 1 = .ok (.getfield 31, 3) := by decide +kernel
theorem dX8_worthBy_4 : decode cX8_worthBy 4 = .ok (.bipush 32, 2) := by decide +kernel
theorem dX8_worthBy_6 : decode cX8_worthBy 6 = .ok (.iconst 4, 1) := by decide +kernel
theorem dX8_worthBy_7 : decode cX8_worthBy 7 = .ok (.iload_n 1, 1) := by decide +kernel
theorem dX8_worthBy_8 : decode cX8_worthBy 8 = .ok (.imul, 1) := by decide +kernel
theorem dX8_worthBy_9 : decode cX8_worthBy 9 = .ok (.iadd, 1) := by decide +kernel
theorem dX8_worthBy_10 : decode cX8_worthBy 10 = .ok (.iconst 3, 1) := by decide +kernel
theorem dX8_worthBy_11 : decode cX8_worthBy 11 = .ok (.iadd, 1) := by decide +kernel
theorem dX8_worthBy_12 : decode cX8_worthBy 12 = .ok (.iaload, 1) := by decide +kernel
theorem dX8_worthBy_13 : decode cX8_worthBy 13 = .ok (.aload_n 0, 1) := by decide +kernel
theorem dX8_worthBy_14 : decode cX8_worthBy 14 = .ok (.getfield 70, 3) := by decide +kernel
theorem dX8_worthBy_17 : decode cX8_worthBy 17 = .ok (.sipush 256, 3) := by decide +kernel
theorem dX8_worthBy_20 : decode cX8_worthBy 20 = .ok (.iload_n 1, 1) := by decide +kernel
theorem dX8_worthBy_21 : decode cX8_worthBy 21 = .ok (.iconst 1, 1) := by decide +kernel
theorem dX8_worthBy_22 : decode cX8_worthBy 22 = .ok (.iadd, 1) := by decide +kernel
theorem dX8_worthBy_23 : decode cX8_worthBy 23 = .ok (.imul, 1) := by decide +kernel
theorem dX8_worthBy_24 : decode cX8_worthBy 24 = .ok (.iload_n 3, 1) := by decide +kernel
theorem dX8_worthBy_25 : decode cX8_worthBy 25 = .ok (.iconst 1, 1) := by decide +kernel
theorem dX8_worthBy_26 : decode cX8_worthBy 26 = .ok (.iload_n 2, 1) := by decide +kernel
theorem dX8_worthBy_27 : decode cX8_worthBy 27 = .ok (.ishl, 1) := by decide +kernel
theorem dX8_worthBy_28 : decode cX8_worthBy 28 = .ok (.ior, 1) := by decide +kernel
theorem dX8_worthBy_29 : decode cX8_worthBy 29 = .ok (.iadd, 1) := by decide +kernel
theorem dX8_worthBy_30 : decode cX8_worthBy 30 = .ok (.iaload, 1) := by decide +kernel
theorem dX8_worthBy_31 : decode cX8_worthBy 31 = .ok (.iadd, 1) := by decide +kernel
theorem dX8_worthBy_32 : decode cX8_worthBy 32 = .ok (.ireturn, 1) := by decide +kernel
theorem dX8_bestNow_0 : decode cX8_bestNow 0 = .ok (.iconst 1, 1) := by decide +kernel
theorem dX8_bestNow_1 : decode cX8_bestNow 1 = .ok (.aload_n 0, 1) := by decide +kernel
theorem dX8_bestNow_2 : decode cX8_bestNow 2 = .ok (.getfield 28, 3) := by decide +kernel
theorem dX8_bestNow_5 : decode cX8_bestNow 5 = .ok (.iconst 0, 1) := by decide +kernel
theorem dX8_bestNow_6 : decode cX8_bestNow 6 = .ok (.iaload, 1) := by decide +kernel
theorem dX8_bestNow_7 : decode cX8_bestNow 7 = .ok (.ishl, 1) := by decide +kernel
theorem dX8_bestNow_8 : decode cX8_bestNow 8 = .ok (.istore_n 1, 1) := by decide +kernel
theorem dX8_bestNow_9 : decode cX8_bestNow 9 = .ok (.aload_n 0, 1) := by decide +kernel
theorem dX8_bestNow_10 : decode cX8_bestNow 10 = .ok (.getfield 28, 3) := by decide +kernel
theorem dX8_bestNow_13 : decode cX8_bestNow 13 = .ok (.iconst 1, 1) := by decide +kernel
theorem dX8_bestNow_14 : decode cX8_bestNow 14 = .ok (.iaload, 1) := by decide +kernel
theorem dX8_bestNow_15 : decode cX8_bestNow 15 = .ok (.istore_n 2, 1) := by decide +kernel
theorem dX8_bestNow_16 : decode cX8_bestNow 16 = .ok (.iload_n 2, 1) := by decide +kernel
theorem dX8_bestNow_17 : decode cX8_bestNow 17 = .ok (.ifCond .lt 127, 3) := by decide +kernel
theorem dX8_bestNow_20 : decode cX8_bestNow 20 = .ok (.iconst 0, 1) := by decide +kernel
theorem dX8_bestNow_21 : decode cX8_bestNow 21 = .ok (.istore_n 3, 1) := by decide +kernel
theorem dX8_bestNow_22 : decode cX8_bestNow 22 = .ok (.iload_n 3, 1) := by decide +kernel
theorem dX8_bestNow_23 : decode cX8_bestNow 23 = .ok (.iload_n 1, 1) := by decide +kernel
theorem dX8_bestNow_24 : decode cX8_bestNow 24 = .ok (.if_icmp .ge 114, 3) := by decide +kernel
theorem dX8_bestNow_27 : decode cX8_bestNow 27 = .ok (.iload_n 2, 1) := by decide +kernel
theorem dX8_bestNow_28 : decode cX8_bestNow 28 = .ok (.aload_n 0, 1) := by decide +kernel
theorem dX8_bestNow_29 : decode cX8_bestNow 29 = .ok (.getfield 28, 3) := by decide +kernel
theorem dX8_bestNow_32 : decode cX8_bestNow 32 = .ok (.iconst 1, 1) := by decide +kernel
theorem dX8_bestNow_33 : decode cX8_bestNow 33 = .ok (.iaload, 1) := by decide +kernel
theorem dX8_bestNow_34 : decode cX8_bestNow 34 = .ok (.if_icmp .ne 7, 3) := by decide +kernel
theorem dX8_bestNow_37 : decode cX8_bestNow 37 = .ok (.iconst 0, 1) := by decide +kernel
theorem dX8_bestNow_38 : decode cX8_bestNow 38 = .ok (.goto 17, 3) := by decide +kernel
theorem dX8_bestNow_41 : decode cX8_bestNow 41 = .ok (.aload_n 0, 1) := by decide +kernel
theorem dX8_bestNow_42 : decode cX8_bestNow 42 = .ok (.getfield 70, 3) := by decide +kernel
theorem dX8_bestNow_45 : decode cX8_bestNow 45 = .ok (.sipush 256, 3) := by decide +kernel
theorem dX8_bestNow_48 : decode cX8_bestNow 48 = .ok (.iload_n 2, 1) := by decide +kernel
theorem dX8_bestNow_49 : decode cX8_bestNow 49 = .ok (.iconst 1, 1) := by decide +kernel
theorem dX8_bestNow_50 : decode cX8_bestNow 50 = .ok (.iadd, 1) := by decide +kernel
theorem dX8_bestNow_51 : decode cX8_bestNow 51 = .ok (.imul, 1) := by decide +kernel
theorem dX8_bestNow_52 : decode cX8_bestNow 52 = .ok (.iload_n 3, 1) := by decide +kernel
theorem dX8_bestNow_53 : decode cX8_bestNow 53 = .ok (.iadd, 1) := by decide +kernel
theorem dX8_bestNow_54 : decode cX8_bestNow 54 = .ok (.iaload, 1) := by decide +kernel
theorem dX8_bestNow_55 : decode cX8_bestNow 55 = .ok (.istore 4, 2) := by decide +kernel
theorem dX8_bestNow_57 : decode cX8_bestNow 57 = .ok (.iconst 0, 1) := by decide +kernel
theorem dX8_bestNow_58 : decode cX8_bestNow 58 = .ok (.istore 5, 2) := by decide +kernel
theorem dX8_bestNow_60 : decode cX8_bestNow 60 = .ok (.iload 5, 2) := by decide +kernel
theorem dX8_bestNow_62 : decode cX8_bestNow 62 = .ok (.aload_n 0, 1) := by decide +kernel
theorem dX8_bestNow_63 : decode cX8_bestNow 63 = .ok (.getfield 28, 3) := by decide +kernel
theorem dX8_bestNow_66 : decode cX8_bestNow 66 = .ok (.iconst 0, 1) := by decide +kernel
theorem dX8_bestNow_67 : decode cX8_bestNow 67 = .ok (.iaload, 1) := by decide +kernel
theorem dX8_bestNow_68 : decode cX8_bestNow 68 = .ok (.if_icmp .ge 50, 3) := by decide +kernel
theorem dX8_bestNow_71 : decode cX8_bestNow 71 = .ok (.iload_n 2, 1) := by decide +kernel
theorem dX8_bestNow_72 : decode cX8_bestNow 72 = .ok (.aload_n 0, 1) := by decide +kernel
theorem dX8_bestNow_73 : decode cX8_bestNow 73 = .ok (.getfield 28, 3) := by decide +kernel
theorem dX8_bestNow_76 : decode cX8_bestNow 76 = .ok (.iconst 1, 1) := by decide +kernel
theorem dX8_bestNow_77 : decode cX8_bestNow 77 = .ok (.iaload, 1) := by decide +kernel
theorem dX8_bestNow_78 : decode cX8_bestNow 78 = .ok (.if_icmp .ge 40, 3) := by decide +kernel
theorem dX8_bestNow_81 : decode cX8_bestNow 81 = .ok (.aload_n 0, 1) := by decide +kernel
theorem dX8_bestNow_82 : decode cX8_bestNow 82 = .ok (.iload_n 2, 1) := by decide +kernel
theorem dX8_bestNow_83 : decode cX8_bestNow 83 = .ok (.iload 5, 2) := by decide +kernel
theorem dX8_bestNow_85 : decode cX8_bestNow 85 = .ok (.iload_n 3, 1) := by decide +kernel
theorem dX8_bestNow_86 : decode cX8_bestNow 86 = .ok (.invokevirtual 250, 3) := by decide +kernel
theorem dX8_bestNow_89 : decode cX8_bestNow 89 = .ok (.ifCond .eq 19, 3) := by decide +kernel
theorem dX8_bestNow_92 : decode cX8_bestNow 92 = .ok (.aload_n 0, 1) := by decide +kernel
theorem dX8_bestNow_93 : decode cX8_bestNow 93 = .ok (.iload_n 2, 1) := by decide +kernel
theorem dX8_bestNow_94 : decode cX8_bestNow 94 = .ok (.iload 5, 2) := by decide +kernel
theorem dX8_bestNow_96 : decode cX8_bestNow 96 = .ok (.iload_n 3, 1) := by decide +kernel
theorem dX8_bestNow_97 : decode cX8_bestNow 97 = .ok (.invokevirtual 253, 3) := by decide +kernel
theorem dX8_bestNow_100 : decode cX8_bestNow 100 = .ok (.iload 4, 2) := by decide +kernel
theorem dX8_bestNow_102 : decode cX8_bestNow 102 = .ok (.invokestatic 186, 3) := by decide +kernel
theorem dX8_bestNow_105 : decode cX8_bestNow 105 = .ok (.goto 5, 3) := by decide +kernel
theorem dX8_bestNow_108 : decode cX8_bestNow 108 = .ok (.iload 4, 2) := by decide +kernel
theorem dX8_bestNow_110 : decode cX8_bestNow 110 = .ok (.istore 4, 2) := by decide +kernel
theorem dX8_bestNow_112 : decode cX8_bestNow 112 = .ok (.iinc 5 1, 3) := by decide +kernel
theorem dX8_bestNow_115 : decode cX8_bestNow 115 = .ok (.goto (-55), 3) := by decide +kernel
theorem dX8_bestNow_118 : decode cX8_bestNow 118 = .ok (.aload_n 0, 1) := by decide +kernel
theorem dX8_bestNow_119 : decode cX8_bestNow 119 = .ok (.getfield 70, 3) := by decide +kernel
theorem dX8_bestNow_122 : decode cX8_bestNow 122 = .ok (.sipush 256, 3) := by decide +kernel
theorem dX8_bestNow_125 : decode cX8_bestNow 125 = .ok (.iload_n 2, 1) := by decide +kernel
theorem dX8_bestNow_126 : decode cX8_bestNow 126 = .ok (.imul, 1) := by decide +kernel
theorem dX8_bestNow_127 : decode cX8_bestNow 127 = .ok (.iload_n 3, 1) := by decide +kernel
theorem dX8_bestNow_128 : decode cX8_bestNow 128 = .ok (.iadd, 1) := by decide +kernel
theorem dX8_bestNow_129 : decode cX8_bestNow 129 = .ok (.iload 4, 2) := by decide +kernel
theorem dX8_bestNow_131 : decode cX8_bestNow 131 = .ok (.iastore, 1) := by decide +kernel
theorem dX8_bestNow_132 : decode cX8_bestNow 132 = .ok (.iinc 3 1, 3) := by decide +kernel
theorem dX8_bestNow_135 : decode cX8_bestNow 135 = .ok (.goto (-113), 3) := by decide +kernel
theorem dX8_bestNow_138 : decode cX8_bestNow 138 = .ok (.iinc 2 (-1), 3) := by decide +kernel
theorem dX8_bestNow_141 : decode cX8_bestNow 141 = .ok (.goto (-125), 3) := by decide +kernel
theorem dX8_bestNow_144 : decode cX8_bestNow 144 = .ok (.aload_n 0, 1) := by decide +kernel
theorem dX8_bestNow_145 : decode cX8_bestNow 145 = .ok (.getfield 70, 3) := by decide +kernel
theorem dX8_bestNow_148 : decode cX8_bestNow 148 = .ok (.iconst 0, 1) := by decide +kernel
theorem dX8_bestNow_149 : decode cX8_bestNow 149 = .ok (.iaload, 1) := by decide +kernel
theorem dX8_bestNow_150 : decode cX8_bestNow 150 = .ok (.ireturn, 1) := by decide +kernel
theorem dX8_bestOf_0 : decode cX8_bestOf 0 = .ok (.aload_n 0, 1) := by decide +kernel
theorem dX8_bestOf_1 : decode cX8_bestOf 1 = .ok (.iload_n 1, 1) := by decide +kernel
theorem dX8_bestOf_2 : decode cX8_bestOf 2 = .ok (.invokevirtual 218, 3) := by decide +kernel
theorem dX8_bestOf_5 : decode cX8_bestOf 5 = .ok (.aload_n 0, 1) := by decide +kernel
theorem dX8_bestOf_6 : decode cX8_bestOf 6 = .ok (.invokevirtual 256, 3) := by decide +kernel
theorem dX8_bestOf_9 : decode cX8_bestOf 9 = .ok (.istore_n 3, 1) := by decide +kernel
theorem dX8_bestOf_10 : decode cX8_bestOf 10 = .ok (.iconst 0, 1) := by decide +kernel
theorem dX8_bestOf_11 : decode cX8_bestOf 11 = .ok (.istore 4, 2) := by decide +kernel
theorem dX8_bestOf_13 : decode cX8_bestOf 13 = .ok (.iconst (-1), 1) := by decide +kernel
theorem dX8_bestOf_14 : decode cX8_bestOf 14 = .ok (.istore 5, 2) := by decide +kernel
theorem dX8_bestOf_16 : decode cX8_bestOf 16 = .ok (.iconst 0, 1) := by decide +kernel
theorem dX8_bestOf_17 : decode cX8_bestOf 17 = .ok (.istore 6, 2) := by decide +kernel
theorem dX8_bestOf_19 : decode cX8_bestOf 19 = .ok (.iload 6, 2) := by decide +kernel
theorem dX8_bestOf_21 : decode cX8_bestOf 21 = .ok (.iload_n 2, 1) := by decide +kernel
theorem dX8_bestOf_22 : decode cX8_bestOf 22 = .ok (.if_icmp .gt 112, 3) := by decide +kernel
theorem dX8_bestOf_25 : decode cX8_bestOf 25 = .ok (.iload 6, 2) := by decide +kernel
theorem dX8_bestOf_27 : decode cX8_bestOf 27 = .ok (.aload_n 0, 1) := by decide +kernel
theorem dX8_bestOf_28 : decode cX8_bestOf 28 = .ok (.getfield 28, 3) := by decide +kernel
theorem dX8_bestOf_31 : decode cX8_bestOf 31 = .ok (.iconst 1, 1) := by decide +kernel
theorem dX8_bestOf_32 : decode cX8_bestOf 32 = .ok (.iaload, 1) := by decide +kernel
theorem dX8_bestOf_33 : decode cX8_bestOf 33 = .ok (.if_icmp .ge 101, 3) := by decide +kernel
theorem dX8_bestOf_36 : decode cX8_bestOf 36 = .ok (.iconst (-1), 1) := by decide +kernel
theorem dX8_bestOf_37 : decode cX8_bestOf 37 = .ok (.istore 5, 2) := by decide +kernel
theorem dX8_bestOf_39 : decode cX8_bestOf 39 = .ok (.aload_n 0, 1) := by decide +kernel
theorem dX8_bestOf_40 : decode cX8_bestOf 40 = .ok (.getfield 28, 3) := by decide +kernel
theorem dX8_bestOf_43 : decode cX8_bestOf 43 = .ok (.iconst 0, 1) := by decide +kernel
theorem dX8_bestOf_44 : decode cX8_bestOf 44 = .ok (.iaload, 1) := by decide +kernel
theorem dX8_bestOf_45 : decode cX8_bestOf 45 = .ok (.iconst 1, 1) := by decide +kernel
theorem dX8_bestOf_46 : decode cX8_bestOf 46 = .ok (.isub, 1) := by decide +kernel
theorem dX8_bestOf_47 : decode cX8_bestOf 47 = .ok (.istore 7, 2) := by decide +kernel
theorem dX8_bestOf_49 : decode cX8_bestOf 49 = .ok (.iload 7, 2) := by decide +kernel
theorem dX8_bestOf_51 : decode cX8_bestOf 51 = .ok (.ifCond .lt 58, 3) := by decide +kernel
theorem dX8_bestOf_54 : decode cX8_bestOf 54 = .ok (.aload_n 0, 1) := by decide +kernel
theorem dX8_bestOf_55 : decode cX8_bestOf 55 = .ok (.iload 6, 2) := by decide +kernel
theorem dX8_bestOf_57 : decode cX8_bestOf 57 = .ok (.iload 7, 2) := by decide +kernel
theorem dX8_bestOf_59 : decode cX8_bestOf 59 = .ok (.iload 4, 2) := by decide +kernel
theorem dX8_bestOf_61 : decode cX8_bestOf 61 = .ok (.invokevirtual 250, 3) := by decide +kernel
theorem dX8_bestOf_64 : decode cX8_bestOf 64 = .ok (.ifCond .eq 35, 3) := by decide +kernel
theorem dX8_bestOf_67 : decode cX8_bestOf 67 = .ok (.aload_n 0, 1) := by decide +kernel
theorem dX8_bestOf_68 : decode cX8_bestOf 68 = .ok (.iload 6, 2) := by decide +kernel
theorem dX8_bestOf_70 : decode cX8_bestOf 70 = .ok (.iload 7, 2) := by decide +kernel
theorem dX8_bestOf_72 : decode cX8_bestOf 72 = .ok (.iload 4, 2) := by decide +kernel
theorem dX8_bestOf_74 : decode cX8_bestOf 74 = .ok (.invokevirtual 253, 3) := by decide +kernel
theorem dX8_bestOf_77 : decode cX8_bestOf 77 = .ok (.aload_n 0, 1) := by decide +kernel
theorem dX8_bestOf_78 : decode cX8_bestOf 78 = .ok (.getfield 70, 3) := by decide +kernel
theorem dX8_bestOf_81 : decode cX8_bestOf 81 = .ok (.sipush 256, 3) := by decide +kernel
theorem dX8_bestOf_84 : decode cX8_bestOf 84 = .ok (.iload 6, 2) := by decide +kernel
theorem dX8_bestOf_86 : decode cX8_bestOf 86 = .ok (.imul, 1) := by decide +kernel
theorem dX8_bestOf_87 : decode cX8_bestOf 87 = .ok (.iload 4, 2) := by decide +kernel
theorem dX8_bestOf_89 : decode cX8_bestOf 89 = .ok (.iadd, 1) := by decide +kernel
theorem dX8_bestOf_90 : decode cX8_bestOf 90 = .ok (.iaload, 1) := by decide +kernel
theorem dX8_bestOf_91 : decode cX8_bestOf 91 = .ok (.if_icmp .ne 8, 3) := by decide +kernel
theorem dX8_bestOf_94 : decode cX8_bestOf 94 = .ok (.iload 7, 2) := by decide +kernel
theorem dX8_bestOf_96 : decode cX8_bestOf 96 = .ok (.goto 5, 3) := by decide +kernel
theorem dX8_bestOf_99 : decode cX8_bestOf 99 = .ok (.iload 5, 2) := by decide +kernel
theorem dX8_bestOf_101 : decode cX8_bestOf 101 = .ok (.istore 5, 2) := by decide +kernel
theorem dX8_bestOf_103 : decode cX8_bestOf 103 = .ok (.iinc 7 (-1), 3) := by decide +kernel
theorem dX8_bestOf_106 : decode cX8_bestOf 106 = .ok (.goto (-57), 3) := by decide +kernel
theorem dX8_bestOf_109 : decode cX8_bestOf 109 = .ok (.iload 4, 2) := by decide +kernel
theorem dX8_bestOf_111 : decode cX8_bestOf 111 = .ok (.iload 5, 2) := by decide +kernel
theorem dX8_bestOf_113 : decode cX8_bestOf 113 = .ok (.iconst (-1), 1) := by decide +kernel
theorem dX8_bestOf_114 : decode cX8_bestOf 114 = .ok (.if_icmp .ne 7, 3) := by decide +kernel
theorem dX8_bestOf_117 : decode cX8_bestOf 117 = .ok (.iconst 0, 1) := by decide +kernel
theorem dX8_bestOf_118 : decode cX8_bestOf 118 = .ok (.goto 7, 3) := by decide +kernel
theorem dX8_bestOf_121 : decode cX8_bestOf 121 = .ok (.iconst 1, 1) := by decide +kernel
theorem dX8_bestOf_122 : decode cX8_bestOf 122 = .ok (.iload 5, 2) := by decide +kernel
theorem dX8_bestOf_124 : decode cX8_bestOf 124 = .ok (.ishl, 1) := by decide +kernel
theorem dX8_bestOf_125 : decode cX8_bestOf 125 = .ok (.ior, 1) := by decide +kernel
theorem dX8_bestOf_126 : decode cX8_bestOf 126 = .ok (.istore 4, 2) := by decide +kernel
theorem dX8_bestOf_128 : decode cX8_bestOf 128 = .ok (.iinc 6 1, 3) := by decide +kernel
theorem dX8_bestOf_131 : decode cX8_bestOf 131 = .ok (.goto (-112), 3) := by decide +kernel
theorem dX8_bestOf_134 : decode cX8_bestOf 134 = .ok (.iload_n 2, 1) := by decide +kernel
theorem dX8_bestOf_135 : decode cX8_bestOf 135 = .ok (.iconst (-1), 1) := by decide +kernel
theorem dX8_bestOf_136 : decode cX8_bestOf 136 = .ok (.if_icmp .ne 7, 3) := by decide +kernel
theorem dX8_bestOf_139 : decode cX8_bestOf 139 = .ok (.iload_n 3, 1) := by decide +kernel
theorem dX8_bestOf_140 : decode cX8_bestOf 140 = .ok (.goto 19, 3) := by decide +kernel
theorem dX8_bestOf_143 : decode cX8_bestOf 143 = .ok (.iload_n 2, 1) := by decide +kernel
theorem dX8_bestOf_144 : decode cX8_bestOf 144 = .ok (.aload_n 0, 1) := by decide +kernel
theorem dX8_bestOf_145 : decode cX8_bestOf 145 = .ok (.getfield 28, 3) := by decide +kernel
theorem dX8_bestOf_148 : decode cX8_bestOf 148 = .ok (.iconst 1, 1) := by decide +kernel
theorem dX8_bestOf_149 : decode cX8_bestOf 149 = .ok (.iaload, 1) := by decide +kernel
theorem dX8_bestOf_150 : decode cX8_bestOf 150 = .ok (.if_icmp .ge 8, 3) := by decide +kernel
theorem dX8_bestOf_153 : decode cX8_bestOf 153 = .ok (.iload 5, 2) := by decide +kernel
theorem dX8_bestOf_155 : decode cX8_bestOf 155 = .ok (.goto 4, 3) := by decide +kernel
theorem dX8_bestOf_158 : decode cX8_bestOf 158 = .ok (.iconst (-1), 1) := by decide +kernel
theorem dX8_bestOf_159 : decode cX8_bestOf 159 = .ok (.ireturn, 1) := by decide +kernel
theorem dX8_best_0 : decode cX8_best 0 = .ok (.aload_n 0, 1) := by decide +kernel
theorem dX8_best_1 : decode cX8_best 1 = .ok (.invokevirtual 142, 3) := by decide +kernel
theorem dX8_best_4 : decode cX8_best 4 = .ok (.iload_n 1, 1) := by decide +kernel
theorem dX8_best_5 : decode cX8_best 5 = .ok (.invokestatic 154, 3) := by decide +kernel
theorem dX8_best_8 : decode cX8_best 8 = .ok (.ifCond .eq 26, 3) := by decide +kernel
theorem dX8_best_11 : decode cX8_best 11 = .ok (.iload_n 2, 1) := by decide +kernel
theorem dX8_best_12 : decode cX8_best 12 = .ok (.i2l, 1) := by decide +kernel
theorem dX8_best_13 : decode cX8_best 13 = .ok (.ldc2_w 259, 3) := by decide +kernel
theorem dX8_best_16 : decode cX8_best 16 = .ok (.ldc2_w 140, 3) := by decide +kernel
theorem dX8_best_19 : decode cX8_best 19 = .ok (.invokestatic 94, 3) := by decide +kernel
theorem dX8_best_22 : decode cX8_best 22 = .ok (.ifCond .eq 12, 3) := by decide +kernel
theorem dX8_best_25 : decode cX8_best 25 = .ok (.aload_n 0, 1) := by decide +kernel
theorem dX8_best_26 : decode cX8_best 26 = .ok (.iload_n 1, 1) := by decide +kernel
theorem dX8_best_27 : decode cX8_best 27 = .ok (.iload_n 2, 1) := by decide +kernel
theorem dX8_best_28 : decode cX8_best 28 = .ok (.invokevirtual 261, 3) := by decide +kernel
theorem dX8_best_31 : decode cX8_best 31 = .ok (.goto 5, 3) := by decide +kernel
theorem dX8_best_34 : decode cX8_best 34 = .ok (.bipush (-2), 2) := by decide +kernel
theorem dX8_best_36 : decode cX8_best 36 = .ok (.ireturn, 1) := by decide +kernel
theorem dX8_isServed_0 : decode cX8_isServed 0 = .ok (.aload_n 0, 1) := by decide +kernel
theorem dX8_isServed_1 : decode cX8_isServed 1 = .ok (.iload_n 2, 1) := by decide +kernel
theorem dX8_isServed_2 : decode cX8_isServed 2 = .ok (.invokevirtual 218, 3) := by decide +kernel
theorem dX8_isServed_5 : decode cX8_isServed 5 = .ok (.iconst 0, 1) := by decide +kernel
theorem dX8_isServed_6 : decode cX8_isServed 6 = .ok (.istore_n 3, 1) := by decide +kernel
theorem dX8_isServed_7 : decode cX8_isServed 7 = .ok (.iconst 0, 1) := by decide +kernel
theorem dX8_isServed_8 : decode cX8_isServed 8 = .ok (.istore 4, 2) := by decide +kernel
theorem dX8_isServed_10 : decode cX8_isServed 10 = .ok (.iload 4, 2) := by decide +kernel
theorem dX8_isServed_12 : decode cX8_isServed 12 = .ok (.aload_n 0, 1) := by decide +kernel
theorem dX8_isServed_13 : decode cX8_isServed 13 = .ok (.getfield 28, 3) := by decide +kernel
theorem dX8_isServed_16 : decode cX8_isServed 16 = .ok (.iconst 0, 1) := by decide +kernel
theorem dX8_isServed_17 : decode cX8_isServed 17 = .ok (.iaload, 1) := by decide +kernel
theorem dX8_isServed_18 : decode cX8_isServed 18 = .ok (.if_icmp .ge 40, 3) := by decide +kernel
theorem dX8_isServed_21 : decode cX8_isServed 21 = .ok (.iload_n 3, 1) := by decide +kernel
theorem dX8_isServed_22 : decode cX8_isServed 22 = .ok (.ifCond .ne 24, 3) := by decide +kernel
theorem dX8_isServed_25 : decode cX8_isServed 25 = .ok (.aload_n 0, 1) := by decide +kernel
theorem dX8_isServed_26 : decode cX8_isServed 26 = .ok (.getfield 49, 3) := by decide +kernel
theorem dX8_isServed_29 : decode cX8_isServed 29 = .ok (.iload 4, 2) := by decide +kernel
theorem dX8_isServed_31 : decode cX8_isServed 31 = .ok (.iaload, 1) := by decide +kernel
theorem dX8_isServed_32 : decode cX8_isServed 32 = .ok (.iconst (-1), 1) := by decide +kernel
theorem dX8_isServed_33 : decode cX8_isServed 33 = .ok (.if_icmp .ne 17, 3) := by decide +kernel
theorem dX8_isServed_36 : decode cX8_isServed 36 = .ok (.aload_n 0, 1) := by decide +kernel
theorem dX8_isServed_37 : decode cX8_isServed 37 = .ok (.iload 4, 2) := by decide +kernel
theorem dX8_isServed_39 : decode cX8_isServed 39 = .ok (.iload_n 1, 1) := by decide +kernel
theorem dX8_isServed_40 : decode cX8_isServed 40 = .ok (.invokevirtual 244, 3) := by decide +kernel
theorem dX8_isServed_43 : decode cX8_isServed 43 = .ok (.ifCond .eq 7, 3) := by decide +kernel
theorem dX8_isServed_46 : decode cX8_isServed 46 = .ok (.iconst 1, 1) := by decide +kernel
theorem dX8_isServed_47 : decode cX8_isServed 47 = .ok (.goto 4, 3) := by decide +kernel
theorem dX8_isServed_50 : decode cX8_isServed 50 = .ok (.iconst 0, 1) := by decide +kernel
theorem dX8_isServed_51 : decode cX8_isServed 51 = .ok (.istore_n 3, 1) := by decide +kernel
theorem dX8_isServed_52 : decode cX8_isServed 52 = .ok (.iinc 4 1, 3) := by decide +kernel
theorem dX8_isServed_55 : decode cX8_isServed 55 = .ok (.goto (-45), 3) := by decide +kernel
theorem dX8_isServed_58 : decode cX8_isServed 58 = .ok (.iload_n 3, 1) := by decide +kernel
theorem dX8_isServed_59 : decode cX8_isServed 59 = .ok (.ireturn, 1) := by decide +kernel
theorem dX8_goesOn_0 : decode cX8_goesOn 0 = .ok (.iload_n 1, 1) := by decide +kernel
theorem dX8_goesOn_1 : decode cX8_goesOn 1 = .ok (.iconst 1, 1) := by decide +kernel
theorem dX8_goesOn_2 : decode cX8_goesOn 2 = .ok (.isub, 1) := by decide +kernel
theorem dX8_goesOn_3 : decode cX8_goesOn 3 = .ok (.istore_n 2, 1) := by decide +kernel
theorem dX8_goesOn_4 : decode cX8_goesOn 4 = .ok (.iload_n 2, 1) := by decide +kernel
theorem dX8_goesOn_5 : decode cX8_goesOn 5 = .ok (.ifCond .lt 65, 3) := by decide +kernel
theorem dX8_goesOn_8 : decode cX8_goesOn 8 = .ok (.aload_n 0, 1) := by decide +kernel
theorem dX8_goesOn_9 : decode cX8_goesOn 9 = .ok (.getfield 73, 3) := by decide +kernel
theorem dX8_goesOn_12 : decode cX8_goesOn 12 = .ok (.iload_n 2, 1) := by decide +kernel
theorem dX8_goesOn_13 : decode cX8_goesOn 13 = .ok (.iaload, 1) := by decide +kernel
theorem dX8_goesOn_14 : decode cX8_goesOn 14 = .ok (.aload_n 0, 1) := by decide +kernel
theorem dX8_goesOn_15 : decode cX8_goesOn 15 = .ok (.getfield 28, 3) := by decide +kernel
theorem dX8_goesOn_18 : decode cX8_goesOn 18 = .ok (.iconst 0, 1) := by decide +kernel
theorem dX8_goesOn_19 : decode cX8_goesOn 19 = .ok (.iaload, 1) := by decide +kernel
theorem dX8_goesOn_20 : decode cX8_goesOn 20 = .ok (.iconst 1, 1) := by decide +kernel
theorem dX8_goesOn_21 : decode cX8_goesOn 21 = .ok (.isub, 1) := by decide +kernel
theorem dX8_goesOn_22 : decode cX8_goesOn 22 = .ok (.if_icmp .ge 42, 3) := by decide +kernel
theorem dX8_goesOn_25 : decode cX8_goesOn 25 = .ok (.aload_n 0, 1) := by decide +kernel
theorem dX8_goesOn_26 : decode cX8_goesOn 26 = .ok (.getfield 73, 3) := by decide +kernel
theorem dX8_goesOn_29 : decode cX8_goesOn 29 = .ok (.iload_n 2, 1) := by decide +kernel
theorem dX8_goesOn_30 : decode cX8_goesOn 30 = .ok (.dup2, 1) := by decide +kernel
theorem dX8_goesOn_31 : decode cX8_goesOn 31 = .ok (.iaload, 1) := by decide +kernel
theorem dX8_goesOn_32 : decode cX8_goesOn 32 = .ok (.iconst 1, 1) := by decide +kernel
theorem dX8_goesOn_33 : decode cX8_goesOn 33 = .ok (.iadd, 1) := by decide +kernel
theorem dX8_goesOn_34 : decode cX8_goesOn 34 = .ok (.iastore, 1) := by decide +kernel
theorem dX8_goesOn_35 : decode cX8_goesOn 35 = .ok (.iload_n 2, 1) := by decide +kernel
theorem dX8_goesOn_36 : decode cX8_goesOn 36 = .ok (.iconst 1, 1) := by decide +kernel
theorem dX8_goesOn_37 : decode cX8_goesOn 37 = .ok (.iadd, 1) := by decide +kernel
theorem dX8_goesOn_38 : decode cX8_goesOn 38 = .ok (.istore_n 3, 1) := by decide +kernel
theorem dX8_goesOn_39 : decode cX8_goesOn 39 = .ok (.iload_n 3, 1) := by decide +kernel
theorem dX8_goesOn_40 : decode cX8_goesOn 40 = .ok (.iload_n 1, 1) := by decide +kernel
theorem dX8_goesOn_41 : decode cX8_goesOn 41 = .ok (.if_icmp .ge 21, 3) := by decide +kernel
theorem dX8_goesOn_44 : decode cX8_goesOn 44 = .ok (.aload_n 0, 1) := by decide +kernel
theorem dX8_goesOn_45 : decode cX8_goesOn 45 = .ok (.getfield 73, 3) := by decide +kernel
theorem dX8_goesOn_48 : decode cX8_goesOn 48 = .ok (.iload_n 3, 1) := by decide +kernel
theorem dX8_goesOn_49 : decode cX8_goesOn 49 = .ok (.aload_n 0, 1) := by decide +kernel
theorem dX8_goesOn_50 : decode cX8_goesOn 50 = .ok (.getfield 73, 3) := by decide +kernel
theorem dX8_goesOn_53 : decode cX8_goesOn 53 = .ok (.iload_n 2, 1) := by decide +kernel
theorem dX8_goesOn_54 : decode cX8_goesOn 54 = .ok (.iaload, 1) := by decide +kernel
theorem dX8_goesOn_55 : decode cX8_goesOn 55 = .ok (.iastore, 1) := by decide +kernel
theorem dX8_goesOn_56 : decode cX8_goesOn 56 = .ok (.iinc 3 1, 3) := by decide +kernel
theorem dX8_goesOn_59 : decode cX8_goesOn 59 = .ok (.goto (-20), 3) := by decide +kernel
theorem dX8_goesOn_62 : decode cX8_goesOn 62 = .ok (.iconst 1, 1) := by decide +kernel
theorem dX8_goesOn_63 : decode cX8_goesOn 63 = .ok (.ireturn, 1) := by decide +kernel
theorem dX8_goesOn_64 : decode cX8_goesOn 64 = .ok (.iinc 2 (-1), 3) := by decide +kernel
theorem dX8_goesOn_67 : decode cX8_goesOn 67 = .ok (.goto (-63), 3) := by decide +kernel
theorem dX8_goesOn_70 : decode cX8_goesOn 70 = .ok (.iconst 0, 1) := by decide +kernel
theorem dX8_goesOn_71 : decode cX8_goesOn 71 = .ok (.ireturn, 1) := by decide +kernel
theorem dX8_mendOf_0 : decode cX8_mendOf 0 = .ok (.aload_n 0, 1) := by decide +kernel
theorem dX8_mendOf_1 : decode cX8_mendOf 1 = .ok (.getfield 171, 3) := by decide +kernel
theorem dX8_mendOf_4 : decode cX8_mendOf 4 = .ok (.istore 4, 2) := by decide +kernel
theorem dX8_mendOf_6 : decode cX8_mendOf 6 = .ok (.iconst 0, 1) := by decide +kernel
theorem dX8_mendOf_7 : decode cX8_mendOf 7 = .ok (.istore 5, 2) := by decide +kernel
theorem dX8_mendOf_9 : decode cX8_mendOf 9 = .ok (.iload 5, 2) := by decide +kernel
theorem dX8_mendOf_11 : decode cX8_mendOf 11 = .ok (.iconst 4, 1) := by decide +kernel
theorem dX8_mendOf_12 : decode cX8_mendOf 12 = .ok (.if_icmp .ge 143, 3) := by decide +kernel
theorem dX8_mendOf_15 : decode cX8_mendOf 15 = .ok (.iload 5, 2) := by decide +kernel
theorem dX8_mendOf_17 : decode cX8_mendOf 17 = .ok (.ifCond .eq 12, 3) := by decide +kernel
theorem dX8_mendOf_20 : decode cX8_mendOf 20 = .ok (.aload_n 0, 1) := by decide +kernel
theorem dX8_mendOf_21 : decode cX8_mendOf 21 = .ok (.getfield 28, 3) := by decide +kernel
theorem dX8_mendOf_24 : decode cX8_mendOf 24 = .ok (.iconst 0, 1) := by decide +kernel
theorem dX8_mendOf_25 : decode cX8_mendOf 25 = .ok (.iaload, 1) := by decide +kernel
theorem dX8_mendOf_26 : decode cX8_mendOf 26 = .ok (.ifCond .le 7, 3) := by decide +kernel
theorem dX8_mendOf_29 : decode cX8_mendOf 29 = .ok (.iconst 1, 1) := by decide +kernel
theorem dX8_mendOf_30 : decode cX8_mendOf 30 = .ok (.goto 4, 3) := by decide +kernel
theorem dX8_mendOf_33 : decode cX8_mendOf 33 = .ok (.iconst 0, 1) := by decide +kernel
theorem dX8_mendOf_34 : decode cX8_mendOf 34 = .ok (.istore 6, 2) := by decide +kernel
theorem dX8_mendOf_36 : decode cX8_mendOf 36 = .ok (.iconst 0, 1) := by decide +kernel
theorem dX8_mendOf_37 : decode cX8_mendOf 37 = .ok (.istore 7, 2) := by decide +kernel
theorem dX8_mendOf_39 : decode cX8_mendOf 39 = .ok (.iload 7, 2) := by decide +kernel
theorem dX8_mendOf_41 : decode cX8_mendOf 41 = .ok (.iconst 3, 1) := by decide +kernel
theorem dX8_mendOf_42 : decode cX8_mendOf 42 = .ok (.if_icmp .ge 17, 3) := by decide +kernel
theorem dX8_mendOf_45 : decode cX8_mendOf 45 = .ok (.aload_n 0, 1) := by decide +kernel
theorem dX8_mendOf_46 : decode cX8_mendOf 46 = .ok (.getfield 73, 3) := by decide +kernel
theorem dX8_mendOf_49 : decode cX8_mendOf 49 = .ok (.iload 7, 2) := by decide +kernel
theorem dX8_mendOf_51 : decode cX8_mendOf 51 = .ok (.iconst 0, 1) := by decide +kernel
theorem dX8_mendOf_52 : decode cX8_mendOf 52 = .ok (.iastore, 1) := by decide +kernel
theorem dX8_mendOf_53 : decode cX8_mendOf 53 = .ok (.iinc 7 1, 3) := by decide +kernel
theorem dX8_mendOf_56 : decode cX8_mendOf 56 = .ok (.goto (-17), 3) := by decide +kernel
theorem dX8_mendOf_59 : decode cX8_mendOf 59 = .ok (.iload 6, 2) := by decide +kernel
theorem dX8_mendOf_61 : decode cX8_mendOf 61 = .ok (.ifCond .eq 88, 3) := by decide +kernel
theorem dX8_mendOf_64 : decode cX8_mendOf 64 = .ok (.iconst 0, 1) := by decide +kernel
theorem dX8_mendOf_65 : decode cX8_mendOf 65 = .ok (.istore 7, 2) := by decide +kernel
theorem dX8_mendOf_67 : decode cX8_mendOf 67 = .ok (.iload 7, 2) := by decide +kernel
theorem dX8_mendOf_69 : decode cX8_mendOf 69 = .ok (.iload 5, 2) := by decide +kernel
theorem dX8_mendOf_71 : decode cX8_mendOf 71 = .ok (.if_icmp .ge 21, 3) := by decide +kernel
theorem dX8_mendOf_74 : decode cX8_mendOf 74 = .ok (.aload_n 0, 1) := by decide +kernel
theorem dX8_mendOf_75 : decode cX8_mendOf 75 = .ok (.iload_n 2, 1) := by decide +kernel
theorem dX8_mendOf_76 : decode cX8_mendOf 76 = .ok (.aload_n 0, 1) := by decide +kernel
theorem dX8_mendOf_77 : decode cX8_mendOf 77 = .ok (.getfield 73, 3) := by decide +kernel
theorem dX8_mendOf_80 : decode cX8_mendOf 80 = .ok (.iload 7, 2) := by decide +kernel
theorem dX8_mendOf_82 : decode cX8_mendOf 82 = .ok (.iaload, 1) := by decide +kernel
theorem dX8_mendOf_83 : decode cX8_mendOf 83 = .ok (.invokevirtual 174, 3) := by decide +kernel
theorem dX8_mendOf_86 : decode cX8_mendOf 86 = .ok (.iinc 7 1, 3) := by decide +kernel
theorem dX8_mendOf_89 : decode cX8_mendOf 89 = .ok (.goto (-22), 3) := by decide +kernel
theorem dX8_mendOf_92 : decode cX8_mendOf 92 = .ok (.aload_n 0, 1) := by decide +kernel
theorem dX8_mendOf_93 : decode cX8_mendOf 93 = .ok (.iload_n 1, 1) := by decide +kernel
theorem dX8_mendOf_94 : decode cX8_mendOf 94 = .ok (.iload_n 2, 1) := by decide +kernel
theorem dX8_mendOf_95 : decode cX8_mendOf 95 = .ok (.invokevirtual 264, 3) := by decide +kernel
theorem dX8_mendOf_98 : decode cX8_mendOf 98 = .ok (.istore 7, 2) := by decide +kernel
theorem dX8_mendOf_100 : decode cX8_mendOf 100 = .ok (.aload_n 0, 1) := by decide +kernel
theorem dX8_mendOf_101 : decode cX8_mendOf 101 = .ok (.iload 4, 2) := by decide +kernel
theorem dX8_mendOf_103 : decode cX8_mendOf 103 = .ok (.putfield 171, 3) := by decide +kernel
theorem dX8_mendOf_106 : decode cX8_mendOf 106 = .ok (.iload 7, 2) := by decide +kernel
theorem dX8_mendOf_108 : decode cX8_mendOf 108 = .ok (.ifCond .eq 30, 3) := by decide +kernel
theorem dX8_mendOf_111 : decode cX8_mendOf 111 = .ok (.iload_n 3, 1) := by decide +kernel
theorem dX8_mendOf_112 : decode cX8_mendOf 112 = .ok (.iconst (-1), 1) := by decide +kernel
theorem dX8_mendOf_113 : decode cX8_mendOf 113 = .ok (.if_icmp .ne 8, 3) := by decide +kernel
theorem dX8_mendOf_116 : decode cX8_mendOf 116 = .ok (.iload 5, 2) := by decide +kernel
theorem dX8_mendOf_118 : decode cX8_mendOf 118 = .ok (.goto 19, 3) := by decide +kernel
theorem dX8_mendOf_121 : decode cX8_mendOf 121 = .ok (.iload_n 3, 1) := by decide +kernel
theorem dX8_mendOf_122 : decode cX8_mendOf 122 = .ok (.iload 5, 2) := by decide +kernel
theorem dX8_mendOf_124 : decode cX8_mendOf 124 = .ok (.if_icmp .ge 12, 3) := by decide +kernel
theorem dX8_mendOf_127 : decode cX8_mendOf 127 = .ok (.aload_n 0, 1) := by decide +kernel
theorem dX8_mendOf_128 : decode cX8_mendOf 128 = .ok (.getfield 73, 3) := by decide +kernel
theorem dX8_mendOf_131 : decode cX8_mendOf 131 = .ok (.iload_n 3, 1) := by decide +kernel
theorem dX8_mendOf_132 : decode cX8_mendOf 132 = .ok (.iaload, 1) := by decide +kernel
theorem dX8_mendOf_133 : decode cX8_mendOf 133 = .ok (.goto 4, 3) := by decide +kernel
theorem dX8_mendOf_136 : decode cX8_mendOf 136 = .ok (.iconst (-1), 1) := by decide +kernel
theorem dX8_mendOf_137 : decode cX8_mendOf 137 = .ok (.ireturn, 1) := by decide +kernel
theorem dX8_mendOf_138 : decode cX8_mendOf 138 = .ok (.aload_n 0, 1) := by decide +kernel
theorem dX8_mendOf_139 : decode cX8_mendOf 139 = .ok (.iload 5, 2) := by decide +kernel
theorem dX8_mendOf_141 : decode cX8_mendOf 141 = .ok (.invokevirtual 267, 3) := by decide +kernel
theorem dX8_mendOf_144 : decode cX8_mendOf 144 = .ok (.istore 6, 2) := by decide +kernel
theorem dX8_mendOf_146 : decode cX8_mendOf 146 = .ok (.goto (-87), 3) := by decide +kernel
theorem dX8_mendOf_149 : decode cX8_mendOf 149 = .ok (.iinc 5 1, 3) := by decide +kernel
theorem dX8_mendOf_152 : decode cX8_mendOf 152 = .ok (.goto (-143), 3) := by decide +kernel
theorem dX8_mendOf_155 : decode cX8_mendOf 155 = .ok (.iconst (-1), 1) := by decide +kernel
theorem dX8_mendOf_156 : decode cX8_mendOf 156 = .ok (.ireturn, 1) := by decide +kernel
theorem dX8_mend_0 : decode cX8_mend 0 = .ok (.aload_n 0, 1) := by decide +kernel
theorem dX8_mend_1 : decode cX8_mend 1 = .ok (.invokevirtual 142, 3) := by decide +kernel
theorem dX8_mend_4 : decode cX8_mend 4 = .ok (.aload_n 0, 1) := by decide +kernel
theorem dX8_mend_5 : decode cX8_mend 5 = .ok (.iload_n 1, 1) := by decide +kernel
theorem dX8_mend_6 : decode cX8_mend 6 = .ok (.invokevirtual 148, 3) := by decide +kernel
theorem dX8_mend_9 : decode cX8_mend 9 = .ok (.ifCond .eq 34, 3) := by decide +kernel
theorem dX8_mend_12 : decode cX8_mend 12 = .ok (.iload_n 2, 1) := by decide +kernel
theorem dX8_mend_13 : decode cX8_mend 13 = .ok (.invokestatic 154, 3) := by decide +kernel
theorem dX8_mend_16 : decode cX8_mend 16 = .ok (.ifCond .eq 27, 3) := by decide +kernel
theorem dX8_mend_19 : decode cX8_mend 19 = .ok (.iload_n 3, 1) := by decide +kernel
theorem dX8_mend_20 : decode cX8_mend 20 = .ok (.i2l, 1) := by decide +kernel
theorem dX8_mend_21 : decode cX8_mend 21 = .ok (.ldc2_w 259, 3) := by decide +kernel
theorem dX8_mend_24 : decode cX8_mend 24 = .ok (.ldc2_w 107, 3) := by decide +kernel
theorem dX8_mend_27 : decode cX8_mend 27 = .ok (.invokestatic 94, 3) := by decide +kernel
theorem dX8_mend_30 : decode cX8_mend 30 = .ok (.ifCond .eq 13, 3) := by decide +kernel
theorem dX8_mend_33 : decode cX8_mend 33 = .ok (.aload_n 0, 1) := by decide +kernel
theorem dX8_mend_34 : decode cX8_mend 34 = .ok (.iload_n 1, 1) := by decide +kernel
theorem dX8_mend_35 : decode cX8_mend 35 = .ok (.iload_n 2, 1) := by decide +kernel
theorem dX8_mend_36 : decode cX8_mend 36 = .ok (.iload_n 3, 1) := by decide +kernel
theorem dX8_mend_37 : decode cX8_mend 37 = .ok (.invokevirtual 270, 3) := by decide +kernel
theorem dX8_mend_40 : decode cX8_mend 40 = .ok (.goto 5, 3) := by decide +kernel
theorem dX8_mend_43 : decode cX8_mend 43 = .ok (.bipush (-2), 2) := by decide +kernel
theorem dX8_mend_45 : decode cX8_mend 45 = .ok (.ireturn, 1) := by decide +kernel
theorem dX8_callOf_0 : decode cX8_callOf 0 = .ok (.iconst (-1), 1) := by decide +kernel
theorem dX8_callOf_1 : decode cX8_callOf 1 = .ok (.istore_n 3, 1) := by decide +kernel
theorem dX8_callOf_2 : decode cX8_callOf 2 = .ok (.iconst 0, 1) := by decide +kernel
theorem dX8_callOf_3 : decode cX8_callOf 3 = .ok (.istore 4, 2) := by decide +kernel
theorem dX8_callOf_5 : decode cX8_callOf 5 = .ok (.iconst 0, 1) := by decide +kernel
theorem dX8_callOf_6 : decode cX8_callOf 6 = .ok (.istore 5, 2) := by decide +kernel
theorem dX8_callOf_8 : decode cX8_callOf 8 = .ok (.iload 5, 2) := by decide +kernel
theorem dX8_callOf_10 : decode cX8_callOf 10 = .ok (.aload_n 0, 1) := by decide +kernel
theorem dX8_callOf_11 : decode cX8_callOf 11 = .ok (.getfield 151, 3) := by decide +kernel
theorem dX8_callOf_14 : decode cX8_callOf 14 = .ok (.if_icmp .ge 133, 3) := by decide +kernel
theorem dX8_callOf_17 : decode cX8_callOf 17 = .ok (.aload_n 0, 1) := by decide +kernel
theorem dX8_callOf_18 : decode cX8_callOf 18 = .ok (.iload_n 1, 1) := by decide +kernel
theorem dX8_callOf_19 : decode cX8_callOf 19 = .ok (.invokevirtual 218, 3) := by decide +kernel
theorem dX8_callOf_22 : decode cX8_callOf 22 = .ok (.iconst 0, 1) := by decide +kernel
theorem dX8_callOf_23 : decode cX8_callOf 23 = .ok (.istore 6, 2) := by decide +kernel
theorem dX8_callOf_25 : decode cX8_callOf 25 = .ok (.iconst 0, 1) := by decide +kernel
theorem dX8_callOf_26 : decode cX8_callOf 26 = .ok (.istore 7, 2) := by decide +kernel
theorem dX8_callOf_28 : decode cX8_callOf 28 = .ok (.iload 7, 2) := by decide +kernel
theorem dX8_callOf_30 : decode cX8_callOf 30 = .ok (.aload_n 0, 1) := by decide +kernel
theorem dX8_callOf_31 : decode cX8_callOf 31 = .ok (.getfield 28, 3) := by decide +kernel
theorem dX8_callOf_34 : decode cX8_callOf 34 = .ok (.iconst 0, 1) := by decide +kernel
theorem dX8_callOf_35 : decode cX8_callOf 35 = .ok (.iaload, 1) := by decide +kernel
theorem dX8_callOf_36 : decode cX8_callOf 36 = .ok (.if_icmp .ge 33, 3) := by decide +kernel
theorem dX8_callOf_39 : decode cX8_callOf 39 = .ok (.iload 6, 2) := by decide +kernel
theorem dX8_callOf_41 : decode cX8_callOf 41 = .ok (.ifCond .ne 15, 3) := by decide +kernel
theorem dX8_callOf_44 : decode cX8_callOf 44 = .ok (.aload_n 0, 1) := by decide +kernel
theorem dX8_callOf_45 : decode cX8_callOf 45 = .ok (.getfield 49, 3) := by decide +kernel
theorem dX8_callOf_48 : decode cX8_callOf 48 = .ok (.iload 7, 2) := by decide +kernel
theorem dX8_callOf_50 : decode cX8_callOf 50 = .ok (.iaload, 1) := by decide +kernel
theorem dX8_callOf_51 : decode cX8_callOf 51 = .ok (.iload 5, 2) := by decide +kernel
theorem dX8_callOf_53 : decode cX8_callOf 53 = .ok (.if_icmp .ne 7, 3) := by decide +kernel
theorem dX8_callOf_56 : decode cX8_callOf 56 = .ok (.iconst 1, 1) := by decide +kernel
theorem dX8_callOf_57 : decode cX8_callOf 57 = .ok (.goto 4, 3) := by decide +kernel
theorem dX8_callOf_60 : decode cX8_callOf 60 = .ok (.iconst 0, 1) := by decide +kernel
theorem dX8_callOf_61 : decode cX8_callOf 61 = .ok (.istore 6, 2) := by decide +kernel
theorem dX8_callOf_63 : decode cX8_callOf 63 = .ok (.iinc 7 1, 3) := by decide +kernel
theorem dX8_callOf_66 : decode cX8_callOf 66 = .ok (.goto (-38), 3) := by decide +kernel
theorem dX8_callOf_69 : decode cX8_callOf 69 = .ok (.iload 6, 2) := by decide +kernel
theorem dX8_callOf_71 : decode cX8_callOf 71 = .ok (.ifCond .eq 70, 3) := by decide +kernel
theorem dX8_callOf_74 : decode cX8_callOf 74 = .ok (.aload_n 0, 1) := by decide +kernel
theorem dX8_callOf_75 : decode cX8_callOf 75 = .ok (.iload 5, 2) := by decide +kernel
theorem dX8_callOf_77 : decode cX8_callOf 77 = .ok (.putfield 86, 3) := by decide +kernel
theorem dX8_callOf_80 : decode cX8_callOf 80 = .ok (.aload_n 0, 1) := by decide +kernel
theorem dX8_callOf_81 : decode cX8_callOf 81 = .ok (.iload_n 1, 1) := by decide +kernel
theorem dX8_callOf_82 : decode cX8_callOf 82 = .ok (.invokevirtual 218, 3) := by decide +kernel
theorem dX8_callOf_85 : decode cX8_callOf 85 = .ok (.aload_n 0, 1) := by decide +kernel
theorem dX8_callOf_86 : decode cX8_callOf 86 = .ok (.iconst (-1), 1) := by decide +kernel
theorem dX8_callOf_87 : decode cX8_callOf 87 = .ok (.putfield 86, 3) := by decide +kernel
theorem dX8_callOf_90 : decode cX8_callOf 90 = .ok (.aload_n 0, 1) := by decide +kernel
theorem dX8_callOf_91 : decode cX8_callOf 91 = .ok (.invokevirtual 256, 3) := by decide +kernel
theorem dX8_callOf_94 : decode cX8_callOf 94 = .ok (.istore 7, 2) := by decide +kernel
theorem dX8_callOf_96 : decode cX8_callOf 96 = .ok (.iload_n 3, 1) := by decide +kernel
theorem dX8_callOf_97 : decode cX8_callOf 97 = .ok (.iconst (-1), 1) := by decide +kernel
theorem dX8_callOf_98 : decode cX8_callOf 98 = .ok (.if_icmp .eq 10, 3) := by decide +kernel
theorem dX8_callOf_101 : decode cX8_callOf 101 = .ok (.iload 7, 2) := by decide +kernel
theorem dX8_callOf_103 : decode cX8_callOf 103 = .ok (.iload 4, 2) := by decide +kernel
theorem dX8_callOf_105 : decode cX8_callOf 105 = .ok (.if_icmp .le 7, 3) := by decide +kernel
theorem dX8_callOf_108 : decode cX8_callOf 108 = .ok (.iconst 1, 1) := by decide +kernel
theorem dX8_callOf_109 : decode cX8_callOf 109 = .ok (.goto 4, 3) := by decide +kernel
theorem dX8_callOf_112 : decode cX8_callOf 112 = .ok (.iconst 0, 1) := by decide +kernel
theorem dX8_callOf_113 : decode cX8_callOf 113 = .ok (.istore 8, 2) := by decide +kernel
theorem dX8_callOf_115 : decode cX8_callOf 115 = .ok (.iload 8, 2) := by decide +kernel
theorem dX8_callOf_117 : decode cX8_callOf 117 = .ok (.ifCond .eq 8, 3) := by decide +kernel
theorem dX8_callOf_120 : decode cX8_callOf 120 = .ok (.iload 5, 2) := by decide +kernel
theorem dX8_callOf_122 : decode cX8_callOf 122 = .ok (.goto 4, 3) := by decide +kernel
theorem dX8_callOf_125 : decode cX8_callOf 125 = .ok (.iload_n 3, 1) := by decide +kernel
theorem dX8_callOf_126 : decode cX8_callOf 126 = .ok (.istore_n 3, 1) := by decide +kernel
theorem dX8_callOf_127 : decode cX8_callOf 127 = .ok (.iload 8, 2) := by decide +kernel
theorem dX8_callOf_129 : decode cX8_callOf 129 = .ok (.ifCond .eq 8, 3) := by decide +kernel
theorem dX8_callOf_132 : decode cX8_callOf 132 = .ok (.iload 7, 2) := by decide +kernel
theorem dX8_callOf_134 : decode cX8_callOf 134 = .ok (.goto 5, 3) := by decide +kernel
theorem dX8_callOf_137 : decode cX8_callOf 137 = .ok (.iload 4, 2) := by decide +kernel
theorem dX8_callOf_139 : decode cX8_callOf 139 = .ok (.istore 4, 2) := by decide +kernel
theorem dX8_callOf_141 : decode cX8_callOf 141 = .ok (.iinc 5 1, 3) := by decide +kernel
theorem dX8_callOf_144 : decode cX8_callOf 144 = .ok (.goto (-136), 3) := by decide +kernel
theorem dX8_callOf_147 : decode cX8_callOf 147 = .ok (.iload_n 3, 1) := by decide +kernel
theorem dX8_callOf_148 : decode cX8_callOf 148 = .ok (.iconst (-1), 1) := by decide +kernel
theorem dX8_callOf_149 : decode cX8_callOf 149 = .ok (.if_icmp .eq 7, 3) := by decide +kernel
theorem dX8_callOf_152 : decode cX8_callOf 152 = .ok (.iload_n 2, 1) := by decide +kernel
theorem dX8_callOf_153 : decode cX8_callOf 153 = .ok (.ifCond .ne 7, 3) := by decide +kernel
theorem dX8_callOf_156 : decode cX8_callOf 156 = .ok (.iload_n 3, 1) := by decide +kernel
theorem dX8_callOf_157 : decode cX8_callOf 157 = .ok (.goto 12, 3) := by decide +kernel
theorem dX8_callOf_160 : decode cX8_callOf 160 = .ok (.iload 4, 2) := by decide +kernel
theorem dX8_callOf_162 : decode cX8_callOf 162 = .ok (.aload_n 0, 1) := by decide +kernel
theorem dX8_callOf_163 : decode cX8_callOf 163 = .ok (.iload_n 1, 1) := by decide +kernel
theorem dX8_callOf_164 : decode cX8_callOf 164 = .ok (.iconst (-1), 1) := by decide +kernel
theorem dX8_callOf_165 : decode cX8_callOf 165 = .ok (.invokevirtual 261, 3) := by decide +kernel
theorem dX8_callOf_168 : decode cX8_callOf 168 = .ok (.isub, 1) := by decide +kernel
theorem dX8_callOf_169 : decode cX8_callOf 169 = .ok (.ireturn, 1) := by decide +kernel
theorem dX8_call_0 : decode cX8_call 0 = .ok (.aload_n 0, 1) := by decide +kernel
theorem dX8_call_1 : decode cX8_call 1 = .ok (.invokevirtual 142, 3) := by decide +kernel
theorem dX8_call_4 : decode cX8_call 4 = .ok (.iload_n 1, 1) := by decide +kernel
theorem dX8_call_5 : decode cX8_call 5 = .ok (.invokestatic 154, 3) := by decide +kernel
theorem dX8_call_8 : decode cX8_call 8 = .ok (.ifCond .eq 19, 3) := by decide +kernel
theorem dX8_call_11 : decode cX8_call 11 = .ok (.iload_n 2, 1) := by decide +kernel
theorem dX8_call_12 : decode cX8_call 12 = .ok (.invokestatic 122, 3) := by decide +kernel
theorem dX8_call_15 : decode cX8_call 15 = .ok (.ifCond .eq 12, 3) := by decide +kernel
theorem dX8_call_18 : decode cX8_call 18 = .ok (.aload_n 0, 1) := by decide +kernel
theorem dX8_call_19 : decode cX8_call 19 = .ok (.iload_n 1, 1) := by decide +kernel
theorem dX8_call_20 : decode cX8_call 20 = .ok (.iload_n 2, 1) := by decide +kernel
theorem dX8_call_21 : decode cX8_call 21 = .ok (.invokevirtual 273, 3) := by decide +kernel
theorem dX8_call_24 : decode cX8_call 24 = .ok (.goto 6, 3) := by decide +kernel
theorem dX8_call_27 : decode cX8_call 27 = .ok (.sipush (-1002), 3) := by decide +kernel
theorem dX8_call_30 : decode cX8_call 30 = .ok (.ireturn, 1) := by decide +kernel
theorem dX8_seen_0 : decode cX8_seen 0 = .ok (.iload_n 1, 1) := by decide +kernel
theorem dX8_seen_1 : decode cX8_seen 1 = .ok (.invokestatic 154, 3) := by decide +kernel
theorem dX8_seen_4 : decode cX8_seen 4 = .ok (.ifCond .eq 22, 3) := by decide +kernel
theorem dX8_seen_7 : decode cX8_seen 7 = .ok (.iload_n 2, 1) := by decide +kernel
theorem dX8_seen_8 : decode cX8_seen 8 = .ok (.invokestatic 157, 3) := by decide +kernel
theorem dX8_seen_11 : decode cX8_seen 11 = .ok (.ifCond .eq 15, 3) := by decide +kernel
theorem dX8_seen_14 : decode cX8_seen 14 = .ok (.iload_n 3, 1) := by decide +kernel
theorem dX8_seen_15 : decode cX8_seen 15 = .ok (.i2l, 1) := by decide +kernel
theorem dX8_seen_16 : decode cX8_seen 16 = .ok (.lconst 0, 1) := by decide +kernel
theorem dX8_seen_17 : decode cX8_seen 17 = .ok (.ldc2_w 162, 3) := by decide +kernel
theorem dX8_seen_20 : decode cX8_seen 20 = .ok (.invokestatic 94, 3) := by decide +kernel
theorem dX8_seen_23 : decode cX8_seen 23 = .ok (.ifCond .ne 6, 3) := by decide +kernel
theorem dX8_seen_26 : decode cX8_seen 26 = .ok (.bipush (-2), 2) := by decide +kernel
theorem dX8_seen_28 : decode cX8_seen 28 = .ok (.ireturn, 1) := by decide +kernel
theorem dX8_seen_29 : decode cX8_seen 29 = .ok (.aload_n 0, 1) := by decide +kernel
theorem dX8_seen_30 : decode cX8_seen 30 = .ok (.getfield 276, 3) := by decide +kernel
theorem dX8_seen_33 : decode cX8_seen 33 = .ok (.bipush 8, 2) := by decide +kernel
theorem dX8_seen_35 : decode cX8_seen 35 = .ok (.if_icmp .ne 6, 3) := by decide +kernel
theorem dX8_seen_38 : decode cX8_seen 38 = .ok (.bipush (-4), 2) := by decide +kernel
theorem dX8_seen_40 : decode cX8_seen 40 = .ok (.ireturn, 1) := by decide +kernel
theorem dX8_seen_41 : decode cX8_seen 41 = .ok (.aload_n 0, 1) := by decide +kernel
theorem dX8_seen_42 : decode cX8_seen 42 = .ok (.getfield 76, 3) := by decide +kernel
theorem dX8_seen_45 : decode cX8_seen 45 = .ok (.iconst 3, 1) := by decide +kernel
theorem dX8_seen_46 : decode cX8_seen 46 = .ok (.aload_n 0, 1) := by decide +kernel
theorem dX8_seen_47 : decode cX8_seen 47 = .ok (.getfield 276, 3) := by decide +kernel
theorem dX8_seen_50 : decode cX8_seen 50 = .ok (.imul, 1) := by decide +kernel
theorem dX8_seen_51 : decode cX8_seen 51 = .ok (.iload_n 1, 1) := by decide +kernel
theorem dX8_seen_52 : decode cX8_seen 52 = .ok (.iastore, 1) := by decide +kernel
theorem dX8_seen_53 : decode cX8_seen 53 = .ok (.aload_n 0, 1) := by decide +kernel
theorem dX8_seen_54 : decode cX8_seen 54 = .ok (.getfield 76, 3) := by decide +kernel
theorem dX8_seen_57 : decode cX8_seen 57 = .ok (.iconst 3, 1) := by decide +kernel
theorem dX8_seen_58 : decode cX8_seen 58 = .ok (.aload_n 0, 1) := by decide +kernel
theorem dX8_seen_59 : decode cX8_seen 59 = .ok (.getfield 276, 3) := by decide +kernel
theorem dX8_seen_62 : decode cX8_seen 62 = .ok (.imul, 1) := by decide +kernel
theorem dX8_seen_63 : decode cX8_seen 63 = .ok (.iconst 1, 1) := by decide +kernel
theorem dX8_seen_64 : decode cX8_seen 64 = .ok (.iadd, 1) := by decide +kernel
theorem dX8_seen_65 : decode cX8_seen 65 = .ok (.iload_n 2, 1) := by decide +kernel
theorem dX8_seen_66 : decode cX8_seen 66 = .ok (.iastore, 1) := by decide +kernel
theorem dX8_seen_67 : decode cX8_seen 67 = .ok (.aload_n 0, 1) := by decide +kernel
theorem dX8_seen_68 : decode cX8_seen 68 = .ok (.getfield 76, 3) := by decide +kernel
theorem dX8_seen_71 : decode cX8_seen 71 = .ok (.iconst 3, 1) := by decide +kernel
theorem dX8_seen_72 : decode cX8_seen 72 = .ok (.aload_n 0, 1) := by decide +kernel
theorem dX8_seen_73 : decode cX8_seen 73 = .ok (.getfield 276, 3) := by decide +kernel
theorem dX8_seen_76 : decode cX8_seen 76 = .ok (.imul, 1) := by decide +kernel
theorem dX8_seen_77 : decode cX8_seen 77 = .ok (.iconst 2, 1) := by decide +kernel
theorem dX8_seen_78 : decode cX8_seen 78 = .ok (.iadd, 1) := by decide +kernel
theorem dX8_seen_79 : decode cX8_seen 79 = .ok (.iload_n 3, 1) := by decide +kernel
theorem dX8_seen_80 : decode cX8_seen 80 = .ok (.iastore, 1) := by decide +kernel
theorem dX8_seen_81 : decode cX8_seen 81 = .ok (.aload_n 0, 1) := by decide +kernel
theorem dX8_seen_82 : decode cX8_seen 82 = .ok (.dup, 1) := by decide +kernel
theorem dX8_seen_83 : decode cX8_seen 83 = .ok (.getfield 276, 3) := by decide +kernel
theorem dX8_seen_86 : decode cX8_seen 86 = .ok (.iconst 1, 1) := by decide +kernel
theorem dX8_seen_87 : decode cX8_seen 87 = .ok (.iadd, 1) := by decide +kernel
theorem dX8_seen_88 : decode cX8_seen 88 = .ok (.putfield 276, 3) := by decide +kernel
theorem dX8_seen_91 : decode cX8_seen 91 = .ok (.aload_n 0, 1) := by decide +kernel
theorem dX8_seen_92 : decode cX8_seen 92 = .ok (.getfield 276, 3) := by decide +kernel
theorem dX8_seen_95 : decode cX8_seen 95 = .ok (.ireturn, 1) := by decide +kernel
theorem dX8_forget_0 : decode cX8_forget 0 = .ok (.aload_n 0, 1) := by decide +kernel
theorem dX8_forget_1 : decode cX8_forget 1 = .ok (.getfield 276, 3) := by decide +kernel
theorem dX8_forget_4 : decode cX8_forget 4 = .ok (.istore_n 1, 1) := by decide +kernel
theorem dX8_forget_5 : decode cX8_forget 5 = .ok (.aload_n 0, 1) := by decide +kernel
theorem dX8_forget_6 : decode cX8_forget 6 = .ok (.iconst 0, 1) := by decide +kernel
theorem dX8_forget_7 : decode cX8_forget 7 = .ok (.putfield 276, 3) := by decide +kernel
theorem dX8_forget_10 : decode cX8_forget 10 = .ok (.iload_n 1, 1) := by decide +kernel
theorem dX8_forget_11 : decode cX8_forget 11 = .ok (.ireturn, 1) := by decide +kernel
theorem dX8_looksNow_0 : decode cX8_looksNow 0 = .ok (.aload_n 0, 1) := by decide +kernel
theorem dX8_looksNow_1 : decode cX8_looksNow 1 = .ok (.getfield 49, 3) := by decide +kernel
theorem dX8_looksNow_4 : decode cX8_looksNow 4 = .ok (.iload_n 1, 1) := by decide +kernel
theorem dX8_looksNow_5 : decode cX8_looksNow 5 = .ok (.iaload, 1) := by decide +kernel
theorem dX8_looksNow_6 : decode cX8_looksNow 6 = .ok (.iconst (-1), 1) := by decide +kernel
theorem dX8_looksNow_7 : decode cX8_looksNow 7 = .ok (.if_icmp .ne 12, 3) := by decide +kernel
theorem dX8_looksNow_10 : decode cX8_looksNow 10 = .ok (.aload_n 0, 1) := by decide +kernel
theorem dX8_looksNow_11 : decode cX8_looksNow 11 = .ok (.getfield 43, 3) := by decide +kernel
theorem dX8_looksNow_14 : decode cX8_looksNow 14 = .ok (.iload_n 1, 1) := by decide +kernel
theorem dX8_looksNow_15 : decode cX8_looksNow 15 = .ok (.iaload, 1) := by decide +kernel
theorem dX8_looksNow_16 : decode cX8_looksNow 16 = .ok (.goto 4, 3) := by decide +kernel
theorem dX8_looksNow_19 : decode cX8_looksNow 19 = .ok (.iconst 0, 1) := by decide +kernel
theorem dX8_looksNow_20 : decode cX8_looksNow 20 = .ok (.ireturn, 1) := by decide +kernel
theorem dX8_isSeen_0 : decode cX8_isSeen 0 = .ok (.iconst 1, 1) := by decide +kernel
theorem dX8_isSeen_1 : decode cX8_isSeen 1 = .ok (.istore_n 1, 1) := by decide +kernel
theorem dX8_isSeen_2 : decode cX8_isSeen 2 = .ok (.iconst 0, 1) := by decide +kernel
theorem dX8_isSeen_3 : decode cX8_isSeen 3 = .ok (.istore_n 2, 1) := by decide +kernel
theorem dX8_isSeen_4 : decode cX8_isSeen 4 = .ok (.iload_n 2, 1) := by decide +kernel
theorem dX8_isSeen_5 : decode cX8_isSeen 5 = .ok (.aload_n 0, 1) := by decide +kernel
theorem dX8_isSeen_6 : decode cX8_isSeen 6 = .ok (.getfield 276, 3) := by decide +kernel
theorem dX8_isSeen_9 : decode cX8_isSeen 9 = .ok (.if_icmp .ge 75, 3) := by decide +kernel
theorem dX8_isSeen_12 : decode cX8_isSeen 12 = .ok (.iload_n 1, 1) := by decide +kernel
theorem dX8_isSeen_13 : decode cX8_isSeen 13 = .ok (.ifCond .eq 71, 3) := by decide +kernel
theorem dX8_isSeen_16 : decode cX8_isSeen 16 = .ok (.aload_n 0, 1) := by decide +kernel
theorem dX8_isSeen_17 : decode cX8_isSeen 17 = .ok (.aload_n 0, 1) := by decide +kernel
theorem dX8_isSeen_18 : decode cX8_isSeen 18 = .ok (.getfield 76, 3) := by decide +kernel
theorem dX8_isSeen_21 : decode cX8_isSeen 21 = .ok (.iconst 3, 1) := by decide +kernel
theorem dX8_isSeen_22 : decode cX8_isSeen 22 = .ok (.iload_n 2, 1) := by decide +kernel
theorem dX8_isSeen_23 : decode cX8_isSeen 23 = .ok (.imul, 1) := by decide +kernel
theorem dX8_isSeen_24 : decode cX8_isSeen 24 = .ok (.iaload, 1) := by decide +kernel
theorem dX8_isSeen_25 : decode cX8_isSeen 25 = .ok (.invokevirtual 218, 3) := by decide +kernel
theorem dX8_isSeen_28 : decode cX8_isSeen 28 = .ok (.aload_n 0, 1) := by decide +kernel
theorem dX8_isSeen_29 : decode cX8_isSeen 29 = .ok (.aload_n 0, 1) := by decide +kernel
theorem dX8_isSeen_30 : decode cX8_isSeen 30 = .ok (.getfield 76, 3) := by decide +kernel
theorem dX8_isSeen_33 : decode cX8_isSeen 33 = .ok (.iconst 3, 1) := by decide +kernel
theorem dX8_isSeen_34 : decode cX8_isSeen 34 = .ok (.iload_n 2, 1) := by decide +kernel
theorem dX8_isSeen_35 : decode cX8_isSeen 35 = .ok (.imul, 1) := by decide +kernel
theorem dX8_isSeen_36 : decode cX8_isSeen 36 = .ok (.iconst 1, 1) := by decide +kernel
theorem dX8_isSeen_37 : decode cX8_isSeen 37 = .ok (.iadd, 1) := by decide +kernel
theorem dX8_isSeen_38 : decode cX8_isSeen 38 = .ok (.iaload, 1) := by decide +kernel
theorem dX8_isSeen_39 : decode cX8_isSeen 39 = .ok (.invokevirtual 145, 3) := by decide +kernel
theorem dX8_isSeen_42 : decode cX8_isSeen 42 = .ok (.ifCond .eq 34, 3) := by decide +kernel
theorem dX8_isSeen_45 : decode cX8_isSeen 45 = .ok (.aload_n 0, 1) := by decide +kernel
theorem dX8_isSeen_46 : decode cX8_isSeen 46 = .ok (.aload_n 0, 1) := by decide +kernel
theorem dX8_isSeen_47 : decode cX8_isSeen 47 = .ok (.getfield 76, 3) := by decide +kernel
theorem dX8_isSeen_50 : decode cX8_isSeen 50 = .ok (.iconst 3, 1) := by decide +kernel
theorem dX8_isSeen_51 : decode cX8_isSeen 51 = .ok (.iload_n 2, 1) := by decide +kernel
theorem dX8_isSeen_52 : decode cX8_isSeen 52 = .ok (.imul, 1) := by decide +kernel
theorem dX8_isSeen_53 : decode cX8_isSeen 53 = .ok (.iconst 1, 1) := by decide +kernel
theorem dX8_isSeen_54 : decode cX8_isSeen 54 = .ok (.iadd, 1) := by decide +kernel
theorem dX8_isSeen_55 : decode cX8_isSeen 55 = .ok (.iaload, 1) := by decide +kernel
theorem dX8_isSeen_56 : decode cX8_isSeen 56 = .ok (.invokevirtual 279, 3) := by decide +kernel
theorem dX8_isSeen_59 : decode cX8_isSeen 59 = .ok (.aload_n 0, 1) := by decide +kernel
theorem dX8_isSeen_60 : decode cX8_isSeen 60 = .ok (.getfield 76, 3) := by decide +kernel
theorem dX8_isSeen_63 : decode cX8_isSeen 63 = .ok (.iconst 3, 1) := by decide +kernel
theorem dX8_isSeen_64 : decode cX8_isSeen 64 = .ok (.iload_n 2, 1) := by decide +kernel
theorem dX8_isSeen_65 : decode cX8_isSeen 65 = .ok (.imul, 1) := by decide +kernel
theorem dX8_isSeen_66 : decode cX8_isSeen 66 = .ok (.iconst 2, 1) := by decide +kernel
theorem dX8_isSeen_67 : decode cX8_isSeen 67 = .ok (.iadd, 1) := by decide +kernel
theorem dX8_isSeen_68 : decode cX8_isSeen 68 = .ok (.iaload, 1) := by decide +kernel
theorem dX8_isSeen_69 : decode cX8_isSeen 69 = .ok (.if_icmp .ne 7, 3) := by decide +kernel
theorem dX8_isSeen_72 : decode cX8_isSeen 72 = .ok (.iconst 1, 1) := by decide +kernel
theorem dX8_isSeen_73 : decode cX8_isSeen 73 = .ok (.goto 4, 3) := by decide +kernel
theorem dX8_isSeen_76 : decode cX8_isSeen 76 = .ok (.iconst 0, 1) := by decide +kernel
theorem dX8_isSeen_77 : decode cX8_isSeen 77 = .ok (.istore_n 1, 1) := by decide +kernel
theorem dX8_isSeen_78 : decode cX8_isSeen 78 = .ok (.iinc 2 1, 3) := by decide +kernel
theorem dX8_isSeen_81 : decode cX8_isSeen 81 = .ok (.goto (-77), 3) := by decide +kernel
theorem dX8_isSeen_84 : decode cX8_isSeen 84 = .ok (.iload_n 1, 1) := by decide +kernel
theorem dX8_isSeen_85 : decode cX8_isSeen 85 = .ok (.ireturn, 1) := by decide +kernel
theorem dX8_neverOf_0 : decode cX8_neverOf 0 = .ok (.iconst 0, 1) := by decide +kernel
theorem dX8_neverOf_1 : decode cX8_neverOf 1 = .ok (.istore_n 2, 1) := by decide +kernel
theorem dX8_neverOf_2 : decode cX8_neverOf 2 = .ok (.iconst 0, 1) := by decide +kernel
theorem dX8_neverOf_3 : decode cX8_neverOf 3 = .ok (.istore_n 3, 1) := by decide +kernel
theorem dX8_neverOf_4 : decode cX8_neverOf 4 = .ok (.iload_n 3, 1) := by decide +kernel
theorem dX8_neverOf_5 : decode cX8_neverOf 5 = .ok (.iload_n 1, 1) := by decide +kernel
theorem dX8_neverOf_6 : decode cX8_neverOf 6 = .ok (.ifCond .ne 10, 3) := by decide +kernel
theorem dX8_neverOf_9 : decode cX8_neverOf 9 = .ok (.aload_n 0, 1) := by decide +kernel
theorem dX8_neverOf_10 : decode cX8_neverOf 10 = .ok (.getfield 151, 3) := by decide +kernel
theorem dX8_neverOf_13 : decode cX8_neverOf 13 = .ok (.goto 7, 3) := by decide +kernel
theorem dX8_neverOf_16 : decode cX8_neverOf 16 = .ok (.aload_n 0, 1) := by decide +kernel
theorem dX8_neverOf_17 : decode cX8_neverOf 17 = .ok (.getfield 171, 3) := by decide +kernel
theorem dX8_neverOf_20 : decode cX8_neverOf 20 = .ok (.if_icmp .ge 53, 3) := by decide +kernel
theorem dX8_neverOf_23 : decode cX8_neverOf 23 = .ok (.aload_n 0, 1) := by decide +kernel
theorem dX8_neverOf_24 : decode cX8_neverOf 24 = .ok (.iload_n 1, 1) := by decide +kernel
theorem dX8_neverOf_25 : decode cX8_neverOf 25 = .ok (.ifCond .ne 7, 3) := by decide +kernel
theorem dX8_neverOf_28 : decode cX8_neverOf 28 = .ok (.iload_n 3, 1) := by decide +kernel
theorem dX8_neverOf_29 : decode cX8_neverOf 29 = .ok (.goto 4, 3) := by decide +kernel
theorem dX8_neverOf_32 : decode cX8_neverOf 32 = .ok (.iconst (-1), 1) := by decide +kernel
theorem dX8_neverOf_33 : decode cX8_neverOf 33 = .ok (.putfield 86, 3) := by decide +kernel
theorem dX8_neverOf_36 : decode cX8_neverOf 36 = .ok (.aload_n 0, 1) := by decide +kernel
theorem dX8_neverOf_37 : decode cX8_neverOf 37 = .ok (.iload_n 1, 1) := by decide +kernel
theorem dX8_neverOf_38 : decode cX8_neverOf 38 = .ok (.iconst 1, 1) := by decide +kernel
theorem dX8_neverOf_39 : decode cX8_neverOf 39 = .ok (.if_icmp .ne 7, 3) := by decide +kernel
theorem dX8_neverOf_42 : decode cX8_neverOf 42 = .ok (.iload_n 3, 1) := by decide +kernel
theorem dX8_neverOf_43 : decode cX8_neverOf 43 = .ok (.goto 4, 3) := by decide +kernel
theorem dX8_neverOf_46 : decode cX8_neverOf 46 = .ok (.iconst (-1), 1) := by decide +kernel
theorem dX8_neverOf_47 : decode cX8_neverOf 47 = .ok (.putfield 89, 3) := by decide +kernel
theorem dX8_neverOf_50 : decode cX8_neverOf 50 = .ok (.iload_n 2, 1) := by decide +kernel
theorem dX8_neverOf_51 : decode cX8_neverOf 51 = .ok (.aload_n 0, 1) := by decide +kernel
theorem dX8_neverOf_52 : decode cX8_neverOf 52 = .ok (.invokevirtual 282, 3) := by decide +kernel
theorem dX8_neverOf_55 : decode cX8_neverOf 55 = .ok (.ifCond .eq 9, 3) := by decide +kernel
theorem dX8_neverOf_58 : decode cX8_neverOf 58 = .ok (.iconst 1, 1) := by decide +kernel
theorem dX8_neverOf_59 : decode cX8_neverOf 59 = .ok (.iload_n 3, 1) := by decide +kernel
theorem dX8_neverOf_60 : decode cX8_neverOf 60 = .ok (.ishl, 1) := by decide +kernel
theorem dX8_neverOf_61 : decode cX8_neverOf 61 = .ok (.goto 4, 3) := by decide +kernel
theorem dX8_neverOf_64 : decode cX8_neverOf 64 = .ok (.iconst 0, 1) := by decide +kernel
theorem dX8_neverOf_65 : decode cX8_neverOf 65 = .ok (.ior, 1) := by decide +kernel
theorem dX8_neverOf_66 : decode cX8_neverOf 66 = .ok (.istore_n 2, 1) := by decide +kernel
theorem dX8_neverOf_67 : decode cX8_neverOf 67 = .ok (.iinc 3 1, 3) := by decide +kernel
theorem dX8_neverOf_70 : decode cX8_neverOf 70 = .ok (.goto (-66), 3) := by decide +kernel
theorem dX8_neverOf_73 : decode cX8_neverOf 73 = .ok (.aload_n 0, 1) := by decide +kernel
theorem dX8_neverOf_74 : decode cX8_neverOf 74 = .ok (.iconst (-1), 1) := by decide +kernel
theorem dX8_neverOf_75 : decode cX8_neverOf 75 = .ok (.putfield 86, 3) := by decide +kernel
theorem dX8_neverOf_78 : decode cX8_neverOf 78 = .ok (.aload_n 0, 1) := by decide +kernel
theorem dX8_neverOf_79 : decode cX8_neverOf 79 = .ok (.iconst (-1), 1) := by decide +kernel
theorem dX8_neverOf_80 : decode cX8_neverOf 80 = .ok (.putfield 89, 3) := by decide +kernel
theorem dX8_neverOf_83 : decode cX8_neverOf 83 = .ok (.iload_n 2, 1) := by decide +kernel
theorem dX8_neverOf_84 : decode cX8_neverOf 84 = .ok (.ireturn, 1) := by decide +kernel
theorem dX8_never_0 : decode cX8_never 0 = .ok (.aload_n 0, 1) := by decide +kernel
theorem dX8_never_1 : decode cX8_never 1 = .ok (.invokevirtual 142, 3) := by decide +kernel
theorem dX8_never_4 : decode cX8_never 4 = .ok (.iload_n 1, 1) := by decide +kernel
theorem dX8_never_5 : decode cX8_never 5 = .ok (.invokestatic 122, 3) := by decide +kernel
theorem dX8_never_8 : decode cX8_never 8 = .ok (.ifCond .eq 11, 3) := by decide +kernel
theorem dX8_never_11 : decode cX8_never 11 = .ok (.aload_n 0, 1) := by decide +kernel
theorem dX8_never_12 : decode cX8_never 12 = .ok (.iload_n 1, 1) := by decide +kernel
theorem dX8_never_13 : decode cX8_never 13 = .ok (.invokevirtual 286, 3) := by decide +kernel
theorem dX8_never_16 : decode cX8_never 16 = .ok (.goto 5, 3) := by decide +kernel
theorem dX8_never_19 : decode cX8_never 19 = .ok (.bipush (-2), 2) := by decide +kernel
theorem dX8_never_21 : decode cX8_never 21 = .ok (.ireturn, 1) := by decide +kernel
theorem dX8_lookOf_0 : decode cX8_lookOf 0 = .ok (.aload_n 0, 1) := by decide +kernel
theorem dX8_lookOf_1 : decode cX8_lookOf 1 = .ok (.iconst 0, 1) := by decide +kernel
theorem dX8_lookOf_2 : decode cX8_lookOf 2 = .ok (.invokevirtual 286, 3) := by decide +kernel
