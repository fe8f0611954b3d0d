theorem dX7_behind_26 : decode cX7_behind 26 = .ok (.ifCond .ne 11, 3) := by decide +kernel
theorem dX7_behind_29 : decode cX7_behind 29 = .ok (.aload_n 3, 1) := by decide +kernel
theorem dX7_behind_30 : decode cX7_behind 30 = .ok (.iload_n 1, 1) := by decide +kernel
theorem dX7_behind_31 : decode cX7_behind 31 = .ok (.invokevirtual 175, 3) := by decide +kernel
theorem dX7_behind_34 : decode cX7_behind 34 = .ok (.goto 9, 3) := by decide +kernel
theorem dX7_behind_37 : decode cX7_behind 37 = .ok (.aload_n 3, 1) := by decide +kernel
theorem dX7_behind_38 : decode cX7_behind 38 = .ok (.getfield 178, 3) := by decide +kernel
theorem dX7_behind_41 : decode cX7_behind 41 = .ok (.iload_n 1, 1) := by decide +kernel
theorem dX7_behind_42 : decode cX7_behind 42 = .ok (.iaload, 1) := by decide +kernel
theorem dX7_behind_43 : decode cX7_behind 43 = .ok (.ireturn, 1) := by decide +kernel
theorem dX7_came_0 : decode cX7_came 0 = .ok (.iload_n 1, 1) := by decide +kernel
theorem dX7_came_1 : decode cX7_came 1 = .ok (.aload_n 0, 1) := by decide +kernel
theorem dX7_came_2 : decode cX7_came 2 = .ok (.getfield 30, 3) := by decide +kernel
theorem dX7_came_5 : decode cX7_came 5 = .ok (.getfield 119, 3) := by decide +kernel
theorem dX7_came_8 : decode cX7_came 8 = .ok (.getfield 140, 3) := by decide +kernel
theorem dX7_came_11 : decode cX7_came 11 = .ok (.invokestatic 83, 3) := by decide +kernel
theorem dX7_came_14 : decode cX7_came 14 = .ok (.ifCond .eq 11, 3) := by decide +kernel
theorem dX7_came_17 : decode cX7_came 17 = .ok (.iload_n 2, 1) := by decide +kernel
theorem dX7_came_18 : decode cX7_came 18 = .ok (.iconst 3, 1) := by decide +kernel
theorem dX7_came_19 : decode cX7_came 19 = .ok (.invokestatic 83, 3) := by decide +kernel
theorem dX7_came_22 : decode cX7_came 22 = .ok (.ifCond .ne 7, 3) := by decide +kernel
theorem dX7_came_25 : decode cX7_came 25 = .ok (.sipush (-1002), 3) := by decide +kernel
theorem dX7_came_28 : decode cX7_came 28 = .ok (.ireturn, 1) := by decide +kernel
theorem dX7_came_29 : decode cX7_came 29 = .ok (.aload_n 0, 1) := by decide +kernel
theorem dX7_came_30 : decode cX7_came 30 = .ok (.invokevirtual 159, 3) := by decide +kernel
theorem dX7_came_33 : decode cX7_came 33 = .ok (.astore_n 3, 1) := by decide +kernel
theorem dX7_came_34 : decode cX7_came 34 = .ok (.iload_n 2, 1) := by decide +kernel
theorem dX7_came_35 : decode cX7_came 35 = .ok (.ifCond .ne 10, 3) := by decide +kernel
theorem dX7_came_38 : decode cX7_came 38 = .ok (.aload_n 3, 1) := by decide +kernel
theorem dX7_came_39 : decode cX7_came 39 = .ok (.getfield 181, 3) := by decide +kernel
theorem dX7_came_42 : decode cX7_came 42 = .ok (.iload_n 1, 1) := by decide +kernel
theorem dX7_came_43 : decode cX7_came 43 = .ok (.iaload, 1) := by decide +kernel
theorem dX7_came_44 : decode cX7_came 44 = .ok (.ireturn, 1) := by decide +kernel
theorem dX7_came_45 : decode cX7_came 45 = .ok (.iload_n 2, 1) := by decide +kernel
theorem dX7_came_46 : decode cX7_came 46 = .ok (.iconst 1, 1) := by decide +kernel
theorem dX7_came_47 : decode cX7_came 47 = .ok (.if_icmp .ne 19, 3) := by decide +kernel
theorem dX7_came_50 : decode cX7_came 50 = .ok (.aload_n 3, 1) := by decide +kernel
theorem dX7_came_51 : decode cX7_came 51 = .ok (.getfield 184, 3) := by decide +kernel
theorem dX7_came_54 : decode cX7_came 54 = .ok (.iload_n 1, 1) := by decide +kernel
theorem dX7_came_55 : decode cX7_came 55 = .ok (.iaload, 1) := by decide +kernel
theorem dX7_came_56 : decode cX7_came 56 = .ok (.iconst (-1), 1) := by decide +kernel
theorem dX7_came_57 : decode cX7_came 57 = .ok (.if_icmp .ne 7, 3) := by decide +kernel
theorem dX7_came_60 : decode cX7_came 60 = .ok (.iconst 0, 1) := by decide +kernel
theorem dX7_came_61 : decode cX7_came 61 = .ok (.goto 4, 3) := by decide +kernel
theorem dX7_came_64 : decode cX7_came 64 = .ok (.iconst 1, 1) := by decide +kernel
theorem dX7_came_65 : decode cX7_came 65 = .ok (.ireturn, 1) := by decide +kernel
theorem dX7_came_66 : decode cX7_came 66 = .ok (.aload_n 3, 1) := by decide +kernel
theorem dX7_came_67 : decode cX7_came 67 = .ok (.getfield 187, 3) := by decide +kernel
theorem dX7_came_70 : decode cX7_came 70 = .ok (.iload_n 1, 1) := by decide +kernel
theorem dX7_came_71 : decode cX7_came 71 = .ok (.iaload, 1) := by decide +kernel
theorem dX7_came_72 : decode cX7_came 72 = .ok (.ireturn, 1) := by decide +kernel
theorem dX7_breaches_0 : decode cX7_breaches 0 = .ok (.iload_n 1, 1) := by decide +kernel
theorem dX7_breaches_1 : decode cX7_breaches 1 = .ok (.bipush 6, 2) := by decide +kernel
theorem dX7_breaches_3 : decode cX7_breaches 3 = .ok (.invokestatic 83, 3) := by decide +kernel
theorem dX7_breaches_6 : decode cX7_breaches 6 = .ok (.ifCond .ne 6, 3) := by decide +kernel
theorem dX7_breaches_9 : decode cX7_breaches 9 = .ok (.bipush (-2), 2) := by decide +kernel
theorem dX7_breaches_11 : decode cX7_breaches 11 = .ok (.ireturn, 1) := by decide +kernel
theorem dX7_breaches_12 : decode cX7_breaches 12 = .ok (.aload_n 0, 1) := by decide +kernel
theorem dX7_breaches_13 : decode cX7_breaches 13 = .ok (.invokevirtual 159, 3) := by decide +kernel
theorem dX7_breaches_16 : decode cX7_breaches 16 = .ok (.astore_n 2, 1) := by decide +kernel
theorem dX7_breaches_17 : decode cX7_breaches 17 = .ok (.iconst 0, 1) := by decide +kernel
theorem dX7_breaches_18 : decode cX7_breaches 18 = .ok (.istore_n 3, 1) := by decide +kernel
theorem dX7_breaches_19 : decode cX7_breaches 19 = .ok (.iconst 0, 1) := by decide +kernel
theorem dX7_breaches_20 : decode cX7_breaches 20 = .ok (.istore 4, 2) := by decide +kernel
theorem dX7_breaches_22 : decode cX7_breaches 22 = .ok (.iload 4, 2) := by decide +kernel
theorem dX7_breaches_24 : decode cX7_breaches 24 = .ok (.aload_n 0, 1) := by decide +kernel
theorem dX7_breaches_25 : decode cX7_breaches 25 = .ok (.getfield 30, 3) := by decide +kernel
theorem dX7_breaches_28 : decode cX7_breaches 28 = .ok (.getfield 119, 3) := by decide +kernel
theorem dX7_breaches_31 : decode cX7_breaches 31 = .ok (.getfield 140, 3) := by decide +kernel
theorem dX7_breaches_34 : decode cX7_breaches 34 = .ok (.if_icmp .ge 40, 3) := by decide +kernel
theorem dX7_breaches_37 : decode cX7_breaches 37 = .ok (.aload_n 2, 1) := by decide +kernel
theorem dX7_breaches_38 : decode cX7_breaches 38 = .ok (.getfield 184, 3) := by decide +kernel
theorem dX7_breaches_41 : decode cX7_breaches 41 = .ok (.iload 4, 2) := by decide +kernel
theorem dX7_breaches_43 : decode cX7_breaches 43 = .ok (.iaload, 1) := by decide +kernel
theorem dX7_breaches_44 : decode cX7_breaches 44 = .ok (.iconst (-1), 1) := by decide +kernel
theorem dX7_breaches_45 : decode cX7_breaches 45 = .ok (.if_icmp .eq 23, 3) := by decide +kernel
theorem dX7_breaches_48 : decode cX7_breaches 48 = .ok (.aload_n 0, 1) := by decide +kernel
theorem dX7_breaches_49 : decode cX7_breaches 49 = .ok (.getfield 30, 3) := by decide +kernel
theorem dX7_breaches_52 : decode cX7_breaches 52 = .ok (.getfield 119, 3) := by decide +kernel
theorem dX7_breaches_55 : decode cX7_breaches 55 = .ok (.iload 4, 2) := by decide +kernel
theorem dX7_breaches_57 : decode cX7_breaches 57 = .ok (.iconst 2, 1) := by decide +kernel
theorem dX7_breaches_58 : decode cX7_breaches 58 = .ok (.invokevirtual 172, 3) := by decide +kernel
theorem dX7_breaches_61 : decode cX7_breaches 61 = .ok (.iload_n 1, 1) := by decide +kernel
theorem dX7_breaches_62 : decode cX7_breaches 62 = .ok (.if_icmp .ne 6, 3) := by decide +kernel
theorem dX7_breaches_65 : decode cX7_breaches 65 = .ok (.iinc 3 1, 3) := by decide +kernel
theorem dX7_breaches_68 : decode cX7_breaches 68 = .ok (.iinc 4 1, 3) := by decide +kernel
theorem dX7_breaches_71 : decode cX7_breaches 71 = .ok (.goto (-49), 3) := by decide +kernel
theorem dX7_breaches_74 : decode cX7_breaches 74 = .ok (.iload_n 3, 1) := by decide +kernel
theorem dX7_breaches_75 : decode cX7_breaches 75 = .ok (.ireturn, 1) := by decide +kernel
theorem dX7_first_0 : decode cX7_first 0 = .ok (.aload_n 0, 1) := by decide +kernel
theorem dX7_first_1 : decode cX7_first 1 = .ok (.invokevirtual 159, 3) := by decide +kernel
theorem dX7_first_4 : decode cX7_first 4 = .ok (.astore_n 1, 1) := by decide +kernel
theorem dX7_first_5 : decode cX7_first 5 = .ok (.iconst (-1), 1) := by decide +kernel
theorem dX7_first_6 : decode cX7_first 6 = .ok (.istore_n 2, 1) := by decide +kernel
theorem dX7_first_7 : decode cX7_first 7 = .ok (.bipush 40, 2) := by decide +kernel
theorem dX7_first_9 : decode cX7_first 9 = .ok (.istore_n 3, 1) := by decide +kernel
theorem dX7_first_10 : decode cX7_first 10 = .ok (.iconst 0, 1) := by decide +kernel
theorem dX7_first_11 : decode cX7_first 11 = .ok (.istore 4, 2) := by decide +kernel
theorem dX7_first_13 : decode cX7_first 13 = .ok (.iload 4, 2) := by decide +kernel
theorem dX7_first_15 : decode cX7_first 15 = .ok (.aload_n 0, 1) := by decide +kernel
theorem dX7_first_16 : decode cX7_first 16 = .ok (.getfield 30, 3) := by decide +kernel
theorem dX7_first_19 : decode cX7_first 19 = .ok (.getfield 119, 3) := by decide +kernel
theorem dX7_first_22 : decode cX7_first 22 = .ok (.getfield 140, 3) := by decide +kernel
theorem dX7_first_25 : decode cX7_first 25 = .ok (.if_icmp .ge 36, 3) := by decide +kernel
theorem dX7_first_28 : decode cX7_first 28 = .ok (.aload_n 1, 1) := by decide +kernel
theorem dX7_first_29 : decode cX7_first 29 = .ok (.getfield 184, 3) := by decide +kernel
theorem dX7_first_32 : decode cX7_first 32 = .ok (.iload 4, 2) := by decide +kernel
theorem dX7_first_34 : decode cX7_first 34 = .ok (.iaload, 1) := by decide +kernel
theorem dX7_first_35 : decode cX7_first 35 = .ok (.istore 5, 2) := by decide +kernel
theorem dX7_first_37 : decode cX7_first 37 = .ok (.iload 5, 2) := by decide +kernel
theorem dX7_first_39 : decode cX7_first 39 = .ok (.iconst (-1), 1) := by decide +kernel
theorem dX7_first_40 : decode cX7_first 40 = .ok (.if_icmp .eq 15, 3) := by decide +kernel
theorem dX7_first_43 : decode cX7_first 43 = .ok (.iload 5, 2) := by decide +kernel
theorem dX7_first_45 : decode cX7_first 45 = .ok (.iload_n 3, 1) := by decide +kernel
theorem dX7_first_46 : decode cX7_first 46 = .ok (.if_icmp .ge 9, 3) := by decide +kernel
theorem dX7_first_49 : decode cX7_first 49 = .ok (.iload 4, 2) := by decide +kernel
theorem dX7_first_51 : decode cX7_first 51 = .ok (.istore_n 2, 1) := by decide +kernel
theorem dX7_first_52 : decode cX7_first 52 = .ok (.iload 5, 2) := by decide +kernel
theorem dX7_first_54 : decode cX7_first 54 = .ok (.istore_n 3, 1) := by decide +kernel
theorem dX7_first_55 : decode cX7_first 55 = .ok (.iinc 4 1, 3) := by decide +kernel
theorem dX7_first_58 : decode cX7_first 58 = .ok (.goto (-45), 3) := by decide +kernel
theorem dX7_first_61 : decode cX7_first 61 = .ok (.iload_n 2, 1) := by decide +kernel
theorem dX7_first_62 : decode cX7_first 62 = .ok (.ireturn, 1) := by decide +kernel
theorem dX7_serves_0 : decode cX7_serves 0 = .ok (.iload_n 1, 1) := by decide +kernel
theorem dX7_serves_1 : decode cX7_serves 1 = .ok (.bipush 40, 2) := by decide +kernel
theorem dX7_serves_3 : decode cX7_serves 3 = .ok (.invokestatic 83, 3) := by decide +kernel
theorem dX7_serves_6 : decode cX7_serves 6 = .ok (.ifCond .eq 11, 3) := by decide +kernel
theorem dX7_serves_9 : decode cX7_serves 9 = .ok (.aload_n 0, 1) := by decide +kernel
theorem dX7_serves_10 : decode cX7_serves 10 = .ok (.iload_n 2, 1) := by decide +kernel
theorem dX7_serves_11 : decode cX7_serves 11 = .ok (.invokevirtual 104, 3) := by decide +kernel
theorem dX7_serves_14 : decode cX7_serves 14 = .ok (.ifCond .ne 6, 3) := by decide +kernel
theorem dX7_serves_17 : decode cX7_serves 17 = .ok (.bipush (-2), 2) := by decide +kernel
theorem dX7_serves_19 : decode cX7_serves 19 = .ok (.ireturn, 1) := by decide +kernel
theorem dX7_serves_20 : decode cX7_serves 20 = .ok (.aload_n 0, 1) := by decide +kernel
theorem dX7_serves_21 : decode cX7_serves 21 = .ok (.invokevirtual 159, 3) := by decide +kernel
theorem dX7_serves_24 : decode cX7_serves 24 = .ok (.astore_n 3, 1) := by decide +kernel
theorem dX7_serves_25 : decode cX7_serves 25 = .ok (.iconst 0, 1) := by decide +kernel
theorem dX7_serves_26 : decode cX7_serves 26 = .ok (.istore 4, 2) := by decide +kernel
theorem dX7_serves_28 : decode cX7_serves 28 = .ok (.iconst 0, 1) := by decide +kernel
theorem dX7_serves_29 : decode cX7_serves 29 = .ok (.istore 5, 2) := by decide +kernel
theorem dX7_serves_31 : decode cX7_serves 31 = .ok (.iload 5, 2) := by decide +kernel
theorem dX7_serves_33 : decode cX7_serves 33 = .ok (.aload_n 0, 1) := by decide +kernel
theorem dX7_serves_34 : decode cX7_serves 34 = .ok (.getfield 22, 3) := by decide +kernel
theorem dX7_serves_37 : decode cX7_serves 37 = .ok (.getfield 190, 3) := by decide +kernel
theorem dX7_serves_40 : decode cX7_serves 40 = .ok (.if_icmp .ge 40, 3) := by decide +kernel
theorem dX7_serves_43 : decode cX7_serves 43 = .ok (.aload_n 0, 1) := by decide +kernel
theorem dX7_serves_44 : decode cX7_serves 44 = .ok (.iload 5, 2) := by decide +kernel
theorem dX7_serves_46 : decode cX7_serves 46 = .ok (.iload_n 2, 1) := by decide +kernel
theorem dX7_serves_47 : decode cX7_serves 47 = .ok (.aload_n 3, 1) := by decide +kernel
theorem dX7_serves_48 : decode cX7_serves 48 = .ok (.iload_n 1, 1) := by decide +kernel
theorem dX7_serves_49 : decode cX7_serves 49 = .ok (.iload_n 2, 1) := by decide +kernel
theorem dX7_serves_50 : decode cX7_serves 50 = .ok (.invokevirtual 163, 3) := by decide +kernel
theorem dX7_serves_53 : decode cX7_serves 53 = .ok (.aload_n 3, 1) := by decide +kernel
theorem dX7_serves_54 : decode cX7_serves 54 = .ok (.iload_n 1, 1) := by decide +kernel
theorem dX7_serves_55 : decode cX7_serves 55 = .ok (.iload_n 2, 1) := by decide +kernel
theorem dX7_serves_56 : decode cX7_serves 56 = .ok (.invokevirtual 166, 3) := by decide +kernel
theorem dX7_serves_59 : decode cX7_serves 59 = .ok (.invokevirtual 193, 3) := by decide +kernel
theorem dX7_serves_62 : decode cX7_serves 62 = .ok (.ifCond .eq 12, 3) := by decide +kernel
theorem dX7_serves_65 : decode cX7_serves 65 = .ok (.iload 4, 2) := by decide +kernel
theorem dX7_serves_67 : decode cX7_serves 67 = .ok (.iconst 1, 1) := by decide +kernel
theorem dX7_serves_68 : decode cX7_serves 68 = .ok (.iload 5, 2) := by decide +kernel
theorem dX7_serves_70 : decode cX7_serves 70 = .ok (.ishl, 1) := by decide +kernel
theorem dX7_serves_71 : decode cX7_serves 71 = .ok (.ior, 1) := by decide +kernel
theorem dX7_serves_72 : decode cX7_serves 72 = .ok (.istore 4, 2) := by decide +kernel
theorem dX7_serves_74 : decode cX7_serves 74 = .ok (.iinc 5 1, 3) := by decide +kernel
theorem dX7_serves_77 : decode cX7_serves 77 = .ok (.goto (-46), 3) := by decide +kernel
theorem dX7_serves_80 : decode cX7_serves 80 = .ok (.iload 4, 2) := by decide +kernel
theorem dX7_serves_82 : decode cX7_serves 82 = .ok (.ireturn, 1) := by decide +kernel
theorem dX7_best_0 : decode cX7_best 0 = .ok (.iload_n 1, 1) := by decide +kernel
theorem dX7_best_1 : decode cX7_best 1 = .ok (.bipush 40, 2) := by decide +kernel
theorem dX7_best_3 : decode cX7_best 3 = .ok (.invokestatic 83, 3) := by decide +kernel
theorem dX7_best_6 : decode cX7_best 6 = .ok (.ifCond .eq 17, 3) := by decide +kernel
theorem dX7_best_9 : decode cX7_best 9 = .ok (.iload_n 2, 1) := by decide +kernel
theorem dX7_best_10 : decode cX7_best 10 = .ok (.iconst (-1), 1) := by decide +kernel
theorem dX7_best_11 : decode cX7_best 11 = .ok (.if_icmp .eq 15, 3) := by decide +kernel
theorem dX7_best_14 : decode cX7_best 14 = .ok (.iload_n 2, 1) := by decide +kernel
theorem dX7_best_15 : decode cX7_best 15 = .ok (.bipush 8, 2) := by decide +kernel
theorem dX7_best_17 : decode cX7_best 17 = .ok (.invokestatic 83, 3) := by decide +kernel
theorem dX7_best_20 : decode cX7_best 20 = .ok (.ifCond .ne 6, 3) := by decide +kernel
theorem dX7_best_23 : decode cX7_best 23 = .ok (.bipush (-2), 2) := by decide +kernel
theorem dX7_best_25 : decode cX7_best 25 = .ok (.ireturn, 1) := by decide +kernel
theorem dX7_best_26 : decode cX7_best 26 = .ok (.aload_n 0, 1) := by decide +kernel
theorem dX7_best_27 : decode cX7_best 27 = .ok (.aload_n 0, 1) := by decide +kernel
theorem dX7_best_28 : decode cX7_best 28 = .ok (.invokevirtual 159, 3) := by decide +kernel
theorem dX7_best_31 : decode cX7_best 31 = .ok (.iload_n 1, 1) := by decide +kernel
theorem dX7_best_32 : decode cX7_best 32 = .ok (.invokevirtual 196, 3) := by decide +kernel
theorem dX7_best_35 : decode cX7_best 35 = .ok (.istore_n 3, 1) := by decide +kernel
theorem dX7_best_36 : decode cX7_best 36 = .ok (.iload_n 2, 1) := by decide +kernel
theorem dX7_best_37 : decode cX7_best 37 = .ok (.iconst (-1), 1) := by decide +kernel
theorem dX7_best_38 : decode cX7_best 38 = .ok (.if_icmp .ne 7, 3) := by decide +kernel
theorem dX7_best_41 : decode cX7_best 41 = .ok (.iload_n 3, 1) := by decide +kernel
theorem dX7_best_42 : decode cX7_best 42 = .ok (.goto 11, 3) := by decide +kernel
theorem dX7_best_45 : decode cX7_best 45 = .ok (.aload_n 0, 1) := by decide +kernel
theorem dX7_best_46 : decode cX7_best 46 = .ok (.getfield 61, 3) := by decide +kernel
theorem dX7_best_49 : decode cX7_best 49 = .ok (.iload_n 2, 1) := by decide +kernel
theorem dX7_best_50 : decode cX7_best 50 = .ok (.invokevirtual 200, 3) := by decide +kernel
theorem dX7_best_53 : decode cX7_best 53 = .ok (.ireturn, 1) := by decide +kernel
theorem dX7_mend_0 : decode cX7_mend 0 = .ok (.aload_n 0, 1) := by decide +kernel
theorem dX7_mend_1 : decode cX7_mend 1 = .ok (.iload_n 1, 1) := by decide +kernel
theorem dX7_mend_2 : decode cX7_mend 2 = .ok (.invokevirtual 112, 3) := by decide +kernel
theorem dX7_mend_5 : decode cX7_mend 5 = .ok (.ifCond .eq 25, 3) := by decide +kernel
theorem dX7_mend_8 : decode cX7_mend 8 = .ok (.iload_n 2, 1) := by decide +kernel
theorem dX7_mend_9 : decode cX7_mend 9 = .ok (.bipush 40, 2) := by decide +kernel
theorem dX7_mend_11 : decode cX7_mend 11 = .ok (.invokestatic 83, 3) := by decide +kernel
theorem dX7_mend_14 : decode cX7_mend 14 = .ok (.ifCond .eq 16, 3) := by decide +kernel
theorem dX7_mend_17 : decode cX7_mend 17 = .ok (.iload_n 3, 1) := by decide +kernel
theorem dX7_mend_18 : decode cX7_mend 18 = .ok (.iconst (-1), 1) := by decide +kernel
theorem dX7_mend_19 : decode cX7_mend 19 = .ok (.if_icmp .eq 14, 3) := by decide +kernel
theorem dX7_mend_22 : decode cX7_mend 22 = .ok (.iload_n 3, 1) := by decide +kernel
theorem dX7_mend_23 : decode cX7_mend 23 = .ok (.iconst 3, 1) := by decide +kernel
theorem dX7_mend_24 : decode cX7_mend 24 = .ok (.invokestatic 83, 3) := by decide +kernel
theorem dX7_mend_27 : decode cX7_mend 27 = .ok (.ifCond .ne 6, 3) := by decide +kernel
theorem dX7_mend_30 : decode cX7_mend 30 = .ok (.bipush (-2), 2) := by decide +kernel
theorem dX7_mend_32 : decode cX7_mend 32 = .ok (.ireturn, 1) := by decide +kernel
theorem dX7_mend_33 : decode cX7_mend 33 = .ok (.aload_n 0, 1) := by decide +kernel
theorem dX7_mend_34 : decode cX7_mend 34 = .ok (.invokevirtual 159, 3) := by decide +kernel
theorem dX7_mend_37 : decode cX7_mend 37 = .ok (.astore 4, 2) := by decide +kernel
theorem dX7_mend_39 : decode cX7_mend 39 = .ok (.iconst 0, 1) := by decide +kernel
theorem dX7_mend_40 : decode cX7_mend 40 = .ok (.istore 5, 2) := by decide +kernel
theorem dX7_mend_42 : decode cX7_mend 42 = .ok (.iload 5, 2) := by decide +kernel
theorem dX7_mend_44 : decode cX7_mend 44 = .ok (.iconst 3, 1) := by decide +kernel
theorem dX7_mend_45 : decode cX7_mend 45 = .ok (.if_icmp .gt 50, 3) := by decide +kernel
theorem dX7_mend_48 : decode cX7_mend 48 = .ok (.aload_n 0, 1) := by decide +kernel
theorem dX7_mend_49 : decode cX7_mend 49 = .ok (.aload 4, 2) := by decide +kernel
theorem dX7_mend_51 : decode cX7_mend 51 = .ok (.iload_n 1, 1) := by decide +kernel
theorem dX7_mend_52 : decode cX7_mend 52 = .ok (.iload_n 2, 1) := by decide +kernel
theorem dX7_mend_53 : decode cX7_mend 53 = .ok (.iload 5, 2) := by decide +kernel
theorem dX7_mend_55 : decode cX7_mend 55 = .ok (.invokevirtual 203, 3) := by decide +kernel
theorem dX7_mend_58 : decode cX7_mend 58 = .ok (.istore 6, 2) := by decide +kernel
theorem dX7_mend_60 : decode cX7_mend 60 = .ok (.iload 6, 2) := by decide +kernel
theorem dX7_mend_62 : decode cX7_mend 62 = .ok (.iconst (-1), 1) := by decide +kernel
theorem dX7_mend_63 : decode cX7_mend 63 = .ok (.if_icmp .eq 26, 3) := by decide +kernel
theorem dX7_mend_66 : decode cX7_mend 66 = .ok (.iload_n 3, 1) := by decide +kernel
theorem dX7_mend_67 : decode cX7_mend 67 = .ok (.iconst (-1), 1) := by decide +kernel
theorem dX7_mend_68 : decode cX7_mend 68 = .ok (.if_icmp .ne 8, 3) := by decide +kernel
theorem dX7_mend_71 : decode cX7_mend 71 = .ok (.iload 5, 2) := by decide +kernel
theorem dX7_mend_73 : decode cX7_mend 73 = .ok (.goto 15, 3) := by decide +kernel
theorem dX7_mend_76 : decode cX7_mend 76 = .ok (.iload_n 3, 1) := by decide +kernel
theorem dX7_mend_77 : decode cX7_mend 77 = .ok (.iload 5, 2) := by decide +kernel
theorem dX7_mend_79 : decode cX7_mend 79 = .ok (.if_icmp .ge 8, 3) := by decide +kernel
theorem dX7_mend_82 : decode cX7_mend 82 = .ok (.iload 6, 2) := by decide +kernel
theorem dX7_mend_84 : decode cX7_mend 84 = .ok (.goto 4, 3) := by decide +kernel
theorem dX7_mend_87 : decode cX7_mend 87 = .ok (.iconst (-1), 1) := by decide +kernel
theorem dX7_mend_88 : decode cX7_mend 88 = .ok (.ireturn, 1) := by decide +kernel
theorem dX7_mend_89 : decode cX7_mend 89 = .ok (.iinc 5 1, 3) := by decide +kernel
theorem dX7_mend_92 : decode cX7_mend 92 = .ok (.goto (-50), 3) := by decide +kernel
theorem dX7_mend_95 : decode cX7_mend 95 = .ok (.iconst (-1), 1) := by decide +kernel
theorem dX7_mend_96 : decode cX7_mend 96 = .ok (.ireturn, 1) := by decide +kernel
theorem dX7_call_0 : decode cX7_call 0 = .ok (.iload_n 1, 1) := by decide +kernel
theorem dX7_call_1 : decode cX7_call 1 = .ok (.bipush 40, 2) := by decide +kernel
theorem dX7_call_3 : decode cX7_call 3 = .ok (.invokestatic 83, 3) := by decide +kernel
theorem dX7_call_6 : decode cX7_call 6 = .ok (.ifCond .eq 11, 3) := by decide +kernel
theorem dX7_call_9 : decode cX7_call 9 = .ok (.iload_n 2, 1) := by decide +kernel
theorem dX7_call_10 : decode cX7_call 10 = .ok (.iconst 2, 1) := by decide +kernel
theorem dX7_call_11 : decode cX7_call 11 = .ok (.invokestatic 83, 3) := by decide +kernel
theorem dX7_call_14 : decode cX7_call 14 = .ok (.ifCond .ne 7, 3) := by decide +kernel
theorem dX7_call_17 : decode cX7_call 17 = .ok (.sipush (-1002), 3) := by decide +kernel
theorem dX7_call_20 : decode cX7_call 20 = .ok (.ireturn, 1) := by decide +kernel
theorem dX7_call_21 : decode cX7_call 21 = .ok (.aload_n 0, 1) := by decide +kernel
theorem dX7_call_22 : decode cX7_call 22 = .ok (.invokevirtual 159, 3) := by decide +kernel
theorem dX7_call_25 : decode cX7_call 25 = .ok (.astore_n 3, 1) := by decide +kernel
theorem dX7_call_26 : decode cX7_call 26 = .ok (.aload_n 0, 1) := by decide +kernel
theorem dX7_call_27 : decode cX7_call 27 = .ok (.aload_n 3, 1) := by decide +kernel
theorem dX7_call_28 : decode cX7_call 28 = .ok (.iload_n 1, 1) := by decide +kernel
theorem dX7_call_29 : decode cX7_call 29 = .ok (.invokevirtual 196, 3) := by decide +kernel
theorem dX7_call_32 : decode cX7_call 32 = .ok (.istore 4, 2) := by decide +kernel
theorem dX7_call_34 : decode cX7_call 34 = .ok (.iconst (-1), 1) := by decide +kernel
theorem dX7_call_35 : decode cX7_call 35 = .ok (.istore 5, 2) := by decide +kernel
theorem dX7_call_37 : decode cX7_call 37 = .ok (.iconst (-1), 1) := by decide +kernel
theorem dX7_call_38 : decode cX7_call 38 = .ok (.istore 6, 2) := by decide +kernel
theorem dX7_call_40 : decode cX7_call 40 = .ok (.iconst 0, 1) := by decide +kernel
theorem dX7_call_41 : decode cX7_call 41 = .ok (.istore 7, 2) := by decide +kernel
theorem dX7_call_43 : decode cX7_call 43 = .ok (.iload 7, 2) := by decide +kernel
theorem dX7_call_45 : decode cX7_call 45 = .ok (.aload_n 0, 1) := by decide +kernel
theorem dX7_call_46 : decode cX7_call 46 = .ok (.getfield 30, 3) := by decide +kernel
theorem dX7_call_49 : decode cX7_call 49 = .ok (.getfield 119, 3) := by decide +kernel
theorem dX7_call_52 : decode cX7_call 52 = .ok (.getfield 140, 3) := by decide +kernel
theorem dX7_call_55 : decode cX7_call 55 = .ok (.if_icmp .ge 64, 3) := by decide +kernel
theorem dX7_call_58 : decode cX7_call 58 = .ok (.aload_n 3, 1) := by decide +kernel
theorem dX7_call_59 : decode cX7_call 59 = .ok (.iload_n 1, 1) := by decide +kernel
theorem dX7_call_60 : decode cX7_call 60 = .ok (.aload_n 0, 1) := by decide +kernel
theorem dX7_call_61 : decode cX7_call 61 = .ok (.getfield 30, 3) := by decide +kernel
theorem dX7_call_64 : decode cX7_call 64 = .ok (.getfield 119, 3) := by decide +kernel
theorem dX7_call_67 : decode cX7_call 67 = .ok (.iload 7, 2) := by decide +kernel
theorem dX7_call_69 : decode cX7_call 69 = .ok (.iconst 1, 1) := by decide +kernel
theorem dX7_call_70 : decode cX7_call 70 = .ok (.invokevirtual 172, 3) := by decide +kernel
theorem dX7_call_73 : decode cX7_call 73 = .ok (.iload 7, 2) := by decide +kernel
theorem dX7_call_75 : decode cX7_call 75 = .ok (.invokevirtual 207, 3) := by decide +kernel
theorem dX7_call_78 : decode cX7_call 78 = .ok (.ifCond .ne 6, 3) := by decide +kernel
theorem dX7_call_81 : decode cX7_call 81 = .ok (.goto 32, 3) := by decide +kernel
theorem dX7_call_84 : decode cX7_call 84 = .ok (.aload_n 0, 1) := by decide +kernel
theorem dX7_call_85 : decode cX7_call 85 = .ok (.aload_n 0, 1) := by decide +kernel
theorem dX7_call_86 : decode cX7_call 86 = .ok (.iload 7, 2) := by decide +kernel
theorem dX7_call_88 : decode cX7_call 88 = .ok (.iload_n 1, 1) := by decide +kernel
theorem dX7_call_89 : decode cX7_call 89 = .ok (.invokevirtual 211, 3) := by decide +kernel
theorem dX7_call_92 : decode cX7_call 92 = .ok (.iload_n 1, 1) := by decide +kernel
theorem dX7_call_93 : decode cX7_call 93 = .ok (.invokevirtual 196, 3) := by decide +kernel
theorem dX7_call_96 : decode cX7_call 96 = .ok (.istore 8, 2) := by decide +kernel
theorem dX7_call_98 : decode cX7_call 98 = .ok (.iload 8, 2) := by decide +kernel
theorem dX7_call_100 : decode cX7_call 100 = .ok (.iload 6, 2) := by decide +kernel
theorem dX7_call_102 : decode cX7_call 102 = .ok (.if_icmp .le 11, 3) := by decide +kernel
theorem dX7_call_105 : decode cX7_call 105 = .ok (.iload 7, 2) := by decide +kernel
theorem dX7_call_107 : decode cX7_call 107 = .ok (.istore 5, 2) := by decide +kernel
theorem dX7_call_109 : decode cX7_call 109 = .ok (.iload 8, 2) := by decide +kernel
theorem dX7_call_111 : decode cX7_call 111 = .ok (.istore 6, 2) := by decide +kernel
theorem dX7_call_113 : decode cX7_call 113 = .ok (.iinc 7 1, 3) := by decide +kernel
theorem dX7_call_116 : decode cX7_call 116 = .ok (.goto (-73), 3) := by decide +kernel
theorem dX7_call_119 : decode cX7_call 119 = .ok (.iload 5, 2) := by decide +kernel
theorem dX7_call_121 : decode cX7_call 121 = .ok (.iconst (-1), 1) := by decide +kernel
theorem dX7_call_122 : decode cX7_call 122 = .ok (.if_icmp .ne 7, 3) := by decide +kernel
theorem dX7_call_125 : decode cX7_call 125 = .ok (.iconst (-1), 1) := by decide +kernel
theorem dX7_call_126 : decode cX7_call 126 = .ok (.goto 17, 3) := by decide +kernel
theorem dX7_call_129 : decode cX7_call 129 = .ok (.iload_n 2, 1) := by decide +kernel
theorem dX7_call_130 : decode cX7_call 130 = .ok (.ifCond .ne 8, 3) := by decide +kernel
theorem dX7_call_133 : decode cX7_call 133 = .ok (.iload 5, 2) := by decide +kernel
theorem dX7_call_135 : decode cX7_call 135 = .ok (.goto 8, 3) := by decide +kernel
theorem dX7_call_138 : decode cX7_call 138 = .ok (.iload 6, 2) := by decide +kernel
theorem dX7_call_140 : decode cX7_call 140 = .ok (.iload 4, 2) := by decide +kernel
theorem dX7_call_142 : decode cX7_call 142 = .ok (.isub, 1) := by decide +kernel
theorem dX7_call_143 : decode cX7_call 143 = .ok (.ireturn, 1) := by decide +kernel
theorem dX7_seen_0 : decode cX7_seen 0 = .ok (.iload_n 1, 1) := by decide +kernel
theorem dX7_seen_1 : decode cX7_seen 1 = .ok (.bipush 40, 2) := by decide +kernel
theorem dX7_seen_3 : decode cX7_seen 3 = .ok (.invokestatic 83, 3) := by decide +kernel
theorem dX7_seen_6 : decode cX7_seen 6 = .ok (.ifCond .eq 21, 3) := by decide +kernel
theorem dX7_seen_9 : decode cX7_seen 9 = .ok (.iload_n 2, 1) := by decide +kernel
theorem dX7_seen_10 : decode cX7_seen 10 = .ok (.bipush 8, 2) := by decide +kernel
theorem dX7_seen_12 : decode cX7_seen 12 = .ok (.invokestatic 83, 3) := by decide +kernel
theorem dX7_seen_15 : decode cX7_seen 15 = .ok (.ifCond .eq 12, 3) := by decide +kernel
theorem dX7_seen_18 : decode cX7_seen 18 = .ok (.iload_n 3, 1) := by decide +kernel
theorem dX7_seen_19 : decode cX7_seen 19 = .ok (.bipush 10, 2) := by decide +kernel
theorem dX7_seen_21 : decode cX7_seen 21 = .ok (.invokestatic 83, 3) := by decide +kernel
theorem dX7_seen_24 : decode cX7_seen 24 = .ok (.ifCond .ne 6, 3) := by decide +kernel
theorem dX7_seen_27 : decode cX7_seen 27 = .ok (.bipush (-2), 2) := by decide +kernel
theorem dX7_seen_29 : decode cX7_seen 29 = .ok (.ireturn, 1) := by decide +kernel
theorem dX7_seen_30 : decode cX7_seen 30 = .ok (.aload_n 0, 1) := by decide +kernel
theorem dX7_seen_31 : decode cX7_seen 31 = .ok (.getfield 37, 3) := by decide +kernel
theorem dX7_seen_34 : decode cX7_seen 34 = .ok (.invokevirtual 122, 3) := by decide +kernel
theorem dX7_seen_37 : decode cX7_seen 37 = .ok (.ifCond .eq 8, 3) := by decide +kernel
theorem dX7_seen_40 : decode cX7_seen 40 = .ok (.bipush (-4), 2) := by decide +kernel
theorem dX7_seen_42 : decode cX7_seen 42 = .ok (.goto 14, 3) := by decide +kernel
theorem dX7_seen_45 : decode cX7_seen 45 = .ok (.aload_n 0, 1) := by decide +kernel
theorem dX7_seen_46 : decode cX7_seen 46 = .ok (.getfield 37, 3) := by decide +kernel
theorem dX7_seen_49 : decode cX7_seen 49 = .ok (.iload_n 1, 1) := by decide +kernel
theorem dX7_seen_50 : decode cX7_seen 50 = .ok (.iload_n 2, 1) := by decide +kernel
theorem dX7_seen_51 : decode cX7_seen 51 = .ok (.iload_n 3, 1) := by decide +kernel
theorem dX7_seen_52 : decode cX7_seen 52 = .ok (.iconst 0, 1) := by decide +kernel
theorem dX7_seen_53 : decode cX7_seen 53 = .ok (.invokevirtual 126, 3) := by decide +kernel
theorem dX7_seen_56 : decode cX7_seen 56 = .ok (.ireturn, 1) := by decide +kernel
theorem dX7_forget_0 : decode cX7_forget 0 = .ok (.aload_n 0, 1) := by decide +kernel
theorem dX7_forget_1 : decode cX7_forget 1 = .ok (.getfield 37, 3) := by decide +kernel
theorem dX7_forget_4 : decode cX7_forget 4 = .ok (.getfield 140, 3) := by decide +kernel
theorem dX7_forget_7 : decode cX7_forget 7 = .ok (.istore_n 1, 1) := by decide +kernel
theorem dX7_forget_8 : decode cX7_forget 8 = .ok (.aload_n 0, 1) := by decide +kernel
theorem dX7_forget_9 : decode cX7_forget 9 = .ok (.getfield 37, 3) := by decide +kernel
theorem dX7_forget_12 : decode cX7_forget 12 = .ok (.invokevirtual 215, 3) := by decide +kernel
theorem dX7_forget_15 : decode cX7_forget 15 = .ok (.iload_n 1, 1) := by decide +kernel
theorem dX7_forget_16 : decode cX7_forget 16 = .ok (.ireturn, 1) := by decide +kernel
theorem dX7_never_0 : decode cX7_never 0 = .ok (.iload_n 1, 1) := by decide +kernel
theorem dX7_never_1 : decode cX7_never 1 = .ok (.iconst 2, 1) := by decide +kernel
theorem dX7_never_2 : decode cX7_never 2 = .ok (.invokestatic 83, 3) := by decide +kernel
theorem dX7_never_5 : decode cX7_never 5 = .ok (.ifCond .ne 6, 3) := by decide +kernel
theorem dX7_never_8 : decode cX7_never 8 = .ok (.bipush (-2), 2) := by decide +kernel
theorem dX7_never_10 : decode cX7_never 10 = .ok (.ireturn, 1) := by decide +kernel
theorem dX7_never_11 : decode cX7_never 11 = .ok (.iconst 0, 1) := by decide +kernel
theorem dX7_never_12 : decode cX7_never 12 = .ok (.istore_n 2, 1) := by decide +kernel
theorem dX7_never_13 : decode cX7_never 13 = .ok (.iload_n 1, 1) := by decide +kernel
theorem dX7_never_14 : decode cX7_never 14 = .ok (.ifCond .ne 16, 3) := by decide +kernel
theorem dX7_never_17 : decode cX7_never 17 = .ok (.aload_n 0, 1) := by decide +kernel
theorem dX7_never_18 : decode cX7_never 18 = .ok (.getfield 30, 3) := by decide +kernel
theorem dX7_never_21 : decode cX7_never 21 = .ok (.getfield 119, 3) := by decide +kernel
theorem dX7_never_24 : decode cX7_never 24 = .ok (.getfield 140, 3) := by decide +kernel
theorem dX7_never_27 : decode cX7_never 27 = .ok (.goto 13, 3) := by decide +kernel
theorem dX7_never_30 : decode cX7_never 30 = .ok (.aload_n 0, 1) := by decide +kernel
theorem dX7_never_31 : decode cX7_never 31 = .ok (.getfield 30, 3) := by decide +kernel
theorem dX7_never_34 : decode cX7_never 34 = .ok (.getfield 137, 3) := by decide +kernel
theorem dX7_never_37 : decode cX7_never 37 = .ok (.getfield 140, 3) := by decide +kernel
theorem dX7_never_40 : decode cX7_never 40 = .ok (.istore_n 3, 1) := by decide +kernel
theorem dX7_never_41 : decode cX7_never 41 = .ok (.aload_n 0, 1) := by decide +kernel
theorem dX7_never_42 : decode cX7_never 42 = .ok (.invokevirtual 218, 3) := by decide +kernel
theorem dX7_never_45 : decode cX7_never 45 = .ok (.istore 4, 2) := by decide +kernel
theorem dX7_never_47 : decode cX7_never 47 = .ok (.iconst 0, 1) := by decide +kernel
theorem dX7_never_48 : decode cX7_never 48 = .ok (.istore 5, 2) := by decide +kernel
theorem dX7_never_50 : decode cX7_never 50 = .ok (.iload 5, 2) := by decide +kernel
theorem dX7_never_52 : decode cX7_never 52 = .ok (.iload_n 3, 1) := by decide +kernel
theorem dX7_never_53 : decode cX7_never 53 = .ok (.if_icmp .ge 50, 3) := by decide +kernel
theorem dX7_never_56 : decode cX7_never 56 = .ok (.iload_n 1, 1) := by decide +kernel
theorem dX7_never_57 : decode cX7_never 57 = .ok (.ifCond .ne 14, 3) := by decide +kernel
theorem dX7_never_60 : decode cX7_never 60 = .ok (.aload_n 0, 1) := by decide +kernel
theorem dX7_never_61 : decode cX7_never 61 = .ok (.iload 5, 2) := by decide +kernel
theorem dX7_never_63 : decode cX7_never 63 = .ok (.iload 4, 2) := by decide +kernel
theorem dX7_never_65 : decode cX7_never 65 = .ok (.invokevirtual 211, 3) := by decide +kernel
theorem dX7_never_68 : decode cX7_never 68 = .ok (.goto 11, 3) := by decide +kernel
theorem dX7_never_71 : decode cX7_never 71 = .ok (.aload_n 0, 1) := by decide +kernel
theorem dX7_never_72 : decode cX7_never 72 = .ok (.iload 5, 2) := by decide +kernel
theorem dX7_never_74 : decode cX7_never 74 = .ok (.iload 4, 2) := by decide +kernel
theorem dX7_never_76 : decode cX7_never 76 = .ok (.invokevirtual 222, 3) := by decide +kernel
theorem dX7_never_79 : decode cX7_never 79 = .ok (.astore 6, 2) := by decide +kernel
theorem dX7_never_81 : decode cX7_never 81 = .ok (.aload_n 0, 1) := by decide +kernel
theorem dX7_never_82 : decode cX7_never 82 = .ok (.aload 6, 2) := by decide +kernel
theorem dX7_never_84 : decode cX7_never 84 = .ok (.invokevirtual 225, 3) := by decide +kernel
theorem dX7_never_87 : decode cX7_never 87 = .ok (.ifCond .eq 10, 3) := by decide +kernel
theorem dX7_never_90 : decode cX7_never 90 = .ok (.iload_n 2, 1) := by decide +kernel
theorem dX7_never_91 : decode cX7_never 91 = .ok (.iconst 1, 1) := by decide +kernel
theorem dX7_never_92 : decode cX7_never 92 = .ok (.iload 5, 2) := by decide +kernel
theorem dX7_never_94 : decode cX7_never 94 = .ok (.ishl, 1) := by decide +kernel
theorem dX7_never_95 : decode cX7_never 95 = .ok (.ior, 1) := by decide +kernel
theorem dX7_never_96 : decode cX7_never 96 = .ok (.istore_n 2, 1) := by decide +kernel
theorem dX7_never_97 : decode cX7_never 97 = .ok (.iinc 5 1, 3) := by decide +kernel
theorem dX7_never_100 : decode cX7_never 100 = .ok (.goto (-50), 3) := by decide +kernel
theorem dX7_never_103 : decode cX7_never 103 = .ok (.iload_n 2, 1) := by decide +kernel
theorem dX7_never_104 : decode cX7_never 104 = .ok (.ireturn, 1) := by decide +kernel
theorem dX7_look_0 : decode cX7_look 0 = .ok (.iload_n 1, 1) := by decide +kernel
theorem dX7_look_1 : decode cX7_look 1 = .ok (.bipush 40, 2) := by decide +kernel
theorem dX7_look_3 : decode cX7_look 3 = .ok (.invokestatic 83, 3) := by decide +kernel
theorem dX7_look_6 : decode cX7_look 6 = .ok (.ifCond .ne 6, 3) := by decide +kernel
theorem dX7_look_9 : decode cX7_look 9 = .ok (.bipush (-2), 2) := by decide +kernel
theorem dX7_look_11 : decode cX7_look 11 = .ok (.ireturn, 1) := by decide +kernel
theorem dX7_look_12 : decode cX7_look 12 = .ok (.aload_n 0, 1) := by decide +kernel
theorem dX7_look_13 : decode cX7_look 13 = .ok (.getfield 65, 3) := by decide +kernel
theorem dX7_look_16 : decode cX7_look 16 = .ok (.iconst 0, 1) := by decide +kernel
theorem dX7_look_17 : decode cX7_look 17 = .ok (.invokestatic 229, 3) := by decide +kernel
theorem dX7_look_20 : decode cX7_look 20 = .ok (.iload_n 1, 1) := by decide +kernel
theorem dX7_look_21 : decode cX7_look 21 = .ok (.aload_n 0, 1) := by decide +kernel
theorem dX7_look_22 : decode cX7_look 22 = .ok (.invokevirtual 218, 3) := by decide +kernel
theorem dX7_look_25 : decode cX7_look 25 = .ok (.invokestatic 235, 3) := by decide +kernel
theorem dX7_look_28 : decode cX7_look 28 = .ok (.istore_n 2, 1) := by decide +kernel
theorem dX7_look_29 : decode cX7_look 29 = .ok (.iconst 0, 1) := by decide +kernel
theorem dX7_look_30 : decode cX7_look 30 = .ok (.istore_n 3, 1) := by decide +kernel
theorem dX7_look_31 : decode cX7_look 31 = .ok (.iload_n 3, 1) := by decide +kernel
theorem dX7_look_32 : decode cX7_look 32 = .ok (.aload_n 0, 1) := by decide +kernel
theorem dX7_look_33 : decode cX7_look 33 = .ok (.getfield 30, 3) := by decide +kernel
theorem dX7_look_36 : decode cX7_look 36 = .ok (.getfield 119, 3) := by decide +kernel
theorem dX7_look_39 : decode cX7_look 39 = .ok (.getfield 140, 3) := by decide +kernel
theorem dX7_look_42 : decode cX7_look 42 = .ok (.if_icmp .ge 33, 3) := by decide +kernel
theorem dX7_look_45 : decode cX7_look 45 = .ok (.aload_n 0, 1) := by decide +kernel
theorem dX7_look_46 : decode cX7_look 46 = .ok (.iload_n 3, 1) := by decide +kernel
theorem dX7_look_47 : decode cX7_look 47 = .ok (.iload_n 2, 1) := by decide +kernel
theorem dX7_look_48 : decode cX7_look 48 = .ok (.invokevirtual 211, 3) := by decide +kernel
theorem dX7_look_51 : decode cX7_look 51 = .ok (.astore 4, 2) := by decide +kernel
theorem dX7_look_53 : decode cX7_look 53 = .ok (.aload_n 0, 1) := by decide +kernel
theorem dX7_look_54 : decode cX7_look 54 = .ok (.aload 4, 2) := by decide +kernel
theorem dX7_look_56 : decode cX7_look 56 = .ok (.invokevirtual 225, 3) := by decide +kernel
theorem dX7_look_59 : decode cX7_look 59 = .ok (.ifCond .eq 10, 3) := by decide +kernel
theorem dX7_look_62 : decode cX7_look 62 = .ok (.aload_n 0, 1) := by decide +kernel
theorem dX7_look_63 : decode cX7_look 63 = .ok (.aload 4, 2) := by decide +kernel
theorem dX7_look_65 : decode cX7_look 65 = .ok (.iload_n 1, 1) := by decide +kernel
theorem dX7_look_66 : decode cX7_look 66 = .ok (.invokevirtual 240, 3) := by decide +kernel
theorem dX7_look_69 : decode cX7_look 69 = .ok (.iinc 3 1, 3) := by decide +kernel
theorem dX7_look_72 : decode cX7_look 72 = .ok (.goto (-41), 3) := by decide +kernel
theorem dX7_look_75 : decode cX7_look 75 = .ok (.iconst (-1), 1) := by decide +kernel
theorem dX7_look_76 : decode cX7_look 76 = .ok (.istore_n 3, 1) := by decide +kernel
theorem dX7_look_77 : decode cX7_look 77 = .ok (.bipush 13, 2) := by decide +kernel
theorem dX7_look_79 : decode cX7_look 79 = .ok (.istore 4, 2) := by decide +kernel
theorem dX7_look_81 : decode cX7_look 81 = .ok (.iconst 0, 1) := by decide +kernel
theorem dX7_look_82 : decode cX7_look 82 = .ok (.istore 5, 2) := by decide +kernel
theorem dX7_look_84 : decode cX7_look 84 = .ok (.iload 5, 2) := by decide +kernel
theorem dX7_look_86 : decode cX7_look 86 = .ok (.aload_n 0, 1) := by decide +kernel
theorem dX7_look_87 : decode cX7_look 87 = .ok (.getfield 16, 3) := by decide +kernel
theorem dX7_look_90 : decode cX7_look 90 = .ok (.getfield 190, 3) := by decide +kernel
theorem dX7_look_93 : decode cX7_look 93 = .ok (.if_icmp .ge 31, 3) := by decide +kernel
theorem dX7_look_96 : decode cX7_look 96 = .ok (.aload_n 0, 1) := by decide +kernel
theorem dX7_look_97 : decode cX7_look 97 = .ok (.iload 5, 2) := by decide +kernel
theorem dX7_look_99 : decode cX7_look 99 = .ok (.invokevirtual 244, 3) := by decide +kernel
theorem dX7_look_102 : decode cX7_look 102 = .ok (.istore 6, 2) := by decide +kernel
theorem dX7_look_104 : decode cX7_look 104 = .ok (.iload 6, 2) := by decide +kernel
theorem dX7_look_106 : decode cX7_look 106 = .ok (.iload 4, 2) := by decide +kernel
theorem dX7_look_108 : decode cX7_look 108 = .ok (.if_icmp .ge 10, 3) := by decide +kernel
theorem dX7_look_111 : decode cX7_look 111 = .ok (.iload 5, 2) := by decide +kernel
theorem dX7_look_113 : decode cX7_look 113 = .ok (.istore_n 3, 1) := by decide +kernel
theorem dX7_look_114 : decode cX7_look 114 = .ok (.iload 6, 2) := by decide +kernel
theorem dX7_look_116 : decode cX7_look 116 = .ok (.istore 4, 2) := by decide +kernel
theorem dX7_look_118 : decode cX7_look 118 = .ok (.iinc 5 1, 3) := by decide +kernel
theorem dX7_look_121 : decode cX7_look 121 = .ok (.goto (-37), 3) := by decide +kernel
theorem dX7_look_124 : decode cX7_look 124 = .ok (.iload_n 3, 1) := by decide +kernel
theorem dX7_look_125 : decode cX7_look 125 = .ok (.ireturn, 1) := by decide +kernel
theorem dX7_moths_0 : decode cX7_moths 0 = .ok (.iload_n 1, 1) := by decide +kernel
theorem dX7_moths_1 : decode cX7_moths 1 = .ok (.bipush 17, 2) := by decide +kernel
theorem dX7_moths_3 : decode cX7_moths 3 = .ok (.invokestatic 83, 3) := by decide +kernel
theorem dX7_moths_6 : decode cX7_moths 6 = .ok (.ifCond .eq 29, 3) := by decide +kernel
theorem dX7_moths_9 : decode cX7_moths 9 = .ok (.iload_n 2, 1) := by decide +kernel
theorem dX7_moths_10 : decode cX7_moths 10 = .ok (.bipush 40, 2) := by decide +kernel
theorem dX7_moths_12 : decode cX7_moths 12 = .ok (.invokestatic 83, 3) := by decide +kernel
theorem dX7_moths_15 : decode cX7_moths 15 = .ok (.ifCond .eq 20, 3) := by decide +kernel
theorem dX7_moths_18 : decode cX7_moths 18 = .ok (.aload_n 0, 1) := by decide +kernel
theorem dX7_moths_19 : decode cX7_moths 19 = .ok (.iload_n 3, 1) := by decide +kernel
theorem dX7_moths_20 : decode cX7_moths 20 = .ok (.invokevirtual 112, 3) := by decide +kernel
theorem dX7_moths_23 : decode cX7_moths 23 = .ok (.ifCond .eq 12, 3) := by decide +kernel
theorem dX7_moths_26 : decode cX7_moths 26 = .ok (.iload 4, 2) := by decide +kernel
theorem dX7_moths_28 : decode cX7_moths 28 = .ok (.iconst 2, 1) := by decide +kernel
theorem dX7_moths_29 : decode cX7_moths 29 = .ok (.invokestatic 83, 3) := by decide +kernel
theorem dX7_moths_32 : decode cX7_moths 32 = .ok (.ifCond .ne 7, 3) := by decide +kernel
theorem dX7_moths_35 : decode cX7_moths 35 = .ok (.ldc2_w 247, 3) := by decide +kernel
theorem dX7_moths_38 : decode cX7_moths 38 = .ok (.lreturn, 1) := by decide +kernel
theorem dX7_moths_39 : decode cX7_moths 39 = .ok (.aload_n 0, 1) := by decide +kernel
theorem dX7_moths_40 : decode cX7_moths 40 = .ok (.invokevirtual 159, 3) := by decide +kernel
theorem dX7_moths_43 : decode cX7_moths 43 = .ok (.astore 5, 2) := by decide +kernel
theorem dX7_moths_45 : decode cX7_moths 45 = .ok (.lconst 1, 1) := by decide +kernel
theorem dX7_moths_46 : decode cX7_moths 46 = .ok (.lstore 6, 2) := by decide +kernel
theorem dX7_moths_48 : decode cX7_moths 48 = .ok (.lconst 1, 1) := by decide +kernel
theorem dX7_moths_49 : decode cX7_moths 49 = .ok (.lstore 8, 2) := by decide +kernel
theorem dX7_moths_51 : decode cX7_moths 51 = .ok (.iconst 0, 1) := by decide +kernel
theorem dX7_moths_52 : decode cX7_moths 52 = .ok (.istore 10, 2) := by decide +kernel
theorem dX7_moths_54 : decode cX7_moths 54 = .ok (.iload 10, 2) := by decide +kernel
theorem dX7_moths_56 : decode cX7_moths 56 = .ok (.aload_n 0, 1) := by decide +kernel
theorem dX7_moths_57 : decode cX7_moths 57 = .ok (.getfield 16, 3) := by decide +kernel
theorem dX7_moths_60 : decode cX7_moths 60 = .ok (.getfield 190, 3) := by decide +kernel
theorem dX7_moths_63 : decode cX7_moths 63 = .ok (.if_icmp .ge 49, 3) := by decide +kernel
theorem dX7_moths_66 : decode cX7_moths 66 = .ok (.aload 5, 2) := by decide +kernel
theorem dX7_moths_68 : decode cX7_moths 68 = .ok (.iload_n 2, 1) := by decide +kernel
theorem dX7_moths_69 : decode cX7_moths 69 = .ok (.iload 10, 2) := by decide +kernel
theorem dX7_moths_71 : decode cX7_moths 71 = .ok (.invokevirtual 169, 3) := by decide +kernel
theorem dX7_moths_74 : decode cX7_moths 74 = .ok (.iconst (-1), 1) := by decide +kernel
theorem dX7_moths_75 : decode cX7_moths 75 = .ok (.if_icmp .ne 31, 3) := by decide +kernel
theorem dX7_moths_78 : decode cX7_moths 78 = .ok (.lload 6, 2) := by decide +kernel
theorem dX7_moths_80 : decode cX7_moths 80 = .ok (.bipush 16, 2) := by decide +kernel
theorem dX7_moths_82 : decode cX7_moths 82 = .ok (.aload_n 0, 1) := by decide +kernel
theorem dX7_moths_83 : decode cX7_moths 83 = .ok (.aload 5, 2) := by decide +kernel
theorem dX7_moths_85 : decode cX7_moths 85 = .ok (.iload_n 3, 1) := by decide +kernel
theorem dX7_moths_86 : decode cX7_moths 86 = .ok (.iload_n 2, 1) := by decide +kernel
theorem dX7_moths_87 : decode cX7_moths 87 = .ok (.iload 10, 2) := by decide +kernel
theorem dX7_moths_89 : decode cX7_moths 89 = .ok (.iload_n 1, 1) := by decide +kernel
theorem dX7_moths_90 : decode cX7_moths 90 = .ok (.invokevirtual 249, 3) := by decide +kernel
theorem dX7_moths_93 : decode cX7_moths 93 = .ok (.isub, 1) := by decide +kernel
theorem dX7_moths_94 : decode cX7_moths 94 = .ok (.i2l, 1) := by decide +kernel
theorem dX7_moths_95 : decode cX7_moths 95 = .ok (.lmul, 1) := by decide +kernel
theorem dX7_moths_96 : decode cX7_moths 96 = .ok (.lstore 6, 2) := by decide +kernel
theorem dX7_moths_98 : decode cX7_moths 98 = .ok (.lload 8, 2) := by decide +kernel
theorem dX7_moths_100 : decode cX7_moths 100 = .ok (.ldc2_w 253, 3) := by decide +kernel
theorem dX7_moths_103 : decode cX7_moths 103 = .ok (.lmul, 1) := by decide +kernel
theorem dX7_moths_104 : decode cX7_moths 104 = .ok (.lstore 8, 2) := by decide +kernel
theorem dX7_moths_106 : decode cX7_moths 106 = .ok (.iinc 10 1, 3) := by decide +kernel
theorem dX7_moths_109 : decode cX7_moths 109 = .ok (.goto (-55), 3) := by decide +kernel
theorem dX7_moths_112 : decode cX7_moths 112 = .ok (.lload 8, 2) := by decide +kernel
theorem dX7_moths_114 : decode cX7_moths 114 = .ok (.lload 6, 2) := by decide +kernel
theorem dX7_moths_116 : decode cX7_moths 116 = .ok (.lsub, 1) := by decide +kernel
theorem dX7_moths_117 : decode cX7_moths 117 = .ok (.lstore 10, 2) := by decide +kernel
theorem dX7_moths_119 : decode cX7_moths 119 = .ok (.iconst 0, 1) := by decide +kernel
theorem dX7_moths_120 : decode cX7_moths 120 = .ok (.istore 12, 2) := by decide +kernel
theorem dX7_moths_122 : decode cX7_moths 122 = .ok (.iload 12, 2) := by decide +kernel
theorem dX7_moths_124 : decode cX7_moths 124 = .ok (.bipush 32, 2) := by decide +kernel
theorem dX7_moths_126 : decode cX7_moths 126 = .ok (.if_icmp .ge 47, 3) := by decide +kernel
theorem dX7_moths_129 : decode cX7_moths 129 = .ok (.lload 8, 2) := by decide +kernel
theorem dX7_moths_131 : decode cX7_moths 131 = .ok (.ldc2_w 255, 3) := by decide +kernel
theorem dX7_moths_134 : decode cX7_moths 134 = .ok (.lrem, 1) := by decide +kernel
theorem dX7_moths_135 : decode cX7_moths 135 = .ok (.lconst 0, 1) := by decide +kernel
theorem dX7_moths_136 : decode cX7_moths 136 = .ok (.lcmp, 1) := by decide +kernel
theorem dX7_moths_137 : decode cX7_moths 137 = .ok (.ifCond .ne 36, 3) := by decide +kernel
theorem dX7_moths_140 : decode cX7_moths 140 = .ok (.lload 10, 2) := by decide +kernel
theorem dX7_moths_142 : decode cX7_moths 142 = .ok (.ldc2_w 255, 3) := by decide +kernel
theorem dX7_moths_145 : decode cX7_moths 145 = .ok (.lrem, 1) := by decide +kernel
theorem dX7_moths_146 : decode cX7_moths 146 = .ok (.lconst 0, 1) := by decide +kernel
theorem dX7_moths_147 : decode cX7_moths 147 = .ok (.lcmp, 1) := by decide +kernel
theorem dX7_moths_148 : decode cX7_moths 148 = .ok (.ifCond .ne 25, 3) := by decide +kernel
theorem dX7_moths_151 : decode cX7_moths 151 = .ok (.lload 10, 2) := by decide +kernel
theorem dX7_moths_153 : decode cX7_moths 153 = .ok (.ldc2_w 255, 3) := by decide +kernel
theorem dX7_moths_156 : decode cX7_moths 156 = .ok (.ldiv, 1) := by decide +kernel
theorem dX7_moths_157 : decode cX7_moths 157 = .ok (.lstore 10, 2) := by decide +kernel
theorem dX7_moths_159 : decode cX7_moths 159 = .ok (.lload 8, 2) := by decide +kernel
theorem dX7_moths_161 : decode cX7_moths 161 = .ok (.ldc2_w 255, 3) := by decide +kernel
theorem dX7_moths_164 : decode cX7_moths 164 = .ok (.ldiv, 1) := by decide +kernel
theorem dX7_moths_165 : decode cX7_moths 165 = .ok (.lstore 8, 2) := by decide +kernel
theorem dX7_moths_167 : decode cX7_moths 167 = .ok (.iinc 12 1, 3) := by decide +kernel
theorem dX7_moths_170 : decode cX7_moths 170 = .ok (.goto (-48), 3) := by decide +kernel
theorem dX7_moths_173 : decode cX7_moths 173 = .ok (.iload 4, 2) := by decide +kernel
theorem dX7_moths_175 : decode cX7_moths 175 = .ok (.ifCond .ne 8, 3) := by decide +kernel
theorem dX7_moths_178 : decode cX7_moths 178 = .ok (.lload 10, 2) := by decide +kernel
theorem dX7_moths_180 : decode cX7_moths 180 = .ok (.goto 5, 3) := by decide +kernel
theorem dX7_moths_183 : decode cX7_moths 183 = .ok (.lload 8, 2) := by decide +kernel
theorem dX7_moths_185 : decode cX7_moths 185 = .ok (.lreturn, 1) := by decide +kernel
theorem dX7_run_0 : decode cX7_run 0 = .ok (.iload_n 2, 1) := by decide +kernel
theorem dX7_run_1 : decode cX7_run 1 = .ok (.iconst 1, 1) := by decide +kernel
theorem dX7_run_2 : decode cX7_run 2 = .ok (.if_icmp .lt 17, 3) := by decide +kernel
theorem dX7_run_5 : decode cX7_run 5 = .ok (.iload_n 2, 1) := by decide +kernel
theorem dX7_run_6 : decode cX7_run 6 = .ok (.bipush 40, 2) := by decide +kernel
theorem dX7_run_8 : decode cX7_run 8 = .ok (.if_icmp .gt 11, 3) := by decide +kernel
theorem dX7_run_11 : decode cX7_run 11 = .ok (.iload_n 3, 1) := by decide +kernel
theorem dX7_run_12 : decode cX7_run 12 = .ok (.iconst 2, 1) := by decide +kernel
theorem dX7_run_13 : decode cX7_run 13 = .ok (.invokestatic 83, 3) := by decide +kernel
theorem dX7_run_16 : decode cX7_run 16 = .ok (.ifCond .ne 6, 3) := by decide +kernel
theorem dX7_run_19 : decode cX7_run 19 = .ok (.bipush (-2), 2) := by decide +kernel
theorem dX7_run_21 : decode cX7_run 21 = .ok (.ireturn, 1) := by decide +kernel
theorem dX7_run_22 : decode cX7_run 22 = .ok (.aload_n 0, 1) := by decide +kernel
theorem dX7_run_23 : decode cX7_run 23 = .ok (.getfield 16, 3) := by decide +kernel
theorem dX7_run_26 : decode cX7_run 26 = .ok (.getfield 190, 3) := by decide +kernel
theorem dX7_run_29 : decode cX7_run 29 = .ok (.ifCond .ne 5, 3) := by decide +kernel
theorem dX7_run_32 : decode cX7_run 32 = .ok (.iconst 0, 1) := by decide +kernel
theorem dX7_run_33 : decode cX7_run 33 = .ok (.ireturn, 1) := by decide +kernel
theorem dX7_run_34 : decode cX7_run 34 = .ok (.aload_n 0, 1) := by decide +kernel
theorem dX7_run_35 : decode cX7_run 35 = .ok (.getfield 52, 3) := by decide +kernel
theorem dX7_run_38 : decode cX7_run 38 = .ok (.aload_n 0, 1) := by decide +kernel
theorem dX7_run_39 : decode cX7_run 39 = .ok (.getfield 30, 3) := by decide +kernel
theorem dX7_run_42 : decode cX7_run 42 = .ok (.invokevirtual 257, 3) := by decide +kernel
theorem dX7_run_45 : decode cX7_run 45 = .ok (.iload_n 1, 1) := by decide +kernel
theorem dX7_run_46 : decode cX7_run 46 = .ok (.istore 4, 2) := by decide +kernel
theorem dX7_run_48 : decode cX7_run 48 = .ok (.iconst 0, 1) := by decide +kernel
theorem dX7_run_49 : decode cX7_run 49 = .ok (.istore 5, 2) := by decide +kernel
theorem dX7_run_51 : decode cX7_run 51 = .ok (.iload 5, 2) := by decide +kernel
theorem dX7_run_53 : decode cX7_run 53 = .ok (.iload_n 2, 1) := by decide +kernel
theorem dX7_run_54 : decode cX7_run 54 = .ok (.if_icmp .ge 62, 3) := by decide +kernel
theorem dX7_run_57 : decode cX7_run 57 = .ok (.iload 4, 2) := by decide +kernel
theorem dX7_run_59 : decode cX7_run 59 = .ok (.invokestatic 261, 3) := by decide +kernel
theorem dX7_run_62 : decode cX7_run 62 = .ok (.istore 4, 2) := by decide +kernel
theorem dX7_run_64 : decode cX7_run 64 = .ok (.iload 4, 2) := by decide +kernel
theorem dX7_run_66 : decode cX7_run 66 = .ok (.aload_n 0, 1) := by decide +kernel
theorem dX7_run_67 : decode cX7_run 67 = .ok (.getfield 16, 3) := by decide +kernel
theorem dX7_run_70 : decode cX7_run 70 = .ok (.getfield 190, 3) := by decide +kernel
theorem dX7_run_73 : decode cX7_run 73 = .ok (.invokestatic 264, 3) := by decide +kernel
theorem dX7_run_76 : decode cX7_run 76 = .ok (.istore 6, 2) := by decide +kernel
theorem dX7_run_78 : decode cX7_run 78 = .ok (.iload 4, 2) := by decide +kernel
theorem dX7_run_80 : decode cX7_run 80 = .ok (.invokestatic 261, 3) := by decide +kernel
theorem dX7_run_83 : decode cX7_run 83 = .ok (.istore 4, 2) := by decide +kernel
theorem dX7_run_85 : decode cX7_run 85 = .ok (.aload_n 0, 1) := by decide +kernel
theorem dX7_run_86 : decode cX7_run 86 = .ok (.getfield 52, 3) := by decide +kernel
theorem dX7_run_89 : decode cX7_run 89 = .ok (.getfield 119, 3) := by decide +kernel
theorem dX7_run_92 : decode cX7_run 92 = .ok (.iload 5, 2) := by decide +kernel
theorem dX7_run_94 : decode cX7_run 94 = .ok (.iload 6, 2) := by decide +kernel
theorem dX7_run_96 : decode cX7_run 96 = .ok (.iconst 0, 1) := by decide +kernel
theorem dX7_run_97 : decode cX7_run 97 = .ok (.iload 4, 2) := by decide +kernel
theorem dX7_run_99 : decode cX7_run 99 = .ok (.bipush 9, 2) := by decide +kernel
theorem dX7_run_101 : decode cX7_run 101 = .ok (.invokestatic 264, 3) := by decide +kernel
theorem dX7_run_104 : decode cX7_run 104 = .ok (.iconst 1, 1) := by decide +kernel
theorem dX7_run_105 : decode cX7_run 105 = .ok (.iadd, 1) := by decide +kernel
theorem dX7_run_106 : decode cX7_run 106 = .ok (.invokevirtual 126, 3) := by decide +kernel
theorem dX7_run_109 : decode cX7_run 109 = .ok (.pop, 1) := by decide +kernel
theorem dX7_run_110 : decode cX7_run 110 = .ok (.iinc 5 1, 3) := by decide +kernel
theorem dX7_run_113 : decode cX7_run 113 = .ok (.goto (-62), 3) := by decide +kernel
theorem dX7_run_116 : decode cX7_run 116 = .ok (.aload_n 0, 1) := by decide +kernel
theorem dX7_run_117 : decode cX7_run 117 = .ok (.getfield 55, 3) := by decide +kernel
theorem dX7_run_120 : decode cX7_run 120 = .ok (.aload_n 0, 1) := by decide +kernel
theorem dX7_run_121 : decode cX7_run 121 = .ok (.getfield 16, 3) := by decide +kernel
theorem dX7_run_124 : decode cX7_run 124 = .ok (.aload_n 0, 1) := by decide +kernel
theorem dX7_run_125 : decode cX7_run 125 = .ok (.getfield 52, 3) := by decide +kernel
theorem dX7_run_128 : decode cX7_run 128 = .ok (.iload_n 2, 1) := by decide +kernel
theorem dX7_run_129 : decode cX7_run 129 = .ok (.iconst 1, 1) := by decide +kernel
theorem dX7_run_130 : decode cX7_run 130 = .ok (.isub, 1) := by decide +kernel
theorem dX7_run_131 : decode cX7_run 131 = .ok (.invokevirtual 267, 3) := by decide +kernel
theorem dX7_run_134 : decode cX7_run 134 = .ok (.iload_n 3, 1) := by decide +kernel
theorem dX7_run_135 : decode cX7_run 135 = .ok (.ifCond .ne 16, 3) := by decide +kernel
theorem dX7_run_138 : decode cX7_run 138 = .ok (.aload_n 0, 1) := by decide +kernel
theorem dX7_run_139 : decode cX7_run 139 = .ok (.getfield 55, 3) := by decide +kernel
theorem dX7_run_142 : decode cX7_run 142 = .ok (.iload_n 2, 1) := by decide +kernel
theorem dX7_run_143 : decode cX7_run 143 = .ok (.iconst 1, 1) := by decide +kernel
theorem dX7_run_144 : decode cX7_run 144 = .ok (.isub, 1) := by decide +kernel
theorem dX7_run_145 : decode cX7_run 145 = .ok (.invokevirtual 175, 3) := by decide +kernel
theorem dX7_run_148 : decode cX7_run 148 = .ok (.goto 30, 3) := by decide +kernel
theorem dX7_run_151 : decode cX7_run 151 = .ok (.aload_n 0, 1) := by decide +kernel
theorem dX7_run_152 : decode cX7_run 152 = .ok (.getfield 55, 3) := by decide +kernel
theorem dX7_run_155 : decode cX7_run 155 = .ok (.aload_n 0, 1) := by decide +kernel
theorem dX7_run_156 : decode cX7_run 156 = .ok (.getfield 30, 3) := by decide +kernel
theorem dX7_run_159 : decode cX7_run 159 = .ok (.getfield 119, 3) := by decide +kernel
theorem dX7_run_162 : decode cX7_run 162 = .ok (.getfield 140, 3) := by decide +kernel
theorem dX7_run_165 : decode cX7_run 165 = .ok (.aload_n 0, 1) := by decide +kernel
theorem dX7_run_166 : decode cX7_run 166 = .ok (.getfield 52, 3) := by decide +kernel
theorem dX7_run_169 : decode cX7_run 169 = .ok (.getfield 119, 3) := by decide +kernel
theorem dX7_run_172 : decode cX7_run 172 = .ok (.getfield 140, 3) := by decide +kernel
theorem dX7_run_175 : decode cX7_run 175 = .ok (.invokevirtual 271, 3) := by decide +kernel
theorem dX7_run_178 : decode cX7_run 178 = .ok (.ireturn, 1) := by decide +kernel
theorem dX7_sheet_0 : decode cX7_sheet 0 = .ok (.iload_n 1, 1) := by decide +kernel
theorem dX7_sheet_1 : decode cX7_sheet 1 = .ok (.iconst 4, 1) := by decide +kernel
theorem dX7_sheet_2 : decode cX7_sheet 2 = .ok (.invokestatic 83, 3) := by decide +kernel
theorem dX7_sheet_5 : decode cX7_sheet 5 = .ok (.ifCond .eq 17, 3) := by decide +kernel
theorem dX7_sheet_8 : decode cX7_sheet 8 = .ok (.iload_n 2, 1) := by decide +kernel
theorem dX7_sheet_9 : decode cX7_sheet 9 = .ok (.iconst 3, 1) := by decide +kernel
theorem dX7_sheet_10 : decode cX7_sheet 10 = .ok (.invokestatic 83, 3) := by decide +kernel
theorem dX7_sheet_13 : decode cX7_sheet 13 = .ok (.ifCond .eq 9, 3) := by decide +kernel
theorem dX7_sheet_16 : decode cX7_sheet 16 = .ok (.iload_n 3, 1) := by decide +kernel
theorem dX7_sheet_17 : decode cX7_sheet 17 = .ok (.bipush 60, 2) := by decide +kernel
theorem dX7_sheet_19 : decode cX7_sheet 19 = .ok (.if_icmp .le 6, 3) := by decide +kernel
theorem dX7_sheet_22 : decode cX7_sheet 22 = .ok (.bipush (-2), 2) := by decide +kernel
theorem dX7_sheet_24 : decode cX7_sheet 24 = .ok (.ireturn, 1) := by decide +kernel
theorem dX7_sheet_25 : decode cX7_sheet 25 = .ok (.iload_n 3, 1) := by decide +kernel
theorem dX7_sheet_26 : decode cX7_sheet 26 = .ok (.ifCond .ge 9, 3) := by decide +kernel
theorem dX7_sheet_29 : decode cX7_sheet 29 = .ok (.aload_n 0, 1) := by decide +kernel
theorem dX7_sheet_30 : decode cX7_sheet 30 = .ok (.iconst 5, 1) := by decide +kernel
theorem dX7_sheet_31 : decode cX7_sheet 31 = .ok (.invokevirtual 149, 3) := by decide +kernel
theorem dX7_sheet_34 : decode cX7_sheet 34 = .ok (.ireturn, 1) := by decide +kernel
theorem dX7_sheet_35 : decode cX7_sheet 35 = .ok (.aload_n 0, 1) := by decide +kernel
theorem dX7_sheet_36 : decode cX7_sheet 36 = .ok (.getfield 71, 3) := by decide +kernel
theorem dX7_sheet_39 : decode cX7_sheet 39 = .ok (.iload_n 1, 1) := by decide +kernel
theorem dX7_sheet_40 : decode cX7_sheet 40 = .ok (.aaload, 1) := by decide +kernel
theorem dX7_sheet_41 : decode cX7_sheet 41 = .ok (.iload_n 2, 1) := by decide +kernel
theorem dX7_sheet_42 : decode cX7_sheet 42 = .ok (.iload_n 3, 1) := by decide +kernel
theorem dX7_sheet_43 : decode cX7_sheet 43 = .ok (.invokevirtual 274, 3) := by decide +kernel
theorem dX7_sheet_46 : decode cX7_sheet 46 = .ok (.iload_n 3, 1) := by decide +kernel
theorem dX7_sheet_47 : decode cX7_sheet 47 = .ok (.ireturn, 1) := by decide +kernel
theorem dX7_lose_0 : decode cX7_lose 0 = .ok (.iload_n 1, 1) := by decide +kernel
theorem dX7_lose_1 : decode cX7_lose 1 = .ok (.iconst 4, 1) := by decide +kernel
theorem dX7_lose_2 : decode cX7_lose 2 = .ok (.invokestatic 83, 3) := by decide +kernel
theorem dX7_lose_5 : decode cX7_lose 5 = .ok (.ifCond .ne 6, 3) := by decide +kernel
theorem dX7_lose_8 : decode cX7_lose 8 = .ok (.bipush (-2), 2) := by decide +kernel
theorem dX7_lose_10 : decode cX7_lose 10 = .ok (.ireturn, 1) := by decide +kernel
theorem dX7_lose_11 : decode cX7_lose 11 = .ok (.aload_n 0, 1) := by decide +kernel
theorem dX7_lose_12 : decode cX7_lose 12 = .ok (.getfield 71, 3) := by decide +kernel
theorem dX7_lose_15 : decode cX7_lose 15 = .ok (.iload_n 1, 1) := by decide +kernel
theorem dX7_lose_16 : decode cX7_lose 16 = .ok (.aaload, 1) := by decide +kernel
theorem dX7_lose_17 : decode cX7_lose 17 = .ok (.astore_n 2, 1) := by decide +kernel
theorem dX7_lose_18 : decode cX7_lose 18 = .ok (.aload_n 2, 1) := by decide +kernel
theorem dX7_lose_19 : decode cX7_lose 19 = .ok (.getfield 146, 3) := by decide +kernel
theorem dX7_lose_22 : decode cX7_lose 22 = .ok (.ifCond .eq 9, 3) := by decide +kernel
theorem dX7_lose_25 : decode cX7_lose 25 = .ok (.aload_n 0, 1) := by decide +kernel
theorem dX7_lose_26 : decode cX7_lose 26 = .ok (.iconst 1, 1) := by decide +kernel
theorem dX7_lose_27 : decode cX7_lose 27 = .ok (.invokevirtual 149, 3) := by decide +kernel
theorem dX7_lose_30 : decode cX7_lose 30 = .ok (.ireturn, 1) := by decide +kernel
theorem dX7_lose_31 : decode cX7_lose 31 = .ok (.aload_n 2, 1) := by decide +kernel
theorem dX7_lose_32 : decode cX7_lose 32 = .ok (.iconst 1, 1) := by decide +kernel
theorem dX7_lose_33 : decode cX7_lose 33 = .ok (.putfield 146, 3) := by decide +kernel
theorem dX7_lose_36 : decode cX7_lose 36 = .ok (.aload_n 2, 1) := by decide +kernel
theorem dX7_lose_37 : decode cX7_lose 37 = .ok (.getfield 152, 3) := by decide +kernel
theorem dX7_lose_40 : decode cX7_lose 40 = .ok (.ireturn, 1) := by decide +kernel
theorem dX7_lay_0 : decode cX7_lay 0 = .ok (.iload_n 1, 1) := by decide +kernel
theorem dX7_lay_1 : decode cX7_lay 1 = .ok (.iconst 4, 1) := by decide +kernel
theorem dX7_lay_2 : decode cX7_lay 2 = .ok (.invokestatic 83, 3) := by decide +kernel
theorem dX7_lay_5 : decode cX7_lay 5 = .ok (.ifCond .eq 11, 3) := by decide +kernel
theorem dX7_lay_8 : decode cX7_lay 8 = .ok (.iload_n 2, 1) := by decide +kernel
theorem dX7_lay_9 : decode cX7_lay 9 = .ok (.iconst 3, 1) := by decide +kernel
theorem dX7_lay_10 : decode cX7_lay 10 = .ok (.invokestatic 83, 3) := by decide +kernel
theorem dX7_lay_13 : decode cX7_lay 13 = .ok (.ifCond .ne 6, 3) := by decide +kernel
theorem dX7_lay_16 : decode cX7_lay 16 = .ok (.bipush (-2), 2) := by decide +kernel
theorem dX7_lay_18 : decode cX7_lay 18 = .ok (.ireturn, 1) := by decide +kernel
theorem dX7_lay_19 : decode cX7_lay 19 = .ok (.aload_n 0, 1) := by decide +kernel
theorem dX7_lay_20 : decode cX7_lay 20 = .ok (.getfield 71, 3) := by decide +kernel
theorem dX7_lay_23 : decode cX7_lay 23 = .ok (.iload_n 1, 1) := by decide +kernel
theorem dX7_lay_24 : decode cX7_lay 24 = .ok (.aaload, 1) := by decide +kernel
theorem dX7_lay_25 : decode cX7_lay 25 = .ok (.iload_n 2, 1) := by decide +kernel
theorem dX7_lay_26 : decode cX7_lay 26 = .ok (.iload_n 3, 1) := by decide +kernel
theorem dX7_lay_27 : decode cX7_lay 27 = .ok (.invokevirtual 278, 3) := by decide +kernel
theorem dX7_lay_30 : decode cX7_lay 30 = .ok (.istore 5, 2) := by decide +kernel
theorem dX7_lay_32 : decode cX7_lay 32 = .ok (.iload 5, 2) := by decide +kernel
theorem dX7_lay_34 : decode cX7_lay 34 = .ok (.ifCond .eq 10, 3) := by decide +kernel
theorem dX7_lay_37 : decode cX7_lay 37 = .ok (.aload_n 0, 1) := by decide +kernel
theorem dX7_lay_38 : decode cX7_lay 38 = .ok (.iload 5, 2) := by decide +kernel
theorem dX7_lay_40 : decode cX7_lay 40 = .ok (.invokevirtual 149, 3) := by decide +kernel
theorem dX7_lay_43 : decode cX7_lay 43 = .ok (.ireturn, 1) := by decide +kernel
theorem dX7_lay_44 : decode cX7_lay 44 = .ok (.aload_n 0, 1) := by decide +kernel
theorem dX7_lay_45 : decode cX7_lay 45 = .ok (.getfield 71, 3) := by decide +kernel
theorem dX7_lay_48 : decode cX7_lay 48 = .ok (.iload_n 1, 1) := by decide +kernel
theorem dX7_lay_49 : decode cX7_lay 49 = .ok (.aaload, 1) := by decide +kernel
theorem dX7_lay_50 : decode cX7_lay 50 = .ok (.iload_n 3, 1) := by decide +kernel
theorem dX7_lay_51 : decode cX7_lay 51 = .ok (.iload 4, 2) := by decide +kernel
theorem dX7_lay_53 : decode cX7_lay 53 = .ok (.invokevirtual 281, 3) := by decide +kernel
theorem dX7_lay_56 : decode cX7_lay 56 = .ok (.iconst 1, 1) := by decide +kernel
theorem dX7_lay_57 : decode cX7_lay 57 = .ok (.ireturn, 1) := by decide +kernel
theorem dX7_get_0 : decode cX7_get 0 = .ok (.iload_n 1, 1) := by decide +kernel
theorem dX7_get_1 : decode cX7_get 1 = .ok (.iconst 4, 1) := by decide +kernel
theorem dX7_get_2 : decode cX7_get 2 = .ok (.invokestatic 83, 3) := by decide +kernel
theorem dX7_get_5 : decode cX7_get 5 = .ok (.ifCond .eq 11, 3) := by decide +kernel
theorem dX7_get_8 : decode cX7_get 8 = .ok (.iload_n 2, 1) := by decide +kernel
theorem dX7_get_9 : decode cX7_get 9 = .ok (.iconst 3, 1) := by decide +kernel
theorem dX7_get_10 : decode cX7_get 10 = .ok (.invokestatic 83, 3) := by decide +kernel
theorem dX7_get_13 : decode cX7_get 13 = .ok (.ifCond .ne 7, 3) := by decide +kernel
theorem dX7_get_16 : decode cX7_get 16 = .ok (.ldc_w 284, 3) := by decide +kernel
theorem dX7_get_19 : decode cX7_get 19 = .ok (.ireturn, 1) := by decide +kernel
theorem dX7_get_20 : decode cX7_get 20 = .ok (.aload_n 0, 1) := by decide +kernel
theorem dX7_get_21 : decode cX7_get 21 = .ok (.getfield 71, 3) := by decide +kernel
theorem dX7_get_24 : decode cX7_get 24 = .ok (.iload_n 1, 1) := by decide +kernel
theorem dX7_get_25 : decode cX7_get 25 = .ok (.aaload, 1) := by decide +kernel
theorem dX7_get_26 : decode cX7_get 26 = .ok (.iload_n 2, 1) := by decide +kernel
theorem dX7_get_27 : decode cX7_get 27 = .ok (.iload_n 3, 1) := by decide +kernel
theorem dX7_get_28 : decode cX7_get 28 = .ok (.invokevirtual 278, 3) := by decide +kernel
theorem dX7_get_31 : decode cX7_get 31 = .ok (.istore 4, 2) := by decide +kernel
theorem dX7_get_33 : decode cX7_get 33 = .ok (.iload 4, 2) := by decide +kernel
theorem dX7_get_35 : decode cX7_get 35 = .ok (.ifCond .eq 14, 3) := by decide +kernel
theorem dX7_get_38 : decode cX7_get 38 = .ok (.aload_n 0, 1) := by decide +kernel
theorem dX7_get_39 : decode cX7_get 39 = .ok (.iload 4, 2) := by decide +kernel
theorem dX7_get_41 : decode cX7_get 41 = .ok (.invokevirtual 149, 3) := by decide +kernel
theorem dX7_get_44 : decode cX7_get 44 = .ok (.pop, 1) := by decide +kernel
theorem dX7_get_45 : decode cX7_get 45 = .ok (.ldc_w 284, 3) := by decide +kernel
theorem dX7_get_48 : decode cX7_get 48 = .ok (.ireturn, 1) := by decide +kernel
theorem dX7_get_49 : decode cX7_get 49 = .ok (.aload_n 0, 1) := by decide +kernel
theorem dX7_get_50 : decode cX7_get 50 = .ok (.getfield 71, 3) := by decide +kernel
theorem dX7_get_53 : decode cX7_get 53 = .ok (.iload_n 1, 1) := by decide +kernel
theorem dX7_get_54 : decode cX7_get 54 = .ok (.aaload, 1) := by decide +kernel
theorem dX7_get_55 : decode cX7_get 55 = .ok (.iload_n 3, 1) := by decide +kernel
theorem dX7_get_56 : decode cX7_get 56 = .ok (.invokevirtual 153, 3) := by decide +kernel
theorem dX7_get_59 : decode cX7_get 59 = .ok (.ireturn, 1) := by decide +kernel
theorem dX7_copy_0 : decode cX7_copy 0 = .ok (.iload_n 1, 1) := by decide +kernel
theorem dX7_copy_1 : decode cX7_copy 1 = .ok (.iconst 4, 1) := by decide +kernel
theorem dX7_copy_2 : decode cX7_copy 2 = .ok (.invokestatic 83, 3) := by decide +kernel
theorem dX7_copy_5 : decode cX7_copy 5 = .ok (.ifCond .eq 11, 3) := by decide +kernel
theorem dX7_copy_8 : decode cX7_copy 8 = .ok (.iload_n 3, 1) := by decide +kernel
theorem dX7_copy_9 : decode cX7_copy 9 = .ok (.iconst 4, 1) := by decide +kernel
theorem dX7_copy_10 : decode cX7_copy 10 = .ok (.invokestatic 83, 3) := by decide +kernel
theorem dX7_copy_13 : decode cX7_copy 13 = .ok (.ifCond .ne 6, 3) := by decide +kernel
theorem dX7_copy_16 : decode cX7_copy 16 = .ok (.bipush (-2), 2) := by decide +kernel
theorem dX7_copy_18 : decode cX7_copy 18 = .ok (.ireturn, 1) := by decide +kernel
theorem dX7_copy_19 : decode cX7_copy 19 = .ok (.aload_n 0, 1) := by decide +kernel
theorem dX7_copy_20 : decode cX7_copy 20 = .ok (.getfield 71, 3) := by decide +kernel
theorem dX7_copy_23 : decode cX7_copy 23 = .ok (.iload_n 1, 1) := by decide +kernel
theorem dX7_copy_24 : decode cX7_copy 24 = .ok (.aaload, 1) := by decide +kernel
theorem dX7_copy_25 : decode cX7_copy 25 = .ok (.astore 6, 2) := by decide +kernel
theorem dX7_copy_27 : decode cX7_copy 27 = .ok (.aload_n 0, 1) := by decide +kernel
theorem dX7_copy_28 : decode cX7_copy 28 = .ok (.getfield 71, 3) := by decide +kernel
theorem dX7_copy_31 : decode cX7_copy 31 = .ok (.iload_n 3, 1) := by decide +kernel
theorem dX7_copy_32 : decode cX7_copy 32 = .ok (.aaload, 1) := by decide +kernel
theorem dX7_copy_33 : decode cX7_copy 33 = .ok (.astore 7, 2) := by decide +kernel
theorem dX7_copy_35 : decode cX7_copy 35 = .ok (.aload 6, 2) := by decide +kernel
theorem dX7_copy_37 : decode cX7_copy 37 = .ok (.getfield 146, 3) := by decide +kernel
theorem dX7_copy_40 : decode cX7_copy 40 = .ok (.ifCond .ne 11, 3) := by decide +kernel
theorem dX7_copy_43 : decode cX7_copy 43 = .ok (.aload 7, 2) := by decide +kernel
theorem dX7_copy_45 : decode cX7_copy 45 = .ok (.getfield 146, 3) := by decide +kernel
theorem dX7_copy_48 : decode cX7_copy 48 = .ok (.ifCond .eq 9, 3) := by decide +kernel
theorem dX7_copy_51 : decode cX7_copy 51 = .ok (.aload_n 0, 1) := by decide +kernel
theorem dX7_copy_52 : decode cX7_copy 52 = .ok (.iconst 1, 1) := by decide +kernel
theorem dX7_copy_53 : decode cX7_copy 53 = .ok (.invokevirtual 149, 3) := by decide +kernel
theorem dX7_copy_56 : decode cX7_copy 56 = .ok (.ireturn, 1) := by decide +kernel
theorem dX7_copy_57 : decode cX7_copy 57 = .ok (.aload 6, 2) := by decide +kernel
theorem dX7_copy_59 : decode cX7_copy 59 = .ok (.getfield 285, 3) := by decide +kernel
theorem dX7_copy_62 : decode cX7_copy 62 = .ok (.aload 7, 2) := by decide +kernel
theorem dX7_copy_64 : decode cX7_copy 64 = .ok (.getfield 285, 3) := by decide +kernel
theorem dX7_copy_67 : decode cX7_copy 67 = .ok (.if_icmp .eq 9, 3) := by decide +kernel
theorem dX7_copy_70 : decode cX7_copy 70 = .ok (.aload_n 0, 1) := by decide +kernel
theorem dX7_copy_71 : decode cX7_copy 71 = .ok (.iconst 4, 1) := by decide +kernel
theorem dX7_copy_72 : decode cX7_copy 72 = .ok (.invokevirtual 149, 3) := by decide +kernel
theorem dX7_copy_75 : decode cX7_copy 75 = .ok (.ireturn, 1) := by decide +kernel
theorem dX7_copy_76 : decode cX7_copy 76 = .ok (.aload 6, 2) := by decide +kernel
theorem dX7_copy_78 : decode cX7_copy 78 = .ok (.iload_n 2, 1) := by decide +kernel
theorem dX7_copy_79 : decode cX7_copy 79 = .ok (.iload 5, 2) := by decide +kernel
theorem dX7_copy_81 : decode cX7_copy 81 = .ok (.invokevirtual 288, 3) := by decide +kernel
theorem dX7_copy_84 : decode cX7_copy 84 = .ok (.ifCond .eq 15, 3) := by decide +kernel
theorem dX7_copy_87 : decode cX7_copy 87 = .ok (.aload 7, 2) := by decide +kernel
theorem dX7_copy_89 : decode cX7_copy 89 = .ok (.iload 4, 2) := by decide +kernel
theorem dX7_copy_91 : decode cX7_copy 91 = .ok (.iload 5, 2) := by decide +kernel
theorem dX7_copy_93 : decode cX7_copy 93 = .ok (.invokevirtual 288, 3) := by decide +kernel
theorem dX7_copy_96 : decode cX7_copy 96 = .ok (.ifCond .ne 9, 3) := by decide +kernel
theorem dX7_copy_99 : decode cX7_copy 99 = .ok (.aload_n 0, 1) := by decide +kernel
theorem dX7_copy_100 : decode cX7_copy 100 = .ok (.iconst 2, 1) := by decide +kernel
theorem dX7_copy_101 : decode cX7_copy 101 = .ok (.invokevirtual 149, 3) := by decide +kernel
theorem dX7_copy_104 : decode cX7_copy 104 = .ok (.ireturn, 1) := by decide +kernel
theorem dX7_copy_105 : decode cX7_copy 105 = .ok (.aload 6, 2) := by decide +kernel
theorem dX7_copy_107 : decode cX7_copy 107 = .ok (.getfield 291, 3) := by decide +kernel
theorem dX7_copy_110 : decode cX7_copy 110 = .ok (.iload_n 2, 1) := by decide +kernel
theorem dX7_copy_111 : decode cX7_copy 111 = .ok (.aload 7, 2) := by decide +kernel
theorem dX7_copy_113 : decode cX7_copy 113 = .ok (.getfield 291, 3) := by decide +kernel
theorem dX7_copy_116 : decode cX7_copy 116 = .ok (.iload 4, 2) := by decide +kernel
theorem dX7_copy_118 : decode cX7_copy 118 = .ok (.iload 5, 2) := by decide +kernel
theorem dX7_copy_120 : decode cX7_copy 120 = .ok (.invokestatic 293, 3) := by decide +kernel
theorem dX7_copy_123 : decode cX7_copy 123 = .ok (.iconst 1, 1) := by decide +kernel
theorem dX7_copy_124 : decode cX7_copy 124 = .ok (.ireturn, 1) := by decide +kernel
theorem dX7_write_0 : decode cX7_write 0 = .ok (.iload_n 1, 1) := by decide +kernel
theorem dX7_write_1 : decode cX7_write 1 = .ok (.bipush 40, 2) := by decide +kernel
theorem dX7_write_3 : decode cX7_write 3 = .ok (.invokestatic 83, 3) := by decide +kernel
theorem dX7_write_6 : decode cX7_write 6 = .ok (.ifCond .eq 11, 3) := by decide +kernel
theorem dX7_write_9 : decode cX7_write 9 = .ok (.iload_n 2, 1) := by decide +kernel
theorem dX7_write_10 : decode cX7_write 10 = .ok (.iconst 4, 1) := by decide +kernel
theorem dX7_write_11 : decode cX7_write 11 = .ok (.invokestatic 83, 3) := by decide +kernel
theorem dX7_write_14 : decode cX7_write 14 = .ok (.ifCond .ne 6, 3) := by decide +kernel
theorem dX7_write_17 : decode cX7_write 17 = .ok (.bipush (-2), 2) := by decide +kernel
theorem dX7_write_19 : decode cX7_write 19 = .ok (.ireturn, 1) := by decide +kernel
theorem dX7_write_20 : decode cX7_write 20 = .ok (.aload_n 0, 1) := by decide +kernel
theorem dX7_write_21 : decode cX7_write 21 = .ok (.getfield 71, 3) := by decide +kernel
theorem dX7_write_24 : decode cX7_write 24 = .ok (.iload_n 2, 1) := by decide +kernel
theorem dX7_write_25 : decode cX7_write 25 = .ok (.aaload, 1) := by decide +kernel
theorem dX7_write_26 : decode cX7_write 26 = .ok (.astore_n 3, 1) := by decide +kernel
theorem dX7_write_27 : decode cX7_write 27 = .ok (.aload_n 3, 1) := by decide +kernel
theorem dX7_write_28 : decode cX7_write 28 = .ok (.getfield 146, 3) := by decide +kernel
theorem dX7_write_31 : decode cX7_write 31 = .ok (.ifCond .eq 9, 3) := by decide +kernel
theorem dX7_write_34 : decode cX7_write 34 = .ok (.aload_n 0, 1) := by decide +kernel
theorem dX7_write_35 : decode cX7_write 35 = .ok (.iconst 1, 1) := by decide +kernel
theorem dX7_write_36 : decode cX7_write 36 = .ok (.invokevirtual 149, 3) := by decide +kernel
theorem dX7_write_39 : decode cX7_write 39 = .ok (.ireturn, 1) := by decide +kernel
theorem dX7_write_40 : decode cX7_write 40 = .ok (.aload_n 0, 1) := by decide +kernel
theorem dX7_write_41 : decode cX7_write 41 = .ok (.invokevirtual 159, 3) := by decide +kernel
theorem dX7_write_44 : decode cX7_write 44 = .ok (.astore 4, 2) := by decide +kernel
theorem dX7_write_46 : decode cX7_write 46 = .ok (.aload_n 3, 1) := by decide +kernel
theorem dX7_write_47 : decode cX7_write 47 = .ok (.getfield 152, 3) := by decide +kernel
theorem dX7_write_50 : decode cX7_write 50 = .ok (.aload_n 0, 1) := by decide +kernel
theorem dX7_write_51 : decode cX7_write 51 = .ok (.getfield 16, 3) := by decide +kernel
theorem dX7_write_54 : decode cX7_write 54 = .ok (.getfield 190, 3) := by decide +kernel
theorem dX7_write_57 : decode cX7_write 57 = .ok (.invokestatic 299, 3) := by decide +kernel
theorem dX7_write_60 : decode cX7_write 60 = .ok (.istore 5, 2) := by decide +kernel
theorem dX7_write_62 : decode cX7_write 62 = .ok (.iconst 0, 1) := by decide +kernel
theorem dX7_write_63 : decode cX7_write 63 = .ok (.istore 6, 2) := by decide +kernel
theorem dX7_write_65 : decode cX7_write 65 = .ok (.iload 6, 2) := by decide +kernel
theorem dX7_write_67 : decode cX7_write 67 = .ok (.iload 5, 2) := by decide +kernel
theorem dX7_write_69 : decode cX7_write 69 = .ok (.if_icmp .ge 23, 3) := by decide +kernel
theorem dX7_write_72 : decode cX7_write 72 = .ok (.aload_n 3, 1) := by decide +kernel
theorem dX7_write_73 : decode cX7_write 73 = .ok (.iload 6, 2) := by decide +kernel
theorem dX7_write_75 : decode cX7_write 75 = .ok (.aload 4, 2) := by decide +kernel
theorem dX7_write_77 : decode cX7_write 77 = .ok (.iload_n 1, 1) := by decide +kernel
theorem dX7_write_78 : decode cX7_write 78 = .ok (.iload 6, 2) := by decide +kernel
theorem dX7_write_80 : decode cX7_write 80 = .ok (.invokevirtual 302, 3) := by decide +kernel
theorem dX7_write_83 : decode cX7_write 83 = .ok (.invokevirtual 281, 3) := by decide +kernel
theorem dX7_write_86 : decode cX7_write 86 = .ok (.iinc 6 1, 3) := by decide +kernel
theorem dX7_write_89 : decode cX7_write 89 = .ok (.goto (-24), 3) := by decide +kernel
theorem dX7_write_92 : decode cX7_write 92 = .ok (.iload 5, 2) := by decide +kernel
theorem dX7_write_94 : decode cX7_write 94 = .ok (.ireturn, 1) := by decide +kernel
theorem dX7_count_0 : decode cX7_count 0 = .ok (.iload_n 1, 1) := by decide +kernel
theorem dX7_count_1 : decode cX7_count 1 = .ok (.tableswitch 148 0 8 #[51, 59, 67, 75, 83, 94, 113, 135, 143], 51) := by decide +kernel
theorem dX7_count_52 : decode cX7_count 52 = .ok (.aload_n 0, 1) := by decide +kernel
theorem dX7_count_53 : decode cX7_count 53 = .ok (.getfield 16, 3) := by decide +kernel
theorem dX7_count_56 : decode cX7_count 56 = .ok (.getfield 190, 3) := by decide +kernel
theorem dX7_count_59 : decode cX7_count 59 = .ok (.ireturn, 1) := by decide +kernel
theorem dX7_count_60 : decode cX7_count 60 = .ok (.aload_n 0, 1) := by decide +kernel
theorem dX7_count_61 : decode cX7_count 61 = .ok (.getfield 22, 3) := by decide +kernel
theorem dX7_count_64 : decode cX7_count 64 = .ok (.getfield 190, 3) := by decide +kernel
theorem dX7_count_67 : decode cX7_count 67 = .ok (.ireturn, 1) := by decide +kernel
theorem dX7_count_68 : decode cX7_count 68 = .ok (.aload_n 0, 1) := by decide +kernel
theorem dX7_count_69 : decode cX7_count 69 = .ok (.getfield 16, 3) := by decide +kernel
theorem dX7_count_72 : decode cX7_count 72 = .ok (.getfield 91, 3) := by decide +kernel
theorem dX7_count_75 : decode cX7_count 75 = .ok (.ireturn, 1) := by decide +kernel
