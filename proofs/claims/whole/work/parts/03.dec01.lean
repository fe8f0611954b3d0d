theorem dX3_leastHole_16 : decode cX3_leastHole 16 = .ok (.bipush 8, 2) := by decide +kernel
theorem dX3_leastHole_18 : decode cX3_leastHole 18 = .ok (.if_icmp .ge 63, 3) := by decide +kernel
theorem dX3_leastHole_21 : decode cX3_leastHole 21 = .ok (.iload_n 3, 1) := by decide +kernel
theorem dX3_leastHole_22 : decode cX3_leastHole 22 = .ok (.iload 4, 2) := by decide +kernel
theorem dX3_leastHole_24 : decode cX3_leastHole 24 = .ok (.ishr, 1) := by decide +kernel
theorem dX3_leastHole_25 : decode cX3_leastHole 25 = .ok (.iconst 1, 1) := by decide +kernel
theorem dX3_leastHole_26 : decode cX3_leastHole 26 = .ok (.iand, 1) := by decide +kernel
theorem dX3_leastHole_27 : decode cX3_leastHole 27 = .ok (.iconst 1, 1) := by decide +kernel
theorem dX3_leastHole_28 : decode cX3_leastHole 28 = .ok (.if_icmp .ne 47, 3) := by decide +kernel
theorem dX3_leastHole_31 : decode cX3_leastHole 31 = .ok (.aload_n 0, 1) := by decide +kernel
theorem dX3_leastHole_32 : decode cX3_leastHole 32 = .ok (.getfield 9, 3) := by decide +kernel
theorem dX3_leastHole_35 : decode cX3_leastHole 35 = .ok (.iload_n 1, 1) := by decide +kernel
theorem dX3_leastHole_36 : decode cX3_leastHole 36 = .ok (.iaload, 1) := by decide +kernel
theorem dX3_leastHole_37 : decode cX3_leastHole 37 = .ok (.aload_n 0, 1) := by decide +kernel
theorem dX3_leastHole_38 : decode cX3_leastHole 38 = .ok (.getfield 18, 3) := by decide +kernel
theorem dX3_leastHole_41 : decode cX3_leastHole 41 = .ok (.iload_n 1, 1) := by decide +kernel
theorem dX3_leastHole_42 : decode cX3_leastHole 42 = .ok (.iconst 1, 1) := by decide +kernel
theorem dX3_leastHole_43 : decode cX3_leastHole 43 = .ok (.iadd, 1) := by decide +kernel
theorem dX3_leastHole_44 : decode cX3_leastHole 44 = .ok (.sipush 256, 3) := by decide +kernel
theorem dX3_leastHole_47 : decode cX3_leastHole 47 = .ok (.imul, 1) := by decide +kernel
theorem dX3_leastHole_48 : decode cX3_leastHole 48 = .ok (.iload_n 2, 1) := by decide +kernel
theorem dX3_leastHole_49 : decode cX3_leastHole 49 = .ok (.iconst 1, 1) := by decide +kernel
theorem dX3_leastHole_50 : decode cX3_leastHole 50 = .ok (.iload 4, 2) := by decide +kernel
theorem dX3_leastHole_52 : decode cX3_leastHole 52 = .ok (.ishl, 1) := by decide +kernel
theorem dX3_leastHole_53 : decode cX3_leastHole 53 = .ok (.ior, 1) := by decide +kernel
theorem dX3_leastHole_54 : decode cX3_leastHole 54 = .ok (.iadd, 1) := by decide +kernel
theorem dX3_leastHole_55 : decode cX3_leastHole 55 = .ok (.iaload, 1) := by decide +kernel
theorem dX3_leastHole_56 : decode cX3_leastHole 56 = .ok (.iadd, 1) := by decide +kernel
theorem dX3_leastHole_57 : decode cX3_leastHole 57 = .ok (.aload_n 0, 1) := by decide +kernel
theorem dX3_leastHole_58 : decode cX3_leastHole 58 = .ok (.getfield 18, 3) := by decide +kernel
theorem dX3_leastHole_61 : decode cX3_leastHole 61 = .ok (.iload_n 1, 1) := by decide +kernel
theorem dX3_leastHole_62 : decode cX3_leastHole 62 = .ok (.sipush 256, 3) := by decide +kernel
theorem dX3_leastHole_65 : decode cX3_leastHole 65 = .ok (.imul, 1) := by decide +kernel
theorem dX3_leastHole_66 : decode cX3_leastHole 66 = .ok (.iload_n 2, 1) := by decide +kernel
theorem dX3_leastHole_67 : decode cX3_leastHole 67 = .ok (.iadd, 1) := by decide +kernel
theorem dX3_leastHole_68 : decode cX3_leastHole 68 = .ok (.iaload, 1) := by decide +kernel
theorem dX3_leastHole_69 : decode cX3_leastHole 69 = .ok (.if_icmp .ne 6, 3) := by decide +kernel
theorem dX3_leastHole_72 : decode cX3_leastHole 72 = .ok (.iload 4, 2) := by decide +kernel
theorem dX3_leastHole_74 : decode cX3_leastHole 74 = .ok (.ireturn, 1) := by decide +kernel
theorem dX3_leastHole_75 : decode cX3_leastHole 75 = .ok (.iinc 4 1, 3) := by decide +kernel
theorem dX3_leastHole_78 : decode cX3_leastHole 78 = .ok (.goto (-64), 3) := by decide +kernel
theorem dX3_leastHole_81 : decode cX3_leastHole 81 = .ok (.iconst (-1), 1) := by decide +kernel
theorem dX3_leastHole_82 : decode cX3_leastHole 82 = .ok (.ireturn, 1) := by decide +kernel
theorem dX4_init_0 : decode cX4_init 0 = .ok (.aload_n 0, 1) := by decide +kernel
theorem dX4_init_1 : decode cX4_init 1 = .ok (.invokespecial 3, 3) := by decide +kernel
theorem dX4_init_4 : decode cX4_init 4 = .ok (.aload_n 0, 1) := by decide +kernel
theorem dX4_init_5 : decode cX4_init 5 = .ok (.iconst 0, 1) := by decide +kernel
theorem dX4_init_6 : decode cX4_init 6 = .ok (.putfield 9, 3) := by decide +kernel
theorem dX4_init_9 : decode cX4_init 9 = .ok (.aload_n 0, 1) := by decide +kernel
theorem dX4_init_10 : decode cX4_init 10 = .ok (.iload_n 1, 1) := by decide +kernel
theorem dX4_init_11 : decode cX4_init 11 = .ok (.putfield 15, 3) := by decide +kernel
theorem dX4_init_14 : decode cX4_init 14 = .ok (.aload_n 0, 1) := by decide +kernel
theorem dX4_init_15 : decode cX4_init 15 = .ok (.iload_n 1, 1) := by decide +kernel
theorem dX4_init_16 : decode cX4_init 16 = .ok (.iconst 4, 1) := by decide +kernel
theorem dX4_init_17 : decode cX4_init 17 = .ok (.imul, 1) := by decide +kernel
theorem dX4_init_18 : decode cX4_init 18 = .ok (.newarray .int, 2) := by decide +kernel
theorem dX4_init_20 : decode cX4_init 20 = .ok (.putfield 18, 3) := by decide +kernel
theorem dX4_init_23 : decode cX4_init 23 = .ok (.return_, 1) := by decide +kernel
theorem dX4_isFull_0 : decode cX4_isFull 0 = .ok (.aload_n 0, 1) := by decide +kernel
theorem dX4_isFull_1 : decode cX4_isFull 1 = .ok (.getfield 9, 3) := by decide +kernel
theorem dX4_isFull_4 : decode cX4_isFull 4 = .ok (.aload_n 0, 1) := by decide +kernel
theorem dX4_isFull_5 : decode cX4_isFull 5 = .ok (.getfield 15, 3) := by decide +kernel
theorem dX4_isFull_8 : decode cX4_isFull 8 = .ok (.if_icmp .lt 7, 3) := by decide +kernel
theorem dX4_isFull_11 : decode cX4_isFull 11 = .ok (.iconst 1, 1) := by decide +kernel
theorem dX4_isFull_12 : decode cX4_isFull 12 = .ok (.goto 4, 3) := by decide +kernel
theorem dX4_isFull_15 : decode cX4_isFull 15 = .ok (.iconst 0, 1) := by decide +kernel
theorem dX4_isFull_16 : decode cX4_isFull 16 = .ok (.ireturn, 1) := by decide +kernel
theorem dX4_cell_0 : decode cX4_cell 0 = .ok (.aload_n 0, 1) := by decide +kernel
theorem dX4_cell_1 : decode cX4_cell 1 = .ok (.getfield 18, 3) := by decide +kernel
theorem dX4_cell_4 : decode cX4_cell 4 = .ok (.iload_n 1, 1) := by decide +kernel
theorem dX4_cell_5 : decode cX4_cell 5 = .ok (.iconst 4, 1) := by decide +kernel
theorem dX4_cell_6 : decode cX4_cell 6 = .ok (.imul, 1) := by decide +kernel
theorem dX4_cell_7 : decode cX4_cell 7 = .ok (.iload_n 2, 1) := by decide +kernel
theorem dX4_cell_8 : decode cX4_cell 8 = .ok (.iadd, 1) := by decide +kernel
theorem dX4_cell_9 : decode cX4_cell 9 = .ok (.iaload, 1) := by decide +kernel
theorem dX4_cell_10 : decode cX4_cell 10 = .ok (.ireturn, 1) := by decide +kernel
theorem dX4_add_0 : decode cX4_add 0 = .ok (.aload_n 0, 1) := by decide +kernel
theorem dX4_add_1 : decode cX4_add 1 = .ok (.getfield 9, 3) := by decide +kernel
theorem dX4_add_4 : decode cX4_add 4 = .ok (.aload_n 0, 1) := by decide +kernel
theorem dX4_add_5 : decode cX4_add 5 = .ok (.getfield 15, 3) := by decide +kernel
theorem dX4_add_8 : decode cX4_add 8 = .ok (.if_icmp .ge 60, 3) := by decide +kernel
theorem dX4_add_11 : decode cX4_add 11 = .ok (.aload_n 0, 1) := by decide +kernel
theorem dX4_add_12 : decode cX4_add 12 = .ok (.getfield 9, 3) := by decide +kernel
theorem dX4_add_15 : decode cX4_add 15 = .ok (.iconst 4, 1) := by decide +kernel
theorem dX4_add_16 : decode cX4_add 16 = .ok (.imul, 1) := by decide +kernel
theorem dX4_add_17 : decode cX4_add 17 = .ok (.istore 5, 2) := by decide +kernel
theorem dX4_add_19 : decode cX4_add 19 = .ok (.aload_n 0, 1) := by decide +kernel
theorem dX4_add_20 : decode cX4_add 20 = .ok (.getfield 18, 3) := by decide +kernel
theorem dX4_add_23 : decode cX4_add 23 = .ok (.iload 5, 2) := by decide +kernel
theorem dX4_add_25 : decode cX4_add 25 = .ok (.iload_n 1, 1) := by decide +kernel
theorem dX4_add_26 : decode cX4_add 26 = .ok (.iastore, 1) := by decide +kernel
theorem dX4_add_27 : decode cX4_add 27 = .ok (.aload_n 0, 1) := by decide +kernel
theorem dX4_add_28 : decode cX4_add 28 = .ok (.getfield 18, 3) := by decide +kernel
theorem dX4_add_31 : decode cX4_add 31 = .ok (.iload 5, 2) := by decide +kernel
theorem dX4_add_33 : decode cX4_add 33 = .ok (.iconst 1, 1) := by decide +kernel
theorem dX4_add_34 : decode cX4_add 34 = .ok (.iadd, 1) := by decide +kernel
theorem dX4_add_35 : decode cX4_add 35 = .ok (.iload_n 2, 1) := by decide +kernel
theorem dX4_add_36 : decode cX4_add 36 = .ok (.iastore, 1) := by decide +kernel
theorem dX4_add_37 : decode cX4_add 37 = .ok (.aload_n 0, 1) := by decide +kernel
theorem dX4_add_38 : decode cX4_add 38 = .ok (.getfield 18, 3) := by decide +kernel
theorem dX4_add_41 : decode cX4_add 41 = .ok (.iload 5, 2) := by decide +kernel
theorem dX4_add_43 : decode cX4_add 43 = .ok (.iconst 2, 1) := by decide +kernel
theorem dX4_add_44 : decode cX4_add 44 = .ok (.iadd, 1) := by decide +kernel
theorem dX4_add_45 : decode cX4_add 45 = .ok (.iload_n 3, 1) := by decide +kernel
theorem dX4_add_46 : decode cX4_add 46 = .ok (.iastore, 1) := by decide +kernel
theorem dX4_add_47 : decode cX4_add 47 = .ok (.aload_n 0, 1) := by decide +kernel
theorem dX4_add_48 : decode cX4_add 48 = .ok (.getfield 18, 3) := by decide +kernel
theorem dX4_add_51 : decode cX4_add 51 = .ok (.iload 5, 2) := by decide +kernel
theorem dX4_add_53 : decode cX4_add 53 = .ok (.iconst 3, 1) := by decide +kernel
theorem dX4_add_54 : decode cX4_add 54 = .ok (.iadd, 1) := by decide +kernel
theorem dX4_add_55 : decode cX4_add 55 = .ok (.iload 4, 2) := by decide +kernel
theorem dX4_add_57 : decode cX4_add 57 = .ok (.iastore, 1) := by decide +kernel
theorem dX4_add_58 : decode cX4_add 58 = .ok (.aload_n 0, 1) := by decide +kernel
theorem dX4_add_59 : decode cX4_add 59 = .ok (.dup, 1) := by decide +kernel
theorem dX4_add_60 : decode cX4_add 60 = .ok (.getfield 9, 3) := by decide +kernel
theorem dX4_add_63 : decode cX4_add 63 = .ok (.iconst 1, 1) := by decide +kernel
theorem dX4_add_64 : decode cX4_add 64 = .ok (.iadd, 1) := by decide +kernel
theorem dX4_add_65 : decode cX4_add 65 = .ok (.putfield 9, 3) := by decide +kernel
theorem dX4_add_68 : decode cX4_add 68 = .ok (.aload_n 0, 1) := by decide +kernel
theorem dX4_add_69 : decode cX4_add 69 = .ok (.getfield 9, 3) := by decide +kernel
theorem dX4_add_72 : decode cX4_add 72 = .ok (.ireturn, 1) := by decide +kernel
theorem dX4_drop_0 : decode cX4_drop 0 = .ok (.iload_n 1, 1) := by decide +kernel
theorem dX4_drop_1 : decode cX4_drop 1 = .ok (.aload_n 0, 1) := by decide +kernel
theorem dX4_drop_2 : decode cX4_drop 2 = .ok (.getfield 9, 3) := by decide +kernel
theorem dX4_drop_5 : decode cX4_drop 5 = .ok (.invokestatic 22, 3) := by decide +kernel
theorem dX4_drop_8 : decode cX4_drop 8 = .ok (.ifCond .eq 42, 3) := by decide +kernel
theorem dX4_drop_11 : decode cX4_drop 11 = .ok (.iload_n 1, 1) := by decide +kernel
theorem dX4_drop_12 : decode cX4_drop 12 = .ok (.iconst 1, 1) := by decide +kernel
theorem dX4_drop_13 : decode cX4_drop 13 = .ok (.iadd, 1) := by decide +kernel
theorem dX4_drop_14 : decode cX4_drop 14 = .ok (.iconst 4, 1) := by decide +kernel
theorem dX4_drop_15 : decode cX4_drop 15 = .ok (.imul, 1) := by decide +kernel
theorem dX4_drop_16 : decode cX4_drop 16 = .ok (.istore_n 2, 1) := by decide +kernel
theorem dX4_drop_17 : decode cX4_drop 17 = .ok (.aload_n 0, 1) := by decide +kernel
theorem dX4_drop_18 : decode cX4_drop 18 = .ok (.getfield 18, 3) := by decide +kernel
theorem dX4_drop_21 : decode cX4_drop 21 = .ok (.iload_n 2, 1) := by decide +kernel
theorem dX4_drop_22 : decode cX4_drop 22 = .ok (.aload_n 0, 1) := by decide +kernel
theorem dX4_drop_23 : decode cX4_drop 23 = .ok (.getfield 18, 3) := by decide +kernel
theorem dX4_drop_26 : decode cX4_drop 26 = .ok (.iload_n 2, 1) := by decide +kernel
theorem dX4_drop_27 : decode cX4_drop 27 = .ok (.iconst 4, 1) := by decide +kernel
theorem dX4_drop_28 : decode cX4_drop 28 = .ok (.isub, 1) := by decide +kernel
theorem dX4_drop_29 : decode cX4_drop 29 = .ok (.aload_n 0, 1) := by decide +kernel
theorem dX4_drop_30 : decode cX4_drop 30 = .ok (.getfield 9, 3) := by decide +kernel
theorem dX4_drop_33 : decode cX4_drop 33 = .ok (.iconst 4, 1) := by decide +kernel
theorem dX4_drop_34 : decode cX4_drop 34 = .ok (.imul, 1) := by decide +kernel
theorem dX4_drop_35 : decode cX4_drop 35 = .ok (.iload_n 2, 1) := by decide +kernel
theorem dX4_drop_36 : decode cX4_drop 36 = .ok (.isub, 1) := by decide +kernel
theorem dX4_drop_37 : decode cX4_drop 37 = .ok (.invokestatic 26, 3) := by decide +kernel
theorem dX4_drop_40 : decode cX4_drop 40 = .ok (.aload_n 0, 1) := by decide +kernel
theorem dX4_drop_41 : decode cX4_drop 41 = .ok (.dup, 1) := by decide +kernel
theorem dX4_drop_42 : decode cX4_drop 42 = .ok (.getfield 9, 3) := by decide +kernel
theorem dX4_drop_45 : decode cX4_drop 45 = .ok (.iconst 1, 1) := by decide +kernel
theorem dX4_drop_46 : decode cX4_drop 46 = .ok (.isub, 1) := by decide +kernel
theorem dX4_drop_47 : decode cX4_drop 47 = .ok (.putfield 9, 3) := by decide +kernel
theorem dX4_drop_50 : decode cX4_drop 50 = .ok (.aload_n 0, 1) := by decide +kernel
theorem dX4_drop_51 : decode cX4_drop 51 = .ok (.getfield 9, 3) := by decide +kernel
theorem dX4_drop_54 : decode cX4_drop 54 = .ok (.ireturn, 1) := by decide +kernel
theorem dX4_clear_0 : decode cX4_clear 0 = .ok (.aload_n 0, 1) := by decide +kernel
theorem dX4_clear_1 : decode cX4_clear 1 = .ok (.iconst 0, 1) := by decide +kernel
theorem dX4_clear_2 : decode cX4_clear 2 = .ok (.putfield 9, 3) := by decide +kernel
theorem dX4_clear_5 : decode cX4_clear 5 = .ok (.return_, 1) := by decide +kernel
theorem dX4_takeAll_0 : decode cX4_takeAll 0 = .ok (.aload_n 0, 1) := by decide +kernel
theorem dX4_takeAll_1 : decode cX4_takeAll 1 = .ok (.aload_n 1, 1) := by decide +kernel
theorem dX4_takeAll_2 : decode cX4_takeAll 2 = .ok (.getfield 9, 3) := by decide +kernel
theorem dX4_takeAll_5 : decode cX4_takeAll 5 = .ok (.aload_n 0, 1) := by decide +kernel
theorem dX4_takeAll_6 : decode cX4_takeAll 6 = .ok (.getfield 15, 3) := by decide +kernel
theorem dX4_takeAll_9 : decode cX4_takeAll 9 = .ok (.invokestatic 32, 3) := by decide +kernel
theorem dX4_takeAll_12 : decode cX4_takeAll 12 = .ok (.putfield 9, 3) := by decide +kernel
theorem dX4_takeAll_15 : decode cX4_takeAll 15 = .ok (.aload_n 1, 1) := by decide +kernel
theorem dX4_takeAll_16 : decode cX4_takeAll 16 = .ok (.getfield 18, 3) := by decide +kernel
theorem dX4_takeAll_19 : decode cX4_takeAll 19 = .ok (.iconst 0, 1) := by decide +kernel
theorem dX4_takeAll_20 : decode cX4_takeAll 20 = .ok (.aload_n 0, 1) := by decide +kernel
theorem dX4_takeAll_21 : decode cX4_takeAll 21 = .ok (.getfield 18, 3) := by decide +kernel
theorem dX4_takeAll_24 : decode cX4_takeAll 24 = .ok (.iconst 0, 1) := by decide +kernel
theorem dX4_takeAll_25 : decode cX4_takeAll 25 = .ok (.aload_n 0, 1) := by decide +kernel
theorem dX4_takeAll_26 : decode cX4_takeAll 26 = .ok (.getfield 9, 3) := by decide +kernel
theorem dX4_takeAll_29 : decode cX4_takeAll 29 = .ok (.iconst 4, 1) := by decide +kernel
theorem dX4_takeAll_30 : decode cX4_takeAll 30 = .ok (.imul, 1) := by decide +kernel
theorem dX4_takeAll_31 : decode cX4_takeAll 31 = .ok (.invokestatic 26, 3) := by decide +kernel
theorem dX4_takeAll_34 : decode cX4_takeAll 34 = .ok (.return_, 1) := by decide +kernel
theorem dX5_init_0 : decode cX5_init 0 = .ok (.aload_n 0, 1) := by decide +kernel
theorem dX5_init_1 : decode cX5_init 1 = .ok (.invokespecial 3, 3) := by decide +kernel
theorem dX5_init_4 : decode cX5_init 4 = .ok (.aload_n 0, 1) := by decide +kernel
theorem dX5_init_5 : decode cX5_init 5 = .ok (.bipush 60, 2) := by decide +kernel
theorem dX5_init_7 : decode cX5_init 7 = .ok (.newarray .int, 2) := by decide +kernel
theorem dX5_init_9 : decode cX5_init 9 = .ok (.putfield 9, 3) := by decide +kernel
theorem dX5_init_12 : decode cX5_init 12 = .ok (.aload_n 0, 1) := by decide +kernel
theorem dX5_init_13 : decode cX5_init 13 = .ok (.iconst 1, 1) := by decide +kernel
theorem dX5_init_14 : decode cX5_init 14 = .ok (.putfield 15, 3) := by decide +kernel
theorem dX5_init_17 : decode cX5_init 17 = .ok (.aload_n 0, 1) := by decide +kernel
theorem dX5_init_18 : decode cX5_init 18 = .ok (.iconst 0, 1) := by decide +kernel
theorem dX5_init_19 : decode cX5_init 19 = .ok (.putfield 19, 3) := by decide +kernel
theorem dX5_init_22 : decode cX5_init 22 = .ok (.aload_n 0, 1) := by decide +kernel
theorem dX5_init_23 : decode cX5_init 23 = .ok (.iconst 0, 1) := by decide +kernel
theorem dX5_init_24 : decode cX5_init 24 = .ok (.putfield 23, 3) := by decide +kernel
theorem dX5_init_27 : decode cX5_init 27 = .ok (.return_, 1) := by decide +kernel
theorem dX5_begin_0 : decode cX5_begin 0 = .ok (.aload_n 0, 1) := by decide +kernel
theorem dX5_begin_1 : decode cX5_begin 1 = .ok (.iconst 0, 1) := by decide +kernel
theorem dX5_begin_2 : decode cX5_begin 2 = .ok (.putfield 15, 3) := by decide +kernel
theorem dX5_begin_5 : decode cX5_begin 5 = .ok (.aload_n 0, 1) := by decide +kernel
theorem dX5_begin_6 : decode cX5_begin 6 = .ok (.iload_n 1, 1) := by decide +kernel
theorem dX5_begin_7 : decode cX5_begin 7 = .ok (.putfield 19, 3) := by decide +kernel
theorem dX5_begin_10 : decode cX5_begin 10 = .ok (.aload_n 0, 1) := by decide +kernel
theorem dX5_begin_11 : decode cX5_begin 11 = .ok (.iload_n 2, 1) := by decide +kernel
theorem dX5_begin_12 : decode cX5_begin 12 = .ok (.putfield 23, 3) := by decide +kernel
theorem dX5_begin_15 : decode cX5_begin 15 = .ok (.aload_n 0, 1) := by decide +kernel
theorem dX5_begin_16 : decode cX5_begin 16 = .ok (.getfield 9, 3) := by decide +kernel
theorem dX5_begin_19 : decode cX5_begin 19 = .ok (.iconst 0, 1) := by decide +kernel
theorem dX5_begin_20 : decode cX5_begin 20 = .ok (.invokestatic 26, 3) := by decide +kernel
theorem dX5_begin_23 : decode cX5_begin 23 = .ok (.return_, 1) := by decide +kernel
theorem dX5_refusal_0 : decode cX5_refusal 0 = .ok (.aload_n 0, 1) := by decide +kernel
theorem dX5_refusal_1 : decode cX5_refusal 1 = .ok (.getfield 15, 3) := by decide +kernel
theorem dX5_refusal_4 : decode cX5_refusal 4 = .ok (.ifCond .eq 5, 3) := by decide +kernel
theorem dX5_refusal_7 : decode cX5_refusal 7 = .ok (.iconst 1, 1) := by decide +kernel
theorem dX5_refusal_8 : decode cX5_refusal 8 = .ok (.ireturn, 1) := by decide +kernel
theorem dX5_refusal_9 : decode cX5_refusal 9 = .ok (.aload_n 0, 1) := by decide +kernel
theorem dX5_refusal_10 : decode cX5_refusal 10 = .ok (.getfield 19, 3) := by decide +kernel
theorem dX5_refusal_13 : decode cX5_refusal 13 = .ok (.iload_n 1, 1) := by decide +kernel
theorem dX5_refusal_14 : decode cX5_refusal 14 = .ok (.if_icmp .eq 5, 3) := by decide +kernel
theorem dX5_refusal_17 : decode cX5_refusal 17 = .ok (.iconst 3, 1) := by decide +kernel
theorem dX5_refusal_18 : decode cX5_refusal 18 = .ok (.ireturn, 1) := by decide +kernel
theorem dX5_refusal_19 : decode cX5_refusal 19 = .ok (.iload_n 2, 1) := by decide +kernel
theorem dX5_refusal_20 : decode cX5_refusal 20 = .ok (.aload_n 0, 1) := by decide +kernel
theorem dX5_refusal_21 : decode cX5_refusal 21 = .ok (.getfield 23, 3) := by decide +kernel
theorem dX5_refusal_24 : decode cX5_refusal 24 = .ok (.invokestatic 32, 3) := by decide +kernel
theorem dX5_refusal_27 : decode cX5_refusal 27 = .ok (.ifCond .eq 7, 3) := by decide +kernel
theorem dX5_refusal_30 : decode cX5_refusal 30 = .ok (.iconst 0, 1) := by decide +kernel
theorem dX5_refusal_31 : decode cX5_refusal 31 = .ok (.goto 4, 3) := by decide +kernel
theorem dX5_refusal_34 : decode cX5_refusal 34 = .ok (.iconst 2, 1) := by decide +kernel
theorem dX5_refusal_35 : decode cX5_refusal 35 = .ok (.ireturn, 1) := by decide +kernel
theorem dX5_hasRange_0 : decode cX5_hasRange 0 = .ok (.iload_n 1, 1) := by decide +kernel
theorem dX5_hasRange_1 : decode cX5_hasRange 1 = .ok (.ifCond .lt 29, 3) := by decide +kernel
theorem dX5_hasRange_4 : decode cX5_hasRange 4 = .ok (.iload_n 2, 1) := by decide +kernel
theorem dX5_hasRange_5 : decode cX5_hasRange 5 = .ok (.ifCond .lt 25, 3) := by decide +kernel
theorem dX5_hasRange_8 : decode cX5_hasRange 8 = .ok (.iload_n 1, 1) := by decide +kernel
theorem dX5_hasRange_9 : decode cX5_hasRange 9 = .ok (.aload_n 0, 1) := by decide +kernel
theorem dX5_hasRange_10 : decode cX5_hasRange 10 = .ok (.getfield 23, 3) := by decide +kernel
theorem dX5_hasRange_13 : decode cX5_hasRange 13 = .ok (.if_icmp .gt 17, 3) := by decide +kernel
theorem dX5_hasRange_16 : decode cX5_hasRange 16 = .ok (.iload_n 2, 1) := by decide +kernel
theorem dX5_hasRange_17 : decode cX5_hasRange 17 = .ok (.aload_n 0, 1) := by decide +kernel
theorem dX5_hasRange_18 : decode cX5_hasRange 18 = .ok (.getfield 23, 3) := by decide +kernel
theorem dX5_hasRange_21 : decode cX5_hasRange 21 = .ok (.iload_n 1, 1) := by decide +kernel
theorem dX5_hasRange_22 : decode cX5_hasRange 22 = .ok (.isub, 1) := by decide +kernel
theorem dX5_hasRange_23 : decode cX5_hasRange 23 = .ok (.if_icmp .gt 7, 3) := by decide +kernel
theorem dX5_hasRange_26 : decode cX5_hasRange 26 = .ok (.iconst 1, 1) := by decide +kernel
theorem dX5_hasRange_27 : decode cX5_hasRange 27 = .ok (.goto 4, 3) := by decide +kernel
theorem dX5_hasRange_30 : decode cX5_hasRange 30 = .ok (.iconst 0, 1) := by decide +kernel
theorem dX5_hasRange_31 : decode cX5_hasRange 31 = .ok (.ireturn, 1) := by decide +kernel
theorem dX5_item_0 : decode cX5_item 0 = .ok (.aload_n 0, 1) := by decide +kernel
theorem dX5_item_1 : decode cX5_item 1 = .ok (.getfield 9, 3) := by decide +kernel
theorem dX5_item_4 : decode cX5_item 4 = .ok (.iload_n 1, 1) := by decide +kernel
theorem dX5_item_5 : decode cX5_item 5 = .ok (.iaload, 1) := by decide +kernel
theorem dX5_item_6 : decode cX5_item 6 = .ok (.ireturn, 1) := by decide +kernel
theorem dX5_put_0 : decode cX5_put 0 = .ok (.aload_n 0, 1) := by decide +kernel
theorem dX5_put_1 : decode cX5_put 1 = .ok (.getfield 9, 3) := by decide +kernel
theorem dX5_put_4 : decode cX5_put 4 = .ok (.iload_n 1, 1) := by decide +kernel
theorem dX5_put_5 : decode cX5_put 5 = .ok (.aload_n 0, 1) := by decide +kernel
theorem dX5_put_6 : decode cX5_put 6 = .ok (.getfield 19, 3) := by decide +kernel
theorem dX5_put_9 : decode cX5_put 9 = .ok (.ifCond .ne 8, 3) := by decide +kernel
theorem dX5_put_12 : decode cX5_put 12 = .ok (.iload_n 2, 1) := by decide +kernel
theorem dX5_put_13 : decode cX5_put 13 = .ok (.i2b, 1) := by decide +kernel
theorem dX5_put_14 : decode cX5_put 14 = .ok (.goto 17, 3) := by decide +kernel
theorem dX5_put_17 : decode cX5_put 17 = .ok (.aload_n 0, 1) := by decide +kernel
theorem dX5_put_18 : decode cX5_put 18 = .ok (.getfield 19, 3) := by decide +kernel
theorem dX5_put_21 : decode cX5_put 21 = .ok (.iconst 1, 1) := by decide +kernel
theorem dX5_put_22 : decode cX5_put 22 = .ok (.if_icmp .ne 8, 3) := by decide +kernel
theorem dX5_put_25 : decode cX5_put 25 = .ok (.iload_n 2, 1) := by decide +kernel
theorem dX5_put_26 : decode cX5_put 26 = .ok (.i2s, 1) := by decide +kernel
theorem dX5_put_27 : decode cX5_put 27 = .ok (.goto 4, 3) := by decide +kernel
theorem dX5_put_30 : decode cX5_put 30 = .ok (.iload_n 2, 1) := by decide +kernel
theorem dX5_put_31 : decode cX5_put 31 = .ok (.iastore, 1) := by decide +kernel
theorem dX5_put_32 : decode cX5_put 32 = .ok (.return_, 1) := by decide +kernel
theorem dX6_init_0 : decode cX6_init 0 = .ok (.aload_n 0, 1) := by decide +kernel
theorem dX6_init_1 : decode cX6_init 1 = .ok (.invokespecial 3, 3) := by decide +kernel
theorem dX6_init_4 : decode cX6_init 4 = .ok (.aload_n 0, 1) := by decide +kernel
theorem dX6_init_5 : decode cX6_init 5 = .ok (.bipush 39, 2) := by decide +kernel
theorem dX6_init_7 : decode cX6_init 7 = .ok (.newarray .int, 2) := by decide +kernel
theorem dX6_init_9 : decode cX6_init 9 = .ok (.putfield 9, 3) := by decide +kernel
theorem dX6_init_12 : decode cX6_init 12 = .ok (.aload_n 0, 1) := by decide +kernel
theorem dX6_init_13 : decode cX6_init 13 = .ok (.bipush 32, 2) := by decide +kernel
theorem dX6_init_15 : decode cX6_init 15 = .ok (.newarray .int, 2) := by decide +kernel
theorem dX6_init_17 : decode cX6_init 17 = .ok (.putfield 15, 3) := by decide +kernel
theorem dX6_init_20 : decode cX6_init 20 = .ok (.aload_n 0, 1) := by decide +kernel
theorem dX6_init_21 : decode cX6_init 21 = .ok (.iconst 0, 1) := by decide +kernel
theorem dX6_init_22 : decode cX6_init 22 = .ok (.putfield 18, 3) := by decide +kernel
theorem dX6_init_25 : decode cX6_init 25 = .ok (.aload_n 0, 1) := by decide +kernel
theorem dX6_init_26 : decode cX6_init 26 = .ok (.iconst (-1), 1) := by decide +kernel
theorem dX6_init_27 : decode cX6_init 27 = .ok (.putfield 22, 3) := by decide +kernel
theorem dX6_init_30 : decode cX6_init 30 = .ok (.aload_n 0, 1) := by decide +kernel
theorem dX6_init_31 : decode cX6_init 31 = .ok (.iconst 0, 1) := by decide +kernel
theorem dX6_init_32 : decode cX6_init 32 = .ok (.putfield 25, 3) := by decide +kernel
theorem dX6_init_35 : decode cX6_init 35 = .ok (.aload_n 0, 1) := by decide +kernel
theorem dX6_init_36 : decode cX6_init 36 = .ok (.aload_n 1, 1) := by decide +kernel
theorem dX6_init_37 : decode cX6_init 37 = .ok (.putfield 28, 3) := by decide +kernel
theorem dX6_init_40 : decode cX6_init 40 = .ok (.aload_n 0, 1) := by decide +kernel
theorem dX6_init_41 : decode cX6_init 41 = .ok (.iload_n 2, 1) := by decide +kernel
theorem dX6_init_42 : decode cX6_init 42 = .ok (.putfield 32, 3) := by decide +kernel
theorem dX6_init_45 : decode cX6_init 45 = .ok (.aload_n 0, 1) := by decide +kernel
theorem dX6_init_46 : decode cX6_init 46 = .ok (.iload_n 3, 1) := by decide +kernel
theorem dX6_init_47 : decode cX6_init 47 = .ok (.putfield 35, 3) := by decide +kernel
theorem dX6_init_50 : decode cX6_init 50 = .ok (.return_, 1) := by decide +kernel
theorem dX6_figure_0 : decode cX6_figure 0 = .ok (.aload_n 0, 1) := by decide +kernel
theorem dX6_figure_1 : decode cX6_figure 1 = .ok (.getfield 15, 3) := by decide +kernel
theorem dX6_figure_4 : decode cX6_figure 4 = .ok (.iload_n 1, 1) := by decide +kernel
theorem dX6_figure_5 : decode cX6_figure 5 = .ok (.iconst 4, 1) := by decide +kernel
theorem dX6_figure_6 : decode cX6_figure 6 = .ok (.imul, 1) := by decide +kernel
theorem dX6_figure_7 : decode cX6_figure 7 = .ok (.iload_n 2, 1) := by decide +kernel
theorem dX6_figure_8 : decode cX6_figure 8 = .ok (.iadd, 1) := by decide +kernel
theorem dX6_figure_9 : decode cX6_figure 9 = .ok (.iaload, 1) := by decide +kernel
theorem dX6_figure_10 : decode cX6_figure 10 = .ok (.ireturn, 1) := by decide +kernel
theorem dX6_append_0 : decode cX6_append 0 = .ok (.aload_n 0, 1) := by decide +kernel
theorem dX6_append_1 : decode cX6_append 1 = .ok (.getfield 18, 3) := by decide +kernel
theorem dX6_append_4 : decode cX6_append 4 = .ok (.bipush 39, 2) := by decide +kernel
theorem dX6_append_6 : decode cX6_append 6 = .ok (.if_icmp .ge 27, 3) := by decide +kernel
theorem dX6_append_9 : decode cX6_append 9 = .ok (.aload_n 0, 1) := by decide +kernel
theorem dX6_append_10 : decode cX6_append 10 = .ok (.getfield 9, 3) := by decide +kernel
theorem dX6_append_13 : decode cX6_append 13 = .ok (.aload_n 0, 1) := by decide +kernel
theorem dX6_append_14 : decode cX6_append 14 = .ok (.getfield 18, 3) := by decide +kernel
theorem dX6_append_17 : decode cX6_append 17 = .ok (.iload_n 1, 1) := by decide +kernel
theorem dX6_append_18 : decode cX6_append 18 = .ok (.iastore, 1) := by decide +kernel
theorem dX6_append_19 : decode cX6_append 19 = .ok (.aload_n 0, 1) := by decide +kernel
theorem dX6_append_20 : decode cX6_append 20 = .ok (.dup, 1) := by decide +kernel
theorem dX6_append_21 : decode cX6_append 21 = .ok (.getfield 18, 3) := by decide +kernel
theorem dX6_append_24 : decode cX6_append 24 = .ok (.iconst 1, 1) := by decide +kernel
theorem dX6_append_25 : decode cX6_append 25 = .ok (.iadd, 1) := by decide +kernel
theorem dX6_append_26 : decode cX6_append 26 = .ok (.putfield 18, 3) := by decide +kernel
theorem dX6_append_29 : decode cX6_append 29 = .ok (.aload_n 0, 1) := by decide +kernel
theorem dX6_append_30 : decode cX6_append 30 = .ok (.invokevirtual 38, 3) := by decide +kernel
theorem dX6_append_33 : decode cX6_append 33 = .ok (.aload_n 0, 1) := by decide +kernel
theorem dX6_append_34 : decode cX6_append 34 = .ok (.getfield 18, 3) := by decide +kernel
theorem dX6_append_37 : decode cX6_append 37 = .ok (.ireturn, 1) := by decide +kernel
theorem dX6_shorten_0 : decode cX6_shorten 0 = .ok (.aload_n 0, 1) := by decide +kernel
theorem dX6_shorten_1 : decode cX6_shorten 1 = .ok (.iload_n 1, 1) := by decide +kernel
theorem dX6_shorten_2 : decode cX6_shorten 2 = .ok (.putfield 18, 3) := by decide +kernel
theorem dX6_shorten_5 : decode cX6_shorten 5 = .ok (.aload_n 0, 1) := by decide +kernel
theorem dX6_shorten_6 : decode cX6_shorten 6 = .ok (.invokevirtual 38, 3) := by decide +kernel
theorem dX6_shorten_9 : decode cX6_shorten 9 = .ok (.return_, 1) := by decide +kernel
theorem dX6_parse_0 : decode cX6_parse 0 = .ok (.aload_n 0, 1) := by decide +kernel
theorem dX6_parse_1 : decode cX6_parse 1 = .ok (.aload_n 0, 1) := by decide +kernel
theorem dX6_parse_2 : decode cX6_parse 2 = .ok (.invokevirtual 41, 3) := by decide +kernel
theorem dX6_parse_5 : decode cX6_parse 5 = .ok (.putfield 22, 3) := by decide +kernel
theorem dX6_parse_8 : decode cX6_parse 8 = .ok (.aload_n 0, 1) := by decide +kernel
theorem dX6_parse_9 : decode cX6_parse 9 = .ok (.aload_n 0, 1) := by decide +kernel
theorem dX6_parse_10 : decode cX6_parse 10 = .ok (.getfield 22, 3) := by decide +kernel
theorem dX6_parse_13 : decode cX6_parse 13 = .ok (.iconst (-1), 1) := by decide +kernel
theorem dX6_parse_14 : decode cX6_parse 14 = .ok (.if_icmp .ne 14, 3) := by decide +kernel
theorem dX6_parse_17 : decode cX6_parse 17 = .ok (.aload_n 0, 1) := by decide +kernel
theorem dX6_parse_18 : decode cX6_parse 18 = .ok (.getfield 18, 3) := by decide +kernel
theorem dX6_parse_21 : decode cX6_parse 21 = .ok (.iconst 1, 1) := by decide +kernel
theorem dX6_parse_22 : decode cX6_parse 22 = .ok (.iadd, 1) := by decide +kernel
theorem dX6_parse_23 : decode cX6_parse 23 = .ok (.iconst 5, 1) := by decide +kernel
theorem dX6_parse_24 : decode cX6_parse 24 = .ok (.idiv, 1) := by decide +kernel
theorem dX6_parse_25 : decode cX6_parse 25 = .ok (.goto 4, 3) := by decide +kernel
theorem dX6_parse_28 : decode cX6_parse 28 = .ok (.iconst 0, 1) := by decide +kernel
theorem dX6_parse_29 : decode cX6_parse 29 = .ok (.putfield 25, 3) := by decide +kernel
theorem dX6_parse_32 : decode cX6_parse 32 = .ok (.iconst 0, 1) := by decide +kernel
theorem dX6_parse_33 : decode cX6_parse 33 = .ok (.istore_n 1, 1) := by decide +kernel
theorem dX6_parse_34 : decode cX6_parse 34 = .ok (.iload_n 1, 1) := by decide +kernel
theorem dX6_parse_35 : decode cX6_parse 35 = .ok (.aload_n 0, 1) := by decide +kernel
theorem dX6_parse_36 : decode cX6_parse 36 = .ok (.getfield 25, 3) := by decide +kernel
theorem dX6_parse_39 : decode cX6_parse 39 = .ok (.if_icmp .ge 71, 3) := by decide +kernel
theorem dX6_parse_42 : decode cX6_parse 42 = .ok (.aload_n 0, 1) := by decide +kernel
theorem dX6_parse_43 : decode cX6_parse 43 = .ok (.getfield 15, 3) := by decide +kernel
theorem dX6_parse_46 : decode cX6_parse 46 = .ok (.iload_n 1, 1) := by decide +kernel
theorem dX6_parse_47 : decode cX6_parse 47 = .ok (.iconst 4, 1) := by decide +kernel
theorem dX6_parse_48 : decode cX6_parse 48 = .ok (.imul, 1) := by decide +kernel
theorem dX6_parse_49 : decode cX6_parse 49 = .ok (.iconst 0, 1) := by decide +kernel
theorem dX6_parse_50 : decode cX6_parse 50 = .ok (.iadd, 1) := by decide +kernel
theorem dX6_parse_51 : decode cX6_parse 51 = .ok (.aload_n 0, 1) := by decide +kernel
theorem dX6_parse_52 : decode cX6_parse 52 = .ok (.getfield 28, 3) := by decide +kernel
theorem dX6_parse_55 : decode cX6_parse 55 = .ok (.aload_n 0, 1) := by decide +kernel
theorem dX6_parse_56 : decode cX6_parse 56 = .ok (.getfield 9, 3) := by decide +kernel
theorem dX6_parse_59 : decode cX6_parse 59 = .ok (.iload_n 1, 1) := by decide +kernel
theorem dX6_parse_60 : decode cX6_parse 60 = .ok (.iconst 5, 1) := by decide +kernel
theorem dX6_parse_61 : decode cX6_parse 61 = .ok (.imul, 1) := by decide +kernel
theorem dX6_parse_62 : decode cX6_parse 62 = .ok (.iaload, 1) := by decide +kernel
theorem dX6_parse_63 : decode cX6_parse 63 = .ok (.i2c, 1) := by decide +kernel
theorem dX6_parse_64 : decode cX6_parse 64 = .ok (.invokevirtual 45, 3) := by decide +kernel
theorem dX6_parse_67 : decode cX6_parse 67 = .ok (.iastore, 1) := by decide +kernel
theorem dX6_parse_68 : decode cX6_parse 68 = .ok (.iconst 1, 1) := by decide +kernel
theorem dX6_parse_69 : decode cX6_parse 69 = .ok (.istore_n 2, 1) := by decide +kernel
theorem dX6_parse_70 : decode cX6_parse 70 = .ok (.iload_n 2, 1) := by decide +kernel
theorem dX6_parse_71 : decode cX6_parse 71 = .ok (.iconst 4, 1) := by decide +kernel
theorem dX6_parse_72 : decode cX6_parse 72 = .ok (.if_icmp .ge 32, 3) := by decide +kernel
theorem dX6_parse_75 : decode cX6_parse 75 = .ok (.aload_n 0, 1) := by decide +kernel
theorem dX6_parse_76 : decode cX6_parse 76 = .ok (.getfield 15, 3) := by decide +kernel
theorem dX6_parse_79 : decode cX6_parse 79 = .ok (.iload_n 1, 1) := by decide +kernel
theorem dX6_parse_80 : decode cX6_parse 80 = .ok (.iconst 4, 1) := by decide +kernel
theorem dX6_parse_81 : decode cX6_parse 81 = .ok (.imul, 1) := by decide +kernel
theorem dX6_parse_82 : decode cX6_parse 82 = .ok (.iload_n 2, 1) := by decide +kernel
theorem dX6_parse_83 : decode cX6_parse 83 = .ok (.iadd, 1) := by decide +kernel
theorem dX6_parse_84 : decode cX6_parse 84 = .ok (.aload_n 0, 1) := by decide +kernel
theorem dX6_parse_85 : decode cX6_parse 85 = .ok (.getfield 9, 3) := by decide +kernel
theorem dX6_parse_88 : decode cX6_parse 88 = .ok (.iload_n 1, 1) := by decide +kernel
theorem dX6_parse_89 : decode cX6_parse 89 = .ok (.iconst 5, 1) := by decide +kernel
theorem dX6_parse_90 : decode cX6_parse 90 = .ok (.imul, 1) := by decide +kernel
theorem dX6_parse_91 : decode cX6_parse 91 = .ok (.iload_n 2, 1) := by decide +kernel
theorem dX6_parse_92 : decode cX6_parse 92 = .ok (.iadd, 1) := by decide +kernel
theorem dX6_parse_93 : decode cX6_parse 93 = .ok (.iaload, 1) := by decide +kernel
theorem dX6_parse_94 : decode cX6_parse 94 = .ok (.bipush 48, 2) := by decide +kernel
theorem dX6_parse_96 : decode cX6_parse 96 = .ok (.isub, 1) := by decide +kernel
theorem dX6_parse_97 : decode cX6_parse 97 = .ok (.iastore, 1) := by decide +kernel
theorem dX6_parse_98 : decode cX6_parse 98 = .ok (.iinc 2 1, 3) := by decide +kernel
theorem dX6_parse_101 : decode cX6_parse 101 = .ok (.goto (-31), 3) := by decide +kernel
theorem dX6_parse_104 : decode cX6_parse 104 = .ok (.iinc 1 1, 3) := by decide +kernel
theorem dX6_parse_107 : decode cX6_parse 107 = .ok (.goto (-73), 3) := by decide +kernel
theorem dX6_parse_110 : decode cX6_parse 110 = .ok (.return_, 1) := by decide +kernel
theorem dX6_firstFault_0 : decode cX6_firstFault 0 = .ok (.iconst 0, 1) := by decide +kernel
theorem dX6_firstFault_1 : decode cX6_firstFault 1 = .ok (.istore_n 1, 1) := by decide +kernel
theorem dX6_firstFault_2 : decode cX6_firstFault 2 = .ok (.iload_n 1, 1) := by decide +kernel
theorem dX6_firstFault_3 : decode cX6_firstFault 3 = .ok (.aload_n 0, 1) := by decide +kernel
theorem dX6_firstFault_4 : decode cX6_firstFault 4 = .ok (.getfield 18, 3) := by decide +kernel
theorem dX6_firstFault_7 : decode cX6_firstFault 7 = .ok (.if_icmp .ge 19, 3) := by decide +kernel
theorem dX6_firstFault_10 : decode cX6_firstFault 10 = .ok (.aload_n 0, 1) := by decide +kernel
theorem dX6_firstFault_11 : decode cX6_firstFault 11 = .ok (.iload_n 1, 1) := by decide +kernel
theorem dX6_firstFault_12 : decode cX6_firstFault 12 = .ok (.invokevirtual 51, 3) := by decide +kernel
theorem dX6_firstFault_15 : decode cX6_firstFault 15 = .ok (.ifCond .ne 5, 3) := by decide +kernel
theorem dX6_firstFault_18 : decode cX6_firstFault 18 = .ok (.iload_n 1, 1) := by decide +kernel
theorem dX6_firstFault_19 : decode cX6_firstFault 19 = .ok (.ireturn, 1) := by decide +kernel
theorem dX6_firstFault_20 : decode cX6_firstFault 20 = .ok (.iinc 1 1, 3) := by decide +kernel
theorem dX6_firstFault_23 : decode cX6_firstFault 23 = .ok (.goto (-21), 3) := by decide +kernel
theorem dX6_firstFault_26 : decode cX6_firstFault 26 = .ok (.aload_n 0, 1) := by decide +kernel
theorem dX6_firstFault_27 : decode cX6_firstFault 27 = .ok (.getfield 18, 3) := by decide +kernel
theorem dX6_firstFault_30 : decode cX6_firstFault 30 = .ok (.ifCond .eq 13, 3) := by decide +kernel
theorem dX6_firstFault_33 : decode cX6_firstFault 33 = .ok (.aload_n 0, 1) := by decide +kernel
theorem dX6_firstFault_34 : decode cX6_firstFault 34 = .ok (.getfield 18, 3) := by decide +kernel
theorem dX6_firstFault_37 : decode cX6_firstFault 37 = .ok (.iconst 5, 1) := by decide +kernel
theorem dX6_firstFault_38 : decode cX6_firstFault 38 = .ok (.irem, 1) := by decide +kernel
theorem dX6_firstFault_39 : decode cX6_firstFault 39 = .ok (.iconst 4, 1) := by decide +kernel
theorem dX6_firstFault_40 : decode cX6_firstFault 40 = .ok (.if_icmp .ne 7, 3) := by decide +kernel
theorem dX6_firstFault_43 : decode cX6_firstFault 43 = .ok (.iconst (-1), 1) := by decide +kernel
theorem dX6_firstFault_44 : decode cX6_firstFault 44 = .ok (.goto 7, 3) := by decide +kernel
theorem dX6_firstFault_47 : decode cX6_firstFault 47 = .ok (.aload_n 0, 1) := by decide +kernel
theorem dX6_firstFault_48 : decode cX6_firstFault 48 = .ok (.getfield 18, 3) := by decide +kernel
theorem dX6_firstFault_51 : decode cX6_firstFault 51 = .ok (.ireturn, 1) := by decide +kernel
theorem dX6_goesOnAt_0 : decode cX6_goesOnAt 0 = .ok (.aload_n 0, 1) := by decide +kernel
theorem dX6_goesOnAt_1 : decode cX6_goesOnAt 1 = .ok (.getfield 9, 3) := by decide +kernel
theorem dX6_goesOnAt_4 : decode cX6_goesOnAt 4 = .ok (.iload_n 1, 1) := by decide +kernel
theorem dX6_goesOnAt_5 : decode cX6_goesOnAt 5 = .ok (.iaload, 1) := by decide +kernel
theorem dX6_goesOnAt_6 : decode cX6_goesOnAt 6 = .ok (.istore_n 2, 1) := by decide +kernel
theorem dX6_goesOnAt_7 : decode cX6_goesOnAt 7 = .ok (.iload_n 1, 1) := by decide +kernel
theorem dX6_goesOnAt_8 : decode cX6_goesOnAt 8 = .ok (.iconst 5, 1) := by decide +kernel
theorem dX6_goesOnAt_9 : decode cX6_goesOnAt 9 = .ok (.irem, 1) := by decide +kernel
theorem dX6_goesOnAt_10 : decode cX6_goesOnAt 10 = .ok (.tableswitch 72 0 3 #[30, 48, 54, 63], 30) := by decide +kernel
theorem dX6_goesOnAt_40 : decode cX6_goesOnAt 40 = .ok (.aload_n 0, 1) := by decide +kernel
theorem dX6_goesOnAt_41 : decode cX6_goesOnAt 41 = .ok (.getfield 28, 3) := by decide +kernel
theorem dX6_goesOnAt_44 : decode cX6_goesOnAt 44 = .ok (.iload_n 2, 1) := by decide +kernel
theorem dX6_goesOnAt_45 : decode cX6_goesOnAt 45 = .ok (.i2c, 1) := by decide +kernel
theorem dX6_goesOnAt_46 : decode cX6_goesOnAt 46 = .ok (.invokevirtual 45, 3) := by decide +kernel
theorem dX6_goesOnAt_49 : decode cX6_goesOnAt 49 = .ok (.ifCond .lt 7, 3) := by decide +kernel
theorem dX6_goesOnAt_52 : decode cX6_goesOnAt 52 = .ok (.iconst 1, 1) := by decide +kernel
theorem dX6_goesOnAt_53 : decode cX6_goesOnAt 53 = .ok (.goto 4, 3) := by decide +kernel
theorem dX6_goesOnAt_56 : decode cX6_goesOnAt 56 = .ok (.iconst 0, 1) := by decide +kernel
theorem dX6_goesOnAt_57 : decode cX6_goesOnAt 57 = .ok (.ireturn, 1) := by decide +kernel
theorem dX6_goesOnAt_58 : decode cX6_goesOnAt 58 = .ok (.iconst 1, 1) := by decide +kernel
theorem dX6_goesOnAt_59 : decode cX6_goesOnAt 59 = .ok (.iload_n 2, 1) := by decide +kernel
theorem dX6_goesOnAt_60 : decode cX6_goesOnAt 60 = .ok (.invokestatic 55, 3) := by decide +kernel
theorem dX6_goesOnAt_63 : decode cX6_goesOnAt 63 = .ok (.ireturn, 1) := by decide +kernel
theorem dX6_goesOnAt_64 : decode cX6_goesOnAt 64 = .ok (.aload_n 0, 1) := by decide +kernel
theorem dX6_goesOnAt_65 : decode cX6_goesOnAt 65 = .ok (.getfield 32, 3) := by decide +kernel
theorem dX6_goesOnAt_68 : decode cX6_goesOnAt 68 = .ok (.iload_n 2, 1) := by decide +kernel
theorem dX6_goesOnAt_69 : decode cX6_goesOnAt 69 = .ok (.invokestatic 55, 3) := by decide +kernel
theorem dX6_goesOnAt_72 : decode cX6_goesOnAt 72 = .ok (.ireturn, 1) := by decide +kernel
theorem dX6_goesOnAt_73 : decode cX6_goesOnAt 73 = .ok (.aload_n 0, 1) := by decide +kernel
theorem dX6_goesOnAt_74 : decode cX6_goesOnAt 74 = .ok (.getfield 35, 3) := by decide +kernel
theorem dX6_goesOnAt_77 : decode cX6_goesOnAt 77 = .ok (.iload_n 2, 1) := by decide +kernel
theorem dX6_goesOnAt_78 : decode cX6_goesOnAt 78 = .ok (.invokestatic 55, 3) := by decide +kernel
theorem dX6_goesOnAt_81 : decode cX6_goesOnAt 81 = .ok (.ireturn, 1) := by decide +kernel
theorem dX6_goesOnAt_82 : decode cX6_goesOnAt 82 = .ok (.iload_n 2, 1) := by decide +kernel
theorem dX6_goesOnAt_83 : decode cX6_goesOnAt 83 = .ok (.bipush 59, 2) := by decide +kernel
theorem dX6_goesOnAt_85 : decode cX6_goesOnAt 85 = .ok (.if_icmp .ne 7, 3) := by decide +kernel
theorem dX6_goesOnAt_88 : decode cX6_goesOnAt 88 = .ok (.iconst 1, 1) := by decide +kernel
theorem dX6_goesOnAt_89 : decode cX6_goesOnAt 89 = .ok (.goto 4, 3) := by decide +kernel
theorem dX6_goesOnAt_92 : decode cX6_goesOnAt 92 = .ok (.iconst 0, 1) := by decide +kernel
theorem dX6_goesOnAt_93 : decode cX6_goesOnAt 93 = .ok (.ireturn, 1) := by decide +kernel
theorem dX6_isFigureFrom_0 : decode cX6_isFigureFrom 0 = .ok (.iload_n 1, 1) := by decide +kernel
theorem dX6_isFigureFrom_1 : decode cX6_isFigureFrom 1 = .ok (.bipush 48, 2) := by decide +kernel
theorem dX6_isFigureFrom_3 : decode cX6_isFigureFrom 3 = .ok (.iload_n 0, 1) := by decide +kernel
theorem dX6_isFigureFrom_4 : decode cX6_isFigureFrom 4 = .ok (.iadd, 1) := by decide +kernel
theorem dX6_isFigureFrom_5 : decode cX6_isFigureFrom 5 = .ok (.if_icmp .lt 13, 3) := by decide +kernel
theorem dX6_isFigureFrom_8 : decode cX6_isFigureFrom 8 = .ok (.iload_n 1, 1) := by decide +kernel
theorem dX6_isFigureFrom_9 : decode cX6_isFigureFrom 9 = .ok (.bipush 57, 2) := by decide +kernel
theorem dX6_isFigureFrom_11 : decode cX6_isFigureFrom 11 = .ok (.if_icmp .gt 7, 3) := by decide +kernel
theorem dX6_isFigureFrom_14 : decode cX6_isFigureFrom 14 = .ok (.iconst 1, 1) := by decide +kernel
theorem dX6_isFigureFrom_15 : decode cX6_isFigureFrom 15 = .ok (.goto 4, 3) := by decide +kernel
theorem dX6_isFigureFrom_18 : decode cX6_isFigureFrom 18 = .ok (.iconst 0, 1) := by decide +kernel
theorem dX6_isFigureFrom_19 : decode cX6_isFigureFrom 19 = .ok (.ireturn, 1) := by decide +kernel
theorem dX7_init_0 : decode cX7_init 0 = .ok (.aload_n 0, 1) := by decide +kernel
theorem dX7_init_1 : decode cX7_init 1 = .ok (.invokespecial 3, 3) := by decide +kernel
theorem dX7_init_4 : decode cX7_init 4 = .ok (.aload_n 0, 1) := by decide +kernel
theorem dX7_init_5 : decode cX7_init 5 = .ok (.new 9, 3) := by decide +kernel
theorem dX7_init_8 : decode cX7_init 8 = .ok (.dup, 1) := by decide +kernel
theorem dX7_init_9 : decode cX7_init 9 = .ok (.ldc 11, 2) := by decide +kernel
theorem dX7_init_11 : decode cX7_init 11 = .ok (.iconst 1, 1) := by decide +kernel
theorem dX7_init_12 : decode cX7_init 12 = .ok (.iconst 0, 1) := by decide +kernel
theorem dX7_init_13 : decode cX7_init 13 = .ok (.invokespecial 13, 3) := by decide +kernel
theorem dX7_init_16 : decode cX7_init 16 = .ok (.putfield 16, 3) := by decide +kernel
theorem dX7_init_19 : decode cX7_init 19 = .ok (.aload_n 0, 1) := by decide +kernel
theorem dX7_init_20 : decode cX7_init 20 = .ok (.new 9, 3) := by decide +kernel
theorem dX7_init_23 : decode cX7_init 23 = .ok (.dup, 1) := by decide +kernel
theorem dX7_init_24 : decode cX7_init 24 = .ok (.ldc 20, 2) := by decide +kernel
theorem dX7_init_26 : decode cX7_init 26 = .ok (.iconst 0, 1) := by decide +kernel
theorem dX7_init_27 : decode cX7_init 27 = .ok (.iconst 1, 1) := by decide +kernel
theorem dX7_init_28 : decode cX7_init 28 = .ok (.invokespecial 13, 3) := by decide +kernel
theorem dX7_init_31 : decode cX7_init 31 = .ok (.putfield 22, 3) := by decide +kernel
theorem dX7_init_34 : decode cX7_init 34 = .ok (.aload_n 0, 1) := by decide +kernel
theorem dX7_init_35 : decode cX7_init 35 = .ok (.new 25, 3) := by decide +kernel
theorem dX7_init_38 : decode cX7_init 38 = .ok (.dup, 1) := by decide +kernel
theorem dX7_init_39 : decode cX7_init 39 = .ok (.bipush 12, 2) := by decide +kernel
theorem dX7_init_41 : decode cX7_init 41 = .ok (.invokespecial 27, 3) := by decide +kernel
theorem dX7_init_44 : decode cX7_init 44 = .ok (.putfield 30, 3) := by decide +kernel
theorem dX7_init_47 : decode cX7_init 47 = .ok (.aload_n 0, 1) := by decide +kernel
theorem dX7_init_48 : decode cX7_init 48 = .ok (.new 34, 3) := by decide +kernel
theorem dX7_init_51 : decode cX7_init 51 = .ok (.dup, 1) := by decide +kernel
theorem dX7_init_52 : decode cX7_init 52 = .ok (.bipush 8, 2) := by decide +kernel
theorem dX7_init_54 : decode cX7_init 54 = .ok (.invokespecial 36, 3) := by decide +kernel
theorem dX7_init_57 : decode cX7_init 57 = .ok (.putfield 37, 3) := by decide +kernel
theorem dX7_init_60 : decode cX7_init 60 = .ok (.aload_n 0, 1) := by decide +kernel
theorem dX7_init_61 : decode cX7_init 61 = .ok (.new 41, 3) := by decide +kernel
theorem dX7_init_64 : decode cX7_init 64 = .ok (.dup, 1) := by decide +kernel
theorem dX7_init_65 : decode cX7_init 65 = .ok (.invokespecial 43, 3) := by decide +kernel
theorem dX7_init_68 : decode cX7_init 68 = .ok (.putfield 44, 3) := by decide +kernel
theorem dX7_init_71 : decode cX7_init 71 = .ok (.aload_n 0, 1) := by decide +kernel
theorem dX7_init_72 : decode cX7_init 72 = .ok (.iconst 1, 1) := by decide +kernel
theorem dX7_init_73 : decode cX7_init 73 = .ok (.putfield 48, 3) := by decide +kernel
theorem dX7_init_76 : decode cX7_init 76 = .ok (.aload_n 0, 1) := by decide +kernel
theorem dX7_init_77 : decode cX7_init 77 = .ok (.new 25, 3) := by decide +kernel
theorem dX7_init_80 : decode cX7_init 80 = .ok (.dup, 1) := by decide +kernel
theorem dX7_init_81 : decode cX7_init 81 = .ok (.bipush 52, 2) := by decide +kernel
theorem dX7_init_83 : decode cX7_init 83 = .ok (.invokespecial 27, 3) := by decide +kernel
theorem dX7_init_86 : decode cX7_init 86 = .ok (.putfield 52, 3) := by decide +kernel
theorem dX7_init_89 : decode cX7_init 89 = .ok (.aload_n 0, 1) := by decide +kernel
theorem dX7_init_90 : decode cX7_init 90 = .ok (.new 41, 3) := by decide +kernel
theorem dX7_init_93 : decode cX7_init 93 = .ok (.dup, 1) := by decide +kernel
theorem dX7_init_94 : decode cX7_init 94 = .ok (.invokespecial 43, 3) := by decide +kernel
theorem dX7_init_97 : decode cX7_init 97 = .ok (.putfield 55, 3) := by decide +kernel
theorem dX7_init_100 : decode cX7_init 100 = .ok (.aload_n 0, 1) := by decide +kernel
theorem dX7_init_101 : decode cX7_init 101 = .ok (.new 58, 3) := by decide +kernel
theorem dX7_init_104 : decode cX7_init 104 = .ok (.dup, 1) := by decide +kernel
theorem dX7_init_105 : decode cX7_init 105 = .ok (.invokespecial 60, 3) := by decide +kernel
theorem dX7_init_108 : decode cX7_init 108 = .ok (.putfield 61, 3) := by decide +kernel
theorem dX7_init_111 : decode cX7_init 111 = .ok (.aload_n 0, 1) := by decide +kernel
theorem dX7_init_112 : decode cX7_init 112 = .ok (.bipush 80, 2) := by decide +kernel
theorem dX7_init_114 : decode cX7_init 114 = .ok (.newarray .int, 2) := by decide +kernel
theorem dX7_init_116 : decode cX7_init 116 = .ok (.putfield 65, 3) := by decide +kernel
theorem dX7_init_119 : decode cX7_init 119 = .ok (.aload_n 0, 1) := by decide +kernel
theorem dX7_init_120 : decode cX7_init 120 = .ok (.iconst 4, 1) := by decide +kernel
theorem dX7_init_121 : decode cX7_init 121 = .ok (.anewarray 69, 3) := by decide +kernel
theorem dX7_init_124 : decode cX7_init 124 = .ok (.putfield 71, 3) := by decide +kernel
theorem dX7_init_127 : decode cX7_init 127 = .ok (.aload_n 0, 1) := by decide +kernel
theorem dX7_init_128 : decode cX7_init 128 = .ok (.iconst 2, 1) := by decide +kernel
theorem dX7_init_129 : decode cX7_init 129 = .ok (.putfield 75, 3) := by decide +kernel
theorem dX7_init_132 : decode cX7_init 132 = .ok (.aload_n 0, 1) := by decide +kernel
theorem dX7_init_133 : decode cX7_init 133 = .ok (.iconst 0, 1) := by decide +kernel
theorem dX7_init_134 : decode cX7_init 134 = .ok (.putfield 79, 3) := by decide +kernel
theorem dX7_init_137 : decode cX7_init 137 = .ok (.iconst 0, 1) := by decide +kernel
theorem dX7_init_138 : decode cX7_init 138 = .ok (.istore_n 1, 1) := by decide +kernel
theorem dX7_init_139 : decode cX7_init 139 = .ok (.iload_n 1, 1) := by decide +kernel
theorem dX7_init_140 : decode cX7_init 140 = .ok (.iconst 4, 1) := by decide +kernel
theorem dX7_init_141 : decode cX7_init 141 = .ok (.if_icmp .ge 22, 3) := by decide +kernel
theorem dX7_init_144 : decode cX7_init 144 = .ok (.aload_n 0, 1) := by decide +kernel
theorem dX7_init_145 : decode cX7_init 145 = .ok (.getfield 71, 3) := by decide +kernel
theorem dX7_init_148 : decode cX7_init 148 = .ok (.iload_n 1, 1) := by decide +kernel
theorem dX7_init_149 : decode cX7_init 149 = .ok (.new 69, 3) := by decide +kernel
theorem dX7_init_152 : decode cX7_init 152 = .ok (.dup, 1) := by decide +kernel
theorem dX7_init_153 : decode cX7_init 153 = .ok (.invokespecial 82, 3) := by decide +kernel
theorem dX7_init_156 : decode cX7_init 156 = .ok (.aastore, 1) := by decide +kernel
theorem dX7_init_157 : decode cX7_init 157 = .ok (.iinc 1 1, 3) := by decide +kernel
theorem dX7_init_160 : decode cX7_init 160 = .ok (.goto (-21), 3) := by decide +kernel
theorem dX7_init_163 : decode cX7_init 163 = .ok (.return_, 1) := by decide +kernel
theorem dX7_type_0 : decode cX7_type 0 = .ok (.iload_n 1, 1) := by decide +kernel
theorem dX7_type_1 : decode cX7_type 1 = .ok (.iconst 2, 1) := by decide +kernel
theorem dX7_type_2 : decode cX7_type 2 = .ok (.invokestatic 83, 3) := by decide +kernel
theorem dX7_type_5 : decode cX7_type 5 = .ok (.ifCond .eq 13, 3) := by decide +kernel
theorem dX7_type_8 : decode cX7_type 8 = .ok (.iload_n 2, 1) := by decide +kernel
theorem dX7_type_9 : decode cX7_type 9 = .ok (.sipush 256, 3) := by decide +kernel
theorem dX7_type_12 : decode cX7_type 12 = .ok (.invokestatic 83, 3) := by decide +kernel
theorem dX7_type_15 : decode cX7_type 15 = .ok (.ifCond .ne 6, 3) := by decide +kernel
theorem dX7_type_18 : decode cX7_type 18 = .ok (.bipush (-2), 2) := by decide +kernel
theorem dX7_type_20 : decode cX7_type 20 = .ok (.ireturn, 1) := by decide +kernel
theorem dX7_type_21 : decode cX7_type 21 = .ok (.aload_n 0, 1) := by decide +kernel
theorem dX7_type_22 : decode cX7_type 22 = .ok (.iload_n 1, 1) := by decide +kernel
theorem dX7_type_23 : decode cX7_type 23 = .ok (.invokevirtual 87, 3) := by decide +kernel
theorem dX7_type_26 : decode cX7_type 26 = .ok (.astore_n 3, 1) := by decide +kernel
theorem dX7_type_27 : decode cX7_type 27 = .ok (.aload_n 3, 1) := by decide +kernel
theorem dX7_type_28 : decode cX7_type 28 = .ok (.getfield 91, 3) := by decide +kernel
theorem dX7_type_31 : decode cX7_type 31 = .ok (.bipush 39, 2) := by decide +kernel
theorem dX7_type_33 : decode cX7_type 33 = .ok (.if_icmp .lt 6, 3) := by decide +kernel
theorem dX7_type_36 : decode cX7_type 36 = .ok (.bipush (-4), 2) := by decide +kernel
theorem dX7_type_38 : decode cX7_type 38 = .ok (.ireturn, 1) := by decide +kernel
theorem dX7_type_39 : decode cX7_type 39 = .ok (.aload_n 0, 1) := by decide +kernel
theorem dX7_type_40 : decode cX7_type 40 = .ok (.iconst 1, 1) := by decide +kernel
theorem dX7_type_41 : decode cX7_type 41 = .ok (.putfield 48, 3) := by decide +kernel
theorem dX7_type_44 : decode cX7_type 44 = .ok (.aload_n 3, 1) := by decide +kernel
theorem dX7_type_45 : decode cX7_type 45 = .ok (.iload_n 2, 1) := by decide +kernel
theorem dX7_type_46 : decode cX7_type 46 = .ok (.invokevirtual 94, 3) := by decide +kernel
theorem dX7_type_49 : decode cX7_type 49 = .ok (.ireturn, 1) := by decide +kernel
theorem dX7_wipe_0 : decode cX7_wipe 0 = .ok (.iload_n 1, 1) := by decide +kernel
theorem dX7_wipe_1 : decode cX7_wipe 1 = .ok (.iconst 2, 1) := by decide +kernel
theorem dX7_wipe_2 : decode cX7_wipe 2 = .ok (.invokestatic 83, 3) := by decide +kernel
theorem dX7_wipe_5 : decode cX7_wipe 5 = .ok (.ifCond .ne 6, 3) := by decide +kernel
theorem dX7_wipe_8 : decode cX7_wipe 8 = .ok (.bipush (-2), 2) := by decide +kernel
theorem dX7_wipe_10 : decode cX7_wipe 10 = .ok (.ireturn, 1) := by decide +kernel
theorem dX7_wipe_11 : decode cX7_wipe 11 = .ok (.aload_n 0, 1) := by decide +kernel
theorem dX7_wipe_12 : decode cX7_wipe 12 = .ok (.iconst 1, 1) := by decide +kernel
theorem dX7_wipe_13 : decode cX7_wipe 13 = .ok (.putfield 48, 3) := by decide +kernel
theorem dX7_wipe_16 : decode cX7_wipe 16 = .ok (.aload_n 0, 1) := by decide +kernel
theorem dX7_wipe_17 : decode cX7_wipe 17 = .ok (.iload_n 1, 1) := by decide +kernel
theorem dX7_wipe_18 : decode cX7_wipe 18 = .ok (.invokevirtual 87, 3) := by decide +kernel
theorem dX7_wipe_21 : decode cX7_wipe 21 = .ok (.astore_n 2, 1) := by decide +kernel
theorem dX7_wipe_22 : decode cX7_wipe 22 = .ok (.aload_n 2, 1) := by decide +kernel
theorem dX7_wipe_23 : decode cX7_wipe 23 = .ok (.getfield 91, 3) := by decide +kernel
theorem dX7_wipe_26 : decode cX7_wipe 26 = .ok (.istore_n 3, 1) := by decide +kernel
theorem dX7_wipe_27 : decode cX7_wipe 27 = .ok (.aload_n 2, 1) := by decide +kernel
theorem dX7_wipe_28 : decode cX7_wipe 28 = .ok (.iconst 0, 1) := by decide +kernel
theorem dX7_wipe_29 : decode cX7_wipe 29 = .ok (.invokevirtual 98, 3) := by decide +kernel
theorem dX7_wipe_32 : decode cX7_wipe 32 = .ok (.iload_n 3, 1) := by decide +kernel
theorem dX7_wipe_33 : decode cX7_wipe 33 = .ok (.ireturn, 1) := by decide +kernel
theorem dX7_undo_0 : decode cX7_undo 0 = .ok (.iload_n 1, 1) := by decide +kernel
theorem dX7_undo_1 : decode cX7_undo 1 = .ok (.iconst 2, 1) := by decide +kernel
theorem dX7_undo_2 : decode cX7_undo 2 = .ok (.invokestatic 83, 3) := by decide +kernel
theorem dX7_undo_5 : decode cX7_undo 5 = .ok (.ifCond .ne 6, 3) := by decide +kernel
theorem dX7_undo_8 : decode cX7_undo 8 = .ok (.bipush (-2), 2) := by decide +kernel
theorem dX7_undo_10 : decode cX7_undo 10 = .ok (.ireturn, 1) := by decide +kernel
theorem dX7_undo_11 : decode cX7_undo 11 = .ok (.aload_n 0, 1) := by decide +kernel
theorem dX7_undo_12 : decode cX7_undo 12 = .ok (.iload_n 1, 1) := by decide +kernel
theorem dX7_undo_13 : decode cX7_undo 13 = .ok (.invokevirtual 87, 3) := by decide +kernel
theorem dX7_undo_16 : decode cX7_undo 16 = .ok (.astore_n 2, 1) := by decide +kernel
theorem dX7_undo_17 : decode cX7_undo 17 = .ok (.aload_n 2, 1) := by decide +kernel
theorem dX7_undo_18 : decode cX7_undo 18 = .ok (.getfield 91, 3) := by decide +kernel
theorem dX7_undo_21 : decode cX7_undo 21 = .ok (.ifCond .ne 6, 3) := by decide +kernel
theorem dX7_undo_24 : decode cX7_undo 24 = .ok (.bipush (-3), 2) := by decide +kernel
theorem dX7_undo_26 : decode cX7_undo 26 = .ok (.ireturn, 1) := by decide +kernel
theorem dX7_undo_27 : decode cX7_undo 27 = .ok (.aload_n 0, 1) := by decide +kernel
theorem dX7_undo_28 : decode cX7_undo 28 = .ok (.iconst 1, 1) := by decide +kernel
theorem dX7_undo_29 : decode cX7_undo 29 = .ok (.putfield 48, 3) := by decide +kernel
theorem dX7_undo_32 : decode cX7_undo 32 = .ok (.aload_n 2, 1) := by decide +kernel
theorem dX7_undo_33 : decode cX7_undo 33 = .ok (.aload_n 2, 1) := by decide +kernel
theorem dX7_undo_34 : decode cX7_undo 34 = .ok (.getfield 91, 3) := by decide +kernel
theorem dX7_undo_37 : decode cX7_undo 37 = .ok (.iconst 1, 1) := by decide +kernel
theorem dX7_undo_38 : decode cX7_undo 38 = .ok (.isub, 1) := by decide +kernel
theorem dX7_undo_39 : decode cX7_undo 39 = .ok (.invokevirtual 98, 3) := by decide +kernel
theorem dX7_undo_42 : decode cX7_undo 42 = .ok (.aload_n 2, 1) := by decide +kernel
theorem dX7_undo_43 : decode cX7_undo 43 = .ok (.getfield 91, 3) := by decide +kernel
theorem dX7_undo_46 : decode cX7_undo 46 = .ok (.ireturn, 1) := by decide +kernel
theorem dX7_fault_0 : decode cX7_fault 0 = .ok (.iload_n 1, 1) := by decide +kernel
theorem dX7_fault_1 : decode cX7_fault 1 = .ok (.iconst 2, 1) := by decide +kernel
theorem dX7_fault_2 : decode cX7_fault 2 = .ok (.invokestatic 83, 3) := by decide +kernel
theorem dX7_fault_5 : decode cX7_fault 5 = .ok (.ifCond .eq 14, 3) := by decide +kernel
theorem dX7_fault_8 : decode cX7_fault 8 = .ok (.aload_n 0, 1) := by decide +kernel
theorem dX7_fault_9 : decode cX7_fault 9 = .ok (.iload_n 1, 1) := by decide +kernel
theorem dX7_fault_10 : decode cX7_fault 10 = .ok (.invokevirtual 87, 3) := by decide +kernel
theorem dX7_fault_13 : decode cX7_fault 13 = .ok (.getfield 101, 3) := by decide +kernel
theorem dX7_fault_16 : decode cX7_fault 16 = .ok (.goto 5, 3) := by decide +kernel
theorem dX7_fault_19 : decode cX7_fault 19 = .ok (.bipush (-2), 2) := by decide +kernel
theorem dX7_fault_21 : decode cX7_fault 21 = .ok (.ireturn, 1) := by decide +kernel
theorem dX7_hole_0 : decode cX7_hole 0 = .ok (.aload_n 0, 1) := by decide +kernel
theorem dX7_hole_1 : decode cX7_hole 1 = .ok (.iload_n 1, 1) := by decide +kernel
theorem dX7_hole_2 : decode cX7_hole 2 = .ok (.invokevirtual 104, 3) := by decide +kernel
theorem dX7_hole_5 : decode cX7_hole 5 = .ok (.ifCond .eq 23, 3) := by decide +kernel
theorem dX7_hole_8 : decode cX7_hole 8 = .ok (.iload_n 2, 1) := by decide +kernel
theorem dX7_hole_9 : decode cX7_hole 9 = .ok (.iconst 4, 1) := by decide +kernel
theorem dX7_hole_10 : decode cX7_hole 10 = .ok (.invokestatic 83, 3) := by decide +kernel
theorem dX7_hole_13 : decode cX7_hole 13 = .ok (.ifCond .eq 15, 3) := by decide +kernel
theorem dX7_hole_16 : decode cX7_hole 16 = .ok (.aload_n 0, 1) := by decide +kernel
theorem dX7_hole_17 : decode cX7_hole 17 = .ok (.getfield 16, 3) := by decide +kernel
theorem dX7_hole_20 : decode cX7_hole 20 = .ok (.iload_n 1, 1) := by decide +kernel
theorem dX7_hole_21 : decode cX7_hole 21 = .ok (.iload_n 2, 1) := by decide +kernel
theorem dX7_hole_22 : decode cX7_hole 22 = .ok (.invokevirtual 108, 3) := by decide +kernel
theorem dX7_hole_25 : decode cX7_hole 25 = .ok (.goto 5, 3) := by decide +kernel
theorem dX7_hole_28 : decode cX7_hole 28 = .ok (.bipush (-2), 2) := by decide +kernel
theorem dX7_hole_30 : decode cX7_hole 30 = .ok (.ireturn, 1) := by decide +kernel
theorem dX7_work_0 : decode cX7_work 0 = .ok (.aload_n 0, 1) := by decide +kernel
theorem dX7_work_1 : decode cX7_work 1 = .ok (.iload_n 1, 1) := by decide +kernel
theorem dX7_work_2 : decode cX7_work 2 = .ok (.invokevirtual 112, 3) := by decide +kernel
theorem dX7_work_5 : decode cX7_work 5 = .ok (.ifCond .eq 23, 3) := by decide +kernel
theorem dX7_work_8 : decode cX7_work 8 = .ok (.iload_n 2, 1) := by decide +kernel
theorem dX7_work_9 : decode cX7_work 9 = .ok (.iconst 4, 1) := by decide +kernel
theorem dX7_work_10 : decode cX7_work 10 = .ok (.invokestatic 83, 3) := by decide +kernel
theorem dX7_work_13 : decode cX7_work 13 = .ok (.ifCond .eq 15, 3) := by decide +kernel
theorem dX7_work_16 : decode cX7_work 16 = .ok (.aload_n 0, 1) := by decide +kernel
theorem dX7_work_17 : decode cX7_work 17 = .ok (.getfield 22, 3) := by decide +kernel
theorem dX7_work_20 : decode cX7_work 20 = .ok (.iload_n 1, 1) := by decide +kernel
theorem dX7_work_21 : decode cX7_work 21 = .ok (.iload_n 2, 1) := by decide +kernel
theorem dX7_work_22 : decode cX7_work 22 = .ok (.invokevirtual 108, 3) := by decide +kernel
theorem dX7_work_25 : decode cX7_work 25 = .ok (.goto 5, 3) := by decide +kernel
theorem dX7_work_28 : decode cX7_work 28 = .ok (.bipush (-2), 2) := by decide +kernel
theorem dX7_work_30 : decode cX7_work 30 = .ok (.ireturn, 1) := by decide +kernel
theorem dX7_loan_0 : decode cX7_loan 0 = .ok (.iload_n 1, 1) := by decide +kernel
theorem dX7_loan_1 : decode cX7_loan 1 = .ok (.iload_n 2, 1) := by decide +kernel
theorem dX7_loan_2 : decode cX7_loan 2 = .ok (.iload_n 3, 1) := by decide +kernel
theorem dX7_loan_3 : decode cX7_loan 3 = .ok (.iload 4, 2) := by decide +kernel
theorem dX7_loan_5 : decode cX7_loan 5 = .ok (.invokestatic 115, 3) := by decide +kernel
theorem dX7_loan_8 : decode cX7_loan 8 = .ok (.ifCond .ne 6, 3) := by decide +kernel
theorem dX7_loan_11 : decode cX7_loan 11 = .ok (.bipush (-2), 2) := by decide +kernel
theorem dX7_loan_13 : decode cX7_loan 13 = .ok (.ireturn, 1) := by decide +kernel
theorem dX7_loan_14 : decode cX7_loan 14 = .ok (.aload_n 0, 1) := by decide +kernel
theorem dX7_loan_15 : decode cX7_loan 15 = .ok (.getfield 30, 3) := by decide +kernel
theorem dX7_loan_18 : decode cX7_loan 18 = .ok (.getfield 119, 3) := by decide +kernel
theorem dX7_loan_21 : decode cX7_loan 21 = .ok (.invokevirtual 122, 3) := by decide +kernel
theorem dX7_loan_24 : decode cX7_loan 24 = .ok (.ifCond .eq 6, 3) := by decide +kernel
theorem dX7_loan_27 : decode cX7_loan 27 = .ok (.bipush (-4), 2) := by decide +kernel
theorem dX7_loan_29 : decode cX7_loan 29 = .ok (.ireturn, 1) := by decide +kernel
theorem dX7_loan_30 : decode cX7_loan 30 = .ok (.aload_n 0, 1) := by decide +kernel
theorem dX7_loan_31 : decode cX7_loan 31 = .ok (.iconst 1, 1) := by decide +kernel
theorem dX7_loan_32 : decode cX7_loan 32 = .ok (.putfield 48, 3) := by decide +kernel
theorem dX7_loan_35 : decode cX7_loan 35 = .ok (.aload_n 0, 1) := by decide +kernel
theorem dX7_loan_36 : decode cX7_loan 36 = .ok (.getfield 30, 3) := by decide +kernel
theorem dX7_loan_39 : decode cX7_loan 39 = .ok (.getfield 119, 3) := by decide +kernel
theorem dX7_loan_42 : decode cX7_loan 42 = .ok (.iload_n 1, 1) := by decide +kernel
theorem dX7_loan_43 : decode cX7_loan 43 = .ok (.iload_n 2, 1) := by decide +kernel
theorem dX7_loan_44 : decode cX7_loan 44 = .ok (.iload_n 3, 1) := by decide +kernel
theorem dX7_loan_45 : decode cX7_loan 45 = .ok (.iload 4, 2) := by decide +kernel
theorem dX7_loan_47 : decode cX7_loan 47 = .ok (.invokevirtual 126, 3) := by decide +kernel
theorem dX7_loan_50 : decode cX7_loan 50 = .ok (.ireturn, 1) := by decide +kernel
theorem dX7_fill_0 : decode cX7_fill 0 = .ok (.aload_n 0, 1) := by decide +kernel
theorem dX7_fill_1 : decode cX7_fill 1 = .ok (.aload_n 0, 1) := by decide +kernel
theorem dX7_fill_2 : decode cX7_fill 2 = .ok (.getfield 30, 3) := by decide +kernel
theorem dX7_fill_5 : decode cX7_fill 5 = .ok (.getfield 130, 3) := by decide +kernel
theorem dX7_fill_8 : decode cX7_fill 8 = .ok (.iload_n 1, 1) := by decide +kernel
theorem dX7_fill_9 : decode cX7_fill 9 = .ok (.iload_n 2, 1) := by decide +kernel
theorem dX7_fill_10 : decode cX7_fill 10 = .ok (.invokevirtual 133, 3) := by decide +kernel
theorem dX7_fill_13 : decode cX7_fill 13 = .ok (.ireturn, 1) := by decide +kernel
theorem dX7_patch_0 : decode cX7_patch 0 = .ok (.aload_n 0, 1) := by decide +kernel
theorem dX7_patch_1 : decode cX7_patch 1 = .ok (.aload_n 0, 1) := by decide +kernel
theorem dX7_patch_2 : decode cX7_patch 2 = .ok (.getfield 30, 3) := by decide +kernel
theorem dX7_patch_5 : decode cX7_patch 5 = .ok (.getfield 137, 3) := by decide +kernel
theorem dX7_patch_8 : decode cX7_patch 8 = .ok (.iload_n 1, 1) := by decide +kernel
theorem dX7_patch_9 : decode cX7_patch 9 = .ok (.iload_n 2, 1) := by decide +kernel
theorem dX7_patch_10 : decode cX7_patch 10 = .ok (.invokevirtual 133, 3) := by decide +kernel
theorem dX7_patch_13 : decode cX7_patch 13 = .ok (.ireturn, 1) := by decide +kernel
theorem dX7_back_0 : decode cX7_back 0 = .ok (.iload_n 1, 1) := by decide +kernel
theorem dX7_back_1 : decode cX7_back 1 = .ok (.iconst 3, 1) := by decide +kernel
theorem dX7_back_2 : decode cX7_back 2 = .ok (.invokestatic 83, 3) := by decide +kernel
theorem dX7_back_5 : decode cX7_back 5 = .ok (.ifCond .ne 6, 3) := by decide +kernel
theorem dX7_back_8 : decode cX7_back 8 = .ok (.bipush (-2), 2) := by decide +kernel
theorem dX7_back_10 : decode cX7_back 10 = .ok (.ireturn, 1) := by decide +kernel
theorem dX7_back_11 : decode cX7_back 11 = .ok (.iload_n 1, 1) := by decide +kernel
theorem dX7_back_12 : decode cX7_back 12 = .ok (.ifCond .ne 13, 3) := by decide +kernel
theorem dX7_back_15 : decode cX7_back 15 = .ok (.aload_n 0, 1) := by decide +kernel
theorem dX7_back_16 : decode cX7_back 16 = .ok (.getfield 30, 3) := by decide +kernel
theorem dX7_back_19 : decode cX7_back 19 = .ok (.getfield 119, 3) := by decide +kernel
theorem dX7_back_22 : decode cX7_back 22 = .ok (.goto 25, 3) := by decide +kernel
theorem dX7_back_25 : decode cX7_back 25 = .ok (.iload_n 1, 1) := by decide +kernel
theorem dX7_back_26 : decode cX7_back 26 = .ok (.iconst 1, 1) := by decide +kernel
theorem dX7_back_27 : decode cX7_back 27 = .ok (.if_icmp .ne 13, 3) := by decide +kernel
theorem dX7_back_30 : decode cX7_back 30 = .ok (.aload_n 0, 1) := by decide +kernel
theorem dX7_back_31 : decode cX7_back 31 = .ok (.getfield 30, 3) := by decide +kernel
theorem dX7_back_34 : decode cX7_back 34 = .ok (.getfield 130, 3) := by decide +kernel
theorem dX7_back_37 : decode cX7_back 37 = .ok (.goto 10, 3) := by decide +kernel
theorem dX7_back_40 : decode cX7_back 40 = .ok (.aload_n 0, 1) := by decide +kernel
theorem dX7_back_41 : decode cX7_back 41 = .ok (.getfield 30, 3) := by decide +kernel
theorem dX7_back_44 : decode cX7_back 44 = .ok (.getfield 137, 3) := by decide +kernel
theorem dX7_back_47 : decode cX7_back 47 = .ok (.astore_n 2, 1) := by decide +kernel
theorem dX7_back_48 : decode cX7_back 48 = .ok (.aload_n 2, 1) := by decide +kernel
theorem dX7_back_49 : decode cX7_back 49 = .ok (.getfield 140, 3) := by decide +kernel
theorem dX7_back_52 : decode cX7_back 52 = .ok (.ifCond .ne 6, 3) := by decide +kernel
theorem dX7_back_55 : decode cX7_back 55 = .ok (.bipush (-3), 2) := by decide +kernel
theorem dX7_back_57 : decode cX7_back 57 = .ok (.ireturn, 1) := by decide +kernel
theorem dX7_back_58 : decode cX7_back 58 = .ok (.aload_n 0, 1) := by decide +kernel
theorem dX7_back_59 : decode cX7_back 59 = .ok (.iconst 1, 1) := by decide +kernel
theorem dX7_back_60 : decode cX7_back 60 = .ok (.putfield 48, 3) := by decide +kernel
theorem dX7_back_63 : decode cX7_back 63 = .ok (.aload_n 2, 1) := by decide +kernel
theorem dX7_back_64 : decode cX7_back 64 = .ok (.aload_n 2, 1) := by decide +kernel
theorem dX7_back_65 : decode cX7_back 65 = .ok (.getfield 140, 3) := by decide +kernel
theorem dX7_back_68 : decode cX7_back 68 = .ok (.iconst 1, 1) := by decide +kernel
theorem dX7_back_69 : decode cX7_back 69 = .ok (.isub, 1) := by decide +kernel
theorem dX7_back_70 : decode cX7_back 70 = .ok (.invokevirtual 143, 3) := by decide +kernel
theorem dX7_back_73 : decode cX7_back 73 = .ok (.ireturn, 1) := by decide +kernel
theorem dX7_read_0 : decode cX7_read 0 = .ok (.iload_n 1, 1) := by decide +kernel
theorem dX7_read_1 : decode cX7_read 1 = .ok (.iconst 4, 1) := by decide +kernel
theorem dX7_read_2 : decode cX7_read 2 = .ok (.invokestatic 83, 3) := by decide +kernel
theorem dX7_read_5 : decode cX7_read 5 = .ok (.ifCond .ne 6, 3) := by decide +kernel
theorem dX7_read_8 : decode cX7_read 8 = .ok (.bipush (-2), 2) := by decide +kernel
theorem dX7_read_10 : decode cX7_read 10 = .ok (.ireturn, 1) := by decide +kernel
theorem dX7_read_11 : decode cX7_read 11 = .ok (.aload_n 0, 1) := by decide +kernel
theorem dX7_read_12 : decode cX7_read 12 = .ok (.getfield 71, 3) := by decide +kernel
theorem dX7_read_15 : decode cX7_read 15 = .ok (.iload_n 1, 1) := by decide +kernel
theorem dX7_read_16 : decode cX7_read 16 = .ok (.aaload, 1) := by decide +kernel
theorem dX7_read_17 : decode cX7_read 17 = .ok (.astore_n 2, 1) := by decide +kernel
theorem dX7_read_18 : decode cX7_read 18 = .ok (.aload_n 2, 1) := by decide +kernel
theorem dX7_read_19 : decode cX7_read 19 = .ok (.getfield 146, 3) := by decide +kernel
theorem dX7_read_22 : decode cX7_read 22 = .ok (.ifCond .eq 9, 3) := by decide +kernel
theorem dX7_read_25 : decode cX7_read 25 = .ok (.aload_n 0, 1) := by decide +kernel
theorem dX7_read_26 : decode cX7_read 26 = .ok (.iconst 1, 1) := by decide +kernel
theorem dX7_read_27 : decode cX7_read 27 = .ok (.invokevirtual 149, 3) := by decide +kernel
theorem dX7_read_30 : decode cX7_read 30 = .ok (.ireturn, 1) := by decide +kernel
theorem dX7_read_31 : decode cX7_read 31 = .ok (.iconst 0, 1) := by decide +kernel
theorem dX7_read_32 : decode cX7_read 32 = .ok (.istore_n 3, 1) := by decide +kernel
theorem dX7_read_33 : decode cX7_read 33 = .ok (.iconst 0, 1) := by decide +kernel
theorem dX7_read_34 : decode cX7_read 34 = .ok (.istore 4, 2) := by decide +kernel
theorem dX7_read_36 : decode cX7_read 36 = .ok (.iload 4, 2) := by decide +kernel
theorem dX7_read_38 : decode cX7_read 38 = .ok (.iconst 4, 1) := by decide +kernel
theorem dX7_read_39 : decode cX7_read 39 = .ok (.iadd, 1) := by decide +kernel
theorem dX7_read_40 : decode cX7_read 40 = .ok (.aload_n 2, 1) := by decide +kernel
theorem dX7_read_41 : decode cX7_read 41 = .ok (.getfield 152, 3) := by decide +kernel
theorem dX7_read_44 : decode cX7_read 44 = .ok (.if_icmp .gt 52, 3) := by decide +kernel
theorem dX7_read_47 : decode cX7_read 47 = .ok (.aload_n 0, 1) := by decide +kernel
theorem dX7_read_48 : decode cX7_read 48 = .ok (.aload_n 2, 1) := by decide +kernel
theorem dX7_read_49 : decode cX7_read 49 = .ok (.iload 4, 2) := by decide +kernel
theorem dX7_read_51 : decode cX7_read 51 = .ok (.invokevirtual 153, 3) := by decide +kernel
theorem dX7_read_54 : decode cX7_read 54 = .ok (.aload_n 2, 1) := by decide +kernel
theorem dX7_read_55 : decode cX7_read 55 = .ok (.iload 4, 2) := by decide +kernel
theorem dX7_read_57 : decode cX7_read 57 = .ok (.iconst 1, 1) := by decide +kernel
theorem dX7_read_58 : decode cX7_read 58 = .ok (.iadd, 1) := by decide +kernel
theorem dX7_read_59 : decode cX7_read 59 = .ok (.invokevirtual 153, 3) := by decide +kernel
theorem dX7_read_62 : decode cX7_read 62 = .ok (.aload_n 2, 1) := by decide +kernel
theorem dX7_read_63 : decode cX7_read 63 = .ok (.iload 4, 2) := by decide +kernel
theorem dX7_read_65 : decode cX7_read 65 = .ok (.iconst 2, 1) := by decide +kernel
theorem dX7_read_66 : decode cX7_read 66 = .ok (.iadd, 1) := by decide +kernel
theorem dX7_read_67 : decode cX7_read 67 = .ok (.invokevirtual 153, 3) := by decide +kernel
theorem dX7_read_70 : decode cX7_read 70 = .ok (.aload_n 2, 1) := by decide +kernel
theorem dX7_read_71 : decode cX7_read 71 = .ok (.iload 4, 2) := by decide +kernel
theorem dX7_read_73 : decode cX7_read 73 = .ok (.iconst 3, 1) := by decide +kernel
theorem dX7_read_74 : decode cX7_read 74 = .ok (.iadd, 1) := by decide +kernel
theorem dX7_read_75 : decode cX7_read 75 = .ok (.invokevirtual 153, 3) := by decide +kernel
theorem dX7_read_78 : decode cX7_read 78 = .ok (.invokevirtual 156, 3) := by decide +kernel
theorem dX7_read_81 : decode cX7_read 81 = .ok (.ifCond .ge 6, 3) := by decide +kernel
theorem dX7_read_84 : decode cX7_read 84 = .ok (.goto 12, 3) := by decide +kernel
theorem dX7_read_87 : decode cX7_read 87 = .ok (.iinc 3 1, 3) := by decide +kernel
theorem dX7_read_90 : decode cX7_read 90 = .ok (.iinc 4 4, 3) := by decide +kernel
theorem dX7_read_93 : decode cX7_read 93 = .ok (.goto (-57), 3) := by decide +kernel
theorem dX7_read_96 : decode cX7_read 96 = .ok (.iload_n 3, 1) := by decide +kernel
theorem dX7_read_97 : decode cX7_read 97 = .ok (.ireturn, 1) := by decide +kernel
theorem dX7_ease_0 : decode cX7_ease 0 = .ok (.iload_n 1, 1) := by decide +kernel
theorem dX7_ease_1 : decode cX7_ease 1 = .ok (.bipush 9, 2) := by decide +kernel
theorem dX7_ease_3 : decode cX7_ease 3 = .ok (.invokestatic 83, 3) := by decide +kernel
theorem dX7_ease_6 : decode cX7_ease 6 = .ok (.ifCond .ne 6, 3) := by decide +kernel
theorem dX7_ease_9 : decode cX7_ease 9 = .ok (.bipush (-2), 2) := by decide +kernel
theorem dX7_ease_11 : decode cX7_ease 11 = .ok (.ireturn, 1) := by decide +kernel
theorem dX7_ease_12 : decode cX7_ease 12 = .ok (.aload_n 0, 1) := by decide +kernel
theorem dX7_ease_13 : decode cX7_ease 13 = .ok (.getfield 75, 3) := by decide +kernel
theorem dX7_ease_16 : decode cX7_ease 16 = .ok (.istore_n 2, 1) := by decide +kernel
theorem dX7_ease_17 : decode cX7_ease 17 = .ok (.aload_n 0, 1) := by decide +kernel
theorem dX7_ease_18 : decode cX7_ease 18 = .ok (.iload_n 1, 1) := by decide +kernel
theorem dX7_ease_19 : decode cX7_ease 19 = .ok (.putfield 75, 3) := by decide +kernel
theorem dX7_ease_22 : decode cX7_ease 22 = .ok (.iload_n 2, 1) := by decide +kernel
theorem dX7_ease_23 : decode cX7_ease 23 = .ok (.ireturn, 1) := by decide +kernel
theorem dX7_is_0 : decode cX7_is 0 = .ok (.iload_n 1, 1) := by decide +kernel
theorem dX7_is_1 : decode cX7_is 1 = .ok (.bipush 40, 2) := by decide +kernel
theorem dX7_is_3 : decode cX7_is 3 = .ok (.invokestatic 83, 3) := by decide +kernel
theorem dX7_is_6 : decode cX7_is 6 = .ok (.ifCond .eq 19, 3) := by decide +kernel
theorem dX7_is_9 : decode cX7_is 9 = .ok (.aload_n 0, 1) := by decide +kernel
theorem dX7_is_10 : decode cX7_is 10 = .ok (.iload_n 2, 1) := by decide +kernel
theorem dX7_is_11 : decode cX7_is 11 = .ok (.invokevirtual 104, 3) := by decide +kernel
theorem dX7_is_14 : decode cX7_is 14 = .ok (.ifCond .eq 11, 3) := by decide +kernel
theorem dX7_is_17 : decode cX7_is 17 = .ok (.iload_n 3, 1) := by decide +kernel
theorem dX7_is_18 : decode cX7_is 18 = .ok (.iconst 3, 1) := by decide +kernel
theorem dX7_is_19 : decode cX7_is 19 = .ok (.invokestatic 83, 3) := by decide +kernel
theorem dX7_is_22 : decode cX7_is 22 = .ok (.ifCond .ne 6, 3) := by decide +kernel
theorem dX7_is_25 : decode cX7_is 25 = .ok (.bipush (-2), 2) := by decide +kernel
theorem dX7_is_27 : decode cX7_is 27 = .ok (.ireturn, 1) := by decide +kernel
theorem dX7_is_28 : decode cX7_is 28 = .ok (.aload_n 0, 1) := by decide +kernel
theorem dX7_is_29 : decode cX7_is 29 = .ok (.invokevirtual 159, 3) := by decide +kernel
theorem dX7_is_32 : decode cX7_is 32 = .ok (.astore 4, 2) := by decide +kernel
theorem dX7_is_34 : decode cX7_is 34 = .ok (.iload_n 3, 1) := by decide +kernel
theorem dX7_is_35 : decode cX7_is 35 = .ok (.ifCond .ne 11, 3) := by decide +kernel
theorem dX7_is_38 : decode cX7_is 38 = .ok (.aload 4, 2) := by decide +kernel
theorem dX7_is_40 : decode cX7_is 40 = .ok (.iload_n 1, 1) := by decide +kernel
theorem dX7_is_41 : decode cX7_is 41 = .ok (.iload_n 2, 1) := by decide +kernel
theorem dX7_is_42 : decode cX7_is 42 = .ok (.invokevirtual 163, 3) := by decide +kernel
theorem dX7_is_45 : decode cX7_is 45 = .ok (.ireturn, 1) := by decide +kernel
theorem dX7_is_46 : decode cX7_is 46 = .ok (.iload_n 3, 1) := by decide +kernel
theorem dX7_is_47 : decode cX7_is 47 = .ok (.iconst 1, 1) := by decide +kernel
theorem dX7_is_48 : decode cX7_is 48 = .ok (.if_icmp .ne 11, 3) := by decide +kernel
theorem dX7_is_51 : decode cX7_is 51 = .ok (.aload 4, 2) := by decide +kernel
theorem dX7_is_53 : decode cX7_is 53 = .ok (.iload_n 1, 1) := by decide +kernel
theorem dX7_is_54 : decode cX7_is 54 = .ok (.iload_n 2, 1) := by decide +kernel
theorem dX7_is_55 : decode cX7_is 55 = .ok (.invokevirtual 166, 3) := by decide +kernel
theorem dX7_is_58 : decode cX7_is 58 = .ok (.ireturn, 1) := by decide +kernel
theorem dX7_is_59 : decode cX7_is 59 = .ok (.aload 4, 2) := by decide +kernel
theorem dX7_is_61 : decode cX7_is 61 = .ok (.iload_n 1, 1) := by decide +kernel
theorem dX7_is_62 : decode cX7_is 62 = .ok (.iload_n 2, 1) := by decide +kernel
theorem dX7_is_63 : decode cX7_is 63 = .ok (.invokevirtual 169, 3) := by decide +kernel
theorem dX7_is_66 : decode cX7_is 66 = .ok (.istore 5, 2) := by decide +kernel
theorem dX7_is_68 : decode cX7_is 68 = .ok (.iload 5, 2) := by decide +kernel
theorem dX7_is_70 : decode cX7_is 70 = .ok (.iconst (-1), 1) := by decide +kernel
theorem dX7_is_71 : decode cX7_is 71 = .ok (.if_icmp .ne 7, 3) := by decide +kernel
theorem dX7_is_74 : decode cX7_is 74 = .ok (.iconst (-1), 1) := by decide +kernel
theorem dX7_is_75 : decode cX7_is 75 = .ok (.goto 16, 3) := by decide +kernel
theorem dX7_is_78 : decode cX7_is 78 = .ok (.aload_n 0, 1) := by decide +kernel
theorem dX7_is_79 : decode cX7_is 79 = .ok (.getfield 30, 3) := by decide +kernel
theorem dX7_is_82 : decode cX7_is 82 = .ok (.getfield 119, 3) := by decide +kernel
theorem dX7_is_85 : decode cX7_is 85 = .ok (.iload 5, 2) := by decide +kernel
theorem dX7_is_87 : decode cX7_is 87 = .ok (.iconst 2, 1) := by decide +kernel
theorem dX7_is_88 : decode cX7_is 88 = .ok (.invokevirtual 172, 3) := by decide +kernel
theorem dX7_is_91 : decode cX7_is 91 = .ok (.ireturn, 1) := by decide +kernel
theorem dX7_behind_0 : decode cX7_behind 0 = .ok (.iload_n 1, 1) := by decide +kernel
theorem dX7_behind_1 : decode cX7_behind 1 = .ok (.bipush 40, 2) := by decide +kernel
theorem dX7_behind_3 : decode cX7_behind 3 = .ok (.invokestatic 83, 3) := by decide +kernel
theorem dX7_behind_6 : decode cX7_behind 6 = .ok (.ifCond .eq 11, 3) := by decide +kernel
theorem dX7_behind_9 : decode cX7_behind 9 = .ok (.iload_n 2, 1) := by decide +kernel
theorem dX7_behind_10 : decode cX7_behind 10 = .ok (.iconst 2, 1) := by decide +kernel
theorem dX7_behind_11 : decode cX7_behind 11 = .ok (.invokestatic 83, 3) := by decide +kernel
theorem dX7_behind_14 : decode cX7_behind 14 = .ok (.ifCond .ne 6, 3) := by decide +kernel
theorem dX7_behind_17 : decode cX7_behind 17 = .ok (.bipush (-2), 2) := by decide +kernel
theorem dX7_behind_19 : decode cX7_behind 19 = .ok (.ireturn, 1) := by decide +kernel
theorem dX7_behind_20 : decode cX7_behind 20 = .ok (.aload_n 0, 1) := by decide +kernel
theorem dX7_behind_21 : decode cX7_behind 21 = .ok (.invokevirtual 159, 3) := by decide +kernel
theorem dX7_behind_24 : decode cX7_behind 24 = .ok (.astore_n 3, 1) := by decide +kernel
theorem dX7_behind_25 : decode cX7_behind 25 = .ok (.iload_n 2, 1) := by decide +kernel
