theorem dX0_init_0 : decode cX0_init 0 = .ok (.aload_n 0, 1) := by decide +kernel
theorem dX0_init_1 : decode cX0_init 1 = .ok (.invokespecial 3, 3) := by decide +kernel
theorem dX0_init_4 : decode cX0_init 4 = .ok (.aload_n 0, 1) := by decide +kernel
theorem dX0_init_5 : decode cX0_init 5 = .ok (.bipush 40, 2) := by decide +kernel
theorem dX0_init_7 : decode cX0_init 7 = .ok (.anewarray 9, 3) := by decide +kernel
theorem dX0_init_10 : decode cX0_init 10 = .ok (.putfield 11, 3) := by decide +kernel
theorem dX0_init_13 : decode cX0_init 13 = .ok (.aload_n 0, 1) := by decide +kernel
theorem dX0_init_14 : decode cX0_init 14 = .ok (.iconst 0, 1) := by decide +kernel
theorem dX0_init_15 : decode cX0_init 15 = .ok (.putfield 17, 3) := by decide +kernel
theorem dX0_init_18 : decode cX0_init 18 = .ok (.aload_n 0, 1) := by decide +kernel
theorem dX0_init_19 : decode cX0_init 19 = .ok (.iconst 0, 1) := by decide +kernel
theorem dX0_init_20 : decode cX0_init 20 = .ok (.putfield 21, 3) := by decide +kernel
theorem dX0_init_23 : decode cX0_init 23 = .ok (.return_, 1) := by decide +kernel
theorem dX0_many_0 : decode cX0_many 0 = .ok (.aload_n 0, 1) := by decide +kernel
theorem dX0_many_1 : decode cX0_many 1 = .ok (.getfield 21, 3) := by decide +kernel
theorem dX0_many_4 : decode cX0_many 4 = .ok (.ireturn, 1) := by decide +kernel
theorem dX0_clear_0 : decode cX0_clear 0 = .ok (.aload_n 0, 1) := by decide +kernel
theorem dX0_clear_1 : decode cX0_clear 1 = .ok (.iconst 0, 1) := by decide +kernel
theorem dX0_clear_2 : decode cX0_clear 2 = .ok (.putfield 17, 3) := by decide +kernel
theorem dX0_clear_5 : decode cX0_clear 5 = .ok (.aload_n 0, 1) := by decide +kernel
theorem dX0_clear_6 : decode cX0_clear 6 = .ok (.iconst 0, 1) := by decide +kernel
theorem dX0_clear_7 : decode cX0_clear 7 = .ok (.putfield 21, 3) := by decide +kernel
theorem dX0_clear_10 : decode cX0_clear 10 = .ok (.return_, 1) := by decide +kernel
theorem dX0_keep_0 : decode cX0_keep 0 = .ok (.aload_n 0, 1) := by decide +kernel
theorem dX0_keep_1 : decode cX0_keep 1 = .ok (.getfield 21, 3) := by decide +kernel
theorem dX0_keep_4 : decode cX0_keep 4 = .ok (.bipush 40, 2) := by decide +kernel
theorem dX0_keep_6 : decode cX0_keep 6 = .ok (.if_icmp .lt 26, 3) := by decide +kernel
theorem dX0_keep_9 : decode cX0_keep 9 = .ok (.aload_n 0, 1) := by decide +kernel
theorem dX0_keep_10 : decode cX0_keep 10 = .ok (.aload_n 0, 1) := by decide +kernel
theorem dX0_keep_11 : decode cX0_keep 11 = .ok (.getfield 17, 3) := by decide +kernel
theorem dX0_keep_14 : decode cX0_keep 14 = .ok (.iconst 1, 1) := by decide +kernel
theorem dX0_keep_15 : decode cX0_keep 15 = .ok (.iadd, 1) := by decide +kernel
theorem dX0_keep_16 : decode cX0_keep 16 = .ok (.bipush 40, 2) := by decide +kernel
theorem dX0_keep_18 : decode cX0_keep 18 = .ok (.irem, 1) := by decide +kernel
theorem dX0_keep_19 : decode cX0_keep 19 = .ok (.putfield 17, 3) := by decide +kernel
theorem dX0_keep_22 : decode cX0_keep 22 = .ok (.aload_n 0, 1) := by decide +kernel
theorem dX0_keep_23 : decode cX0_keep 23 = .ok (.dup, 1) := by decide +kernel
theorem dX0_keep_24 : decode cX0_keep 24 = .ok (.getfield 21, 3) := by decide +kernel
theorem dX0_keep_27 : decode cX0_keep 27 = .ok (.iconst 1, 1) := by decide +kernel
theorem dX0_keep_28 : decode cX0_keep 28 = .ok (.isub, 1) := by decide +kernel
theorem dX0_keep_29 : decode cX0_keep 29 = .ok (.putfield 21, 3) := by decide +kernel
theorem dX0_keep_32 : decode cX0_keep 32 = .ok (.aload_n 0, 1) := by decide +kernel
theorem dX0_keep_33 : decode cX0_keep 33 = .ok (.aload_n 0, 1) := by decide +kernel
theorem dX0_keep_34 : decode cX0_keep 34 = .ok (.getfield 17, 3) := by decide +kernel
theorem dX0_keep_37 : decode cX0_keep 37 = .ok (.aload_n 0, 1) := by decide +kernel
theorem dX0_keep_38 : decode cX0_keep 38 = .ok (.getfield 21, 3) := by decide +kernel
theorem dX0_keep_41 : decode cX0_keep 41 = .ok (.iadd, 1) := by decide +kernel
theorem dX0_keep_42 : decode cX0_keep 42 = .ok (.bipush 40, 2) := by decide +kernel
theorem dX0_keep_44 : decode cX0_keep 44 = .ok (.irem, 1) := by decide +kernel
theorem dX0_keep_45 : decode cX0_keep 45 = .ok (.invokevirtual 24, 3) := by decide +kernel
theorem dX0_keep_48 : decode cX0_keep 48 = .ok (.aload_n 1, 1) := by decide +kernel
theorem dX0_keep_49 : decode cX0_keep 49 = .ok (.invokevirtual 28, 3) := by decide +kernel
theorem dX0_keep_52 : decode cX0_keep 52 = .ok (.aload_n 0, 1) := by decide +kernel
theorem dX0_keep_53 : decode cX0_keep 53 = .ok (.dup, 1) := by decide +kernel
theorem dX0_keep_54 : decode cX0_keep 54 = .ok (.getfield 21, 3) := by decide +kernel
theorem dX0_keep_57 : decode cX0_keep 57 = .ok (.iconst 1, 1) := by decide +kernel
theorem dX0_keep_58 : decode cX0_keep 58 = .ok (.iadd, 1) := by decide +kernel
theorem dX0_keep_59 : decode cX0_keep 59 = .ok (.putfield 21, 3) := by decide +kernel
theorem dX0_keep_62 : decode cX0_keep 62 = .ok (.return_, 1) := by decide +kernel
theorem dX0_takeBack_0 : decode cX0_takeBack 0 = .ok (.aload_n 0, 1) := by decide +kernel
theorem dX0_takeBack_1 : decode cX0_takeBack 1 = .ok (.getfield 21, 3) := by decide +kernel
theorem dX0_takeBack_4 : decode cX0_takeBack 4 = .ok (.ifCond .gt 5, 3) := by decide +kernel
theorem dX0_takeBack_7 : decode cX0_takeBack 7 = .ok (.iconst 0, 1) := by decide +kernel
theorem dX0_takeBack_8 : decode cX0_takeBack 8 = .ok (.ireturn, 1) := by decide +kernel
theorem dX0_takeBack_9 : decode cX0_takeBack 9 = .ok (.aload_n 0, 1) := by decide +kernel
theorem dX0_takeBack_10 : decode cX0_takeBack 10 = .ok (.dup, 1) := by decide +kernel
theorem dX0_takeBack_11 : decode cX0_takeBack 11 = .ok (.getfield 21, 3) := by decide +kernel
theorem dX0_takeBack_14 : decode cX0_takeBack 14 = .ok (.iconst 1, 1) := by decide +kernel
theorem dX0_takeBack_15 : decode cX0_takeBack 15 = .ok (.isub, 1) := by decide +kernel
theorem dX0_takeBack_16 : decode cX0_takeBack 16 = .ok (.putfield 21, 3) := by decide +kernel
theorem dX0_takeBack_19 : decode cX0_takeBack 19 = .ok (.aload_n 1, 1) := by decide +kernel
theorem dX0_takeBack_20 : decode cX0_takeBack 20 = .ok (.aload_n 0, 1) := by decide +kernel
theorem dX0_takeBack_21 : decode cX0_takeBack 21 = .ok (.aload_n 0, 1) := by decide +kernel
theorem dX0_takeBack_22 : decode cX0_takeBack 22 = .ok (.getfield 17, 3) := by decide +kernel
theorem dX0_takeBack_25 : decode cX0_takeBack 25 = .ok (.aload_n 0, 1) := by decide +kernel
theorem dX0_takeBack_26 : decode cX0_takeBack 26 = .ok (.getfield 21, 3) := by decide +kernel
theorem dX0_takeBack_29 : decode cX0_takeBack 29 = .ok (.iadd, 1) := by decide +kernel
theorem dX0_takeBack_30 : decode cX0_takeBack 30 = .ok (.bipush 40, 2) := by decide +kernel
theorem dX0_takeBack_32 : decode cX0_takeBack 32 = .ok (.irem, 1) := by decide +kernel
theorem dX0_takeBack_33 : decode cX0_takeBack 33 = .ok (.invokevirtual 24, 3) := by decide +kernel
theorem dX0_takeBack_36 : decode cX0_takeBack 36 = .ok (.invokevirtual 28, 3) := by decide +kernel
theorem dX0_takeBack_39 : decode cX0_takeBack 39 = .ok (.iconst 1, 1) := by decide +kernel
theorem dX0_takeBack_40 : decode cX0_takeBack 40 = .ok (.ireturn, 1) := by decide +kernel
theorem dX0_row_0 : decode cX0_row 0 = .ok (.aload_n 0, 1) := by decide +kernel
theorem dX0_row_1 : decode cX0_row 1 = .ok (.getfield 11, 3) := by decide +kernel
theorem dX0_row_4 : decode cX0_row 4 = .ok (.iload_n 1, 1) := by decide +kernel
theorem dX0_row_5 : decode cX0_row 5 = .ok (.aaload, 1) := by decide +kernel
theorem dX0_row_6 : decode cX0_row 6 = .ok (.astore_n 2, 1) := by decide +kernel
theorem dX0_row_7 : decode cX0_row 7 = .ok (.aload_n 2, 1) := by decide +kernel
theorem dX0_row_8 : decode cX0_row 8 = .ok (.ifnonnull 18, 3) := by decide +kernel
theorem dX0_row_11 : decode cX0_row 11 = .ok (.new 9, 3) := by decide +kernel
theorem dX0_row_14 : decode cX0_row 14 = .ok (.dup, 1) := by decide +kernel
theorem dX0_row_15 : decode cX0_row 15 = .ok (.invokespecial 32, 3) := by decide +kernel
theorem dX0_row_18 : decode cX0_row 18 = .ok (.astore_n 2, 1) := by decide +kernel
theorem dX0_row_19 : decode cX0_row 19 = .ok (.aload_n 0, 1) := by decide +kernel
theorem dX0_row_20 : decode cX0_row 20 = .ok (.getfield 11, 3) := by decide +kernel
theorem dX0_row_23 : decode cX0_row 23 = .ok (.iload_n 1, 1) := by decide +kernel
theorem dX0_row_24 : decode cX0_row 24 = .ok (.aload_n 2, 1) := by decide +kernel
theorem dX0_row_25 : decode cX0_row 25 = .ok (.aastore, 1) := by decide +kernel
theorem dX0_row_26 : decode cX0_row 26 = .ok (.aload_n 2, 1) := by decide +kernel
theorem dX0_row_27 : decode cX0_row 27 = .ok (.areturn, 1) := by decide +kernel
theorem dX0_copy_0 : decode cX0_copy 0 = .ok (.aload_n 0, 1) := by decide +kernel
theorem dX0_copy_1 : decode cX0_copy 1 = .ok (.iconst 0, 1) := by decide +kernel
theorem dX0_copy_2 : decode cX0_copy 2 = .ok (.putfield 17, 3) := by decide +kernel
theorem dX0_copy_5 : decode cX0_copy 5 = .ok (.aload_n 0, 1) := by decide +kernel
theorem dX0_copy_6 : decode cX0_copy 6 = .ok (.aload_n 1, 1) := by decide +kernel
theorem dX0_copy_7 : decode cX0_copy 7 = .ok (.getfield 21, 3) := by decide +kernel
theorem dX0_copy_10 : decode cX0_copy 10 = .ok (.putfield 21, 3) := by decide +kernel
theorem dX0_copy_13 : decode cX0_copy 13 = .ok (.iconst 0, 1) := by decide +kernel
theorem dX0_copy_14 : decode cX0_copy 14 = .ok (.istore_n 2, 1) := by decide +kernel
theorem dX0_copy_15 : decode cX0_copy 15 = .ok (.iload_n 2, 1) := by decide +kernel
theorem dX0_copy_16 : decode cX0_copy 16 = .ok (.aload_n 0, 1) := by decide +kernel
theorem dX0_copy_17 : decode cX0_copy 17 = .ok (.getfield 21, 3) := by decide +kernel
theorem dX0_copy_20 : decode cX0_copy 20 = .ok (.if_icmp .ge 30, 3) := by decide +kernel
theorem dX0_copy_23 : decode cX0_copy 23 = .ok (.aload_n 0, 1) := by decide +kernel
theorem dX0_copy_24 : decode cX0_copy 24 = .ok (.iload_n 2, 1) := by decide +kernel
theorem dX0_copy_25 : decode cX0_copy 25 = .ok (.invokevirtual 24, 3) := by decide +kernel
theorem dX0_copy_28 : decode cX0_copy 28 = .ok (.aload_n 1, 1) := by decide +kernel
theorem dX0_copy_29 : decode cX0_copy 29 = .ok (.aload_n 1, 1) := by decide +kernel
theorem dX0_copy_30 : decode cX0_copy 30 = .ok (.getfield 17, 3) := by decide +kernel
theorem dX0_copy_33 : decode cX0_copy 33 = .ok (.iload_n 2, 1) := by decide +kernel
theorem dX0_copy_34 : decode cX0_copy 34 = .ok (.iadd, 1) := by decide +kernel
theorem dX0_copy_35 : decode cX0_copy 35 = .ok (.bipush 40, 2) := by decide +kernel
theorem dX0_copy_37 : decode cX0_copy 37 = .ok (.irem, 1) := by decide +kernel
theorem dX0_copy_38 : decode cX0_copy 38 = .ok (.invokevirtual 24, 3) := by decide +kernel
theorem dX0_copy_41 : decode cX0_copy 41 = .ok (.invokevirtual 28, 3) := by decide +kernel
theorem dX0_copy_44 : decode cX0_copy 44 = .ok (.iinc 2 1, 3) := by decide +kernel
theorem dX0_copy_47 : decode cX0_copy 47 = .ok (.goto (-32), 3) := by decide +kernel
theorem dX0_copy_50 : decode cX0_copy 50 = .ok (.return_, 1) := by decide +kernel
theorem dX1_init_0 : decode cX1_init 0 = .ok (.aload_n 0, 1) := by decide +kernel
theorem dX1_init_1 : decode cX1_init 1 = .ok (.invokespecial 3, 3) := by decide +kernel
theorem dX1_init_4 : decode cX1_init 4 = .ok (.aload_n 0, 1) := by decide +kernel
theorem dX1_init_5 : decode cX1_init 5 = .ok (.sipush 256, 3) := by decide +kernel
theorem dX1_init_8 : decode cX1_init 8 = .ok (.newarray .int, 2) := by decide +kernel
theorem dX1_init_10 : decode cX1_init 10 = .ok (.putfield 11, 3) := by decide +kernel
theorem dX1_init_13 : decode cX1_init 13 = .ok (.aload_n 0, 1) := by decide +kernel
theorem dX1_init_14 : decode cX1_init 14 = .ok (.sipush 256, 3) := by decide +kernel
theorem dX1_init_17 : decode cX1_init 17 = .ok (.newarray .int, 2) := by decide +kernel
theorem dX1_init_19 : decode cX1_init 19 = .ok (.putfield 15, 3) := by decide +kernel
theorem dX1_init_22 : decode cX1_init 22 = .ok (.aload_n 0, 1) := by decide +kernel
theorem dX1_init_23 : decode cX1_init 23 = .ok (.bipush 8, 2) := by decide +kernel
theorem dX1_init_25 : decode cX1_init 25 = .ok (.newarray .int, 2) := by decide +kernel
theorem dX1_init_27 : decode cX1_init 27 = .ok (.putfield 18, 3) := by decide +kernel
theorem dX1_init_30 : decode cX1_init 30 = .ok (.aload_n 0, 1) := by decide +kernel
theorem dX1_init_31 : decode cX1_init 31 = .ok (.iconst 0, 1) := by decide +kernel
theorem dX1_init_32 : decode cX1_init 32 = .ok (.putfield 21, 3) := by decide +kernel
theorem dX1_init_35 : decode cX1_init 35 = .ok (.return_, 1) := by decide +kernel
theorem dX1_solve_0 : decode cX1_solve 0 = .ok (.aload_n 0, 1) := by decide +kernel
theorem dX1_solve_1 : decode cX1_solve 1 = .ok (.aload_n 1, 1) := by decide +kernel
theorem dX1_solve_2 : decode cX1_solve 2 = .ok (.getfield 25, 3) := by decide +kernel
theorem dX1_solve_5 : decode cX1_solve 5 = .ok (.putfield 21, 3) := by decide +kernel
theorem dX1_solve_8 : decode cX1_solve 8 = .ok (.aload_n 0, 1) := by decide +kernel
theorem dX1_solve_9 : decode cX1_solve 9 = .ok (.getfield 11, 3) := by decide +kernel
theorem dX1_solve_12 : decode cX1_solve 12 = .ok (.iconst 0, 1) := by decide +kernel
theorem dX1_solve_13 : decode cX1_solve 13 = .ok (.invokestatic 28, 3) := by decide +kernel
theorem dX1_solve_16 : decode cX1_solve 16 = .ok (.aload_n 0, 1) := by decide +kernel
theorem dX1_solve_17 : decode cX1_solve 17 = .ok (.getfield 15, 3) := by decide +kernel
theorem dX1_solve_20 : decode cX1_solve 20 = .ok (.iconst 0, 1) := by decide +kernel
theorem dX1_solve_21 : decode cX1_solve 21 = .ok (.invokestatic 28, 3) := by decide +kernel
theorem dX1_solve_24 : decode cX1_solve 24 = .ok (.aload_n 1, 1) := by decide +kernel
theorem dX1_solve_25 : decode cX1_solve 25 = .ok (.aload_n 2, 1) := by decide +kernel
theorem dX1_solve_26 : decode cX1_solve 26 = .ok (.invokevirtual 34, 3) := by decide +kernel
theorem dX1_solve_29 : decode cX1_solve 29 = .ok (.istore_n 3, 1) := by decide +kernel
theorem dX1_solve_30 : decode cX1_solve 30 = .ok (.aload_n 1, 1) := by decide +kernel
theorem dX1_solve_31 : decode cX1_solve 31 = .ok (.getfield 38, 3) := by decide +kernel
theorem dX1_solve_34 : decode cX1_solve 34 = .ok (.iconst 1, 1) := by decide +kernel
theorem dX1_solve_35 : decode cX1_solve 35 = .ok (.isub, 1) := by decide +kernel
theorem dX1_solve_36 : decode cX1_solve 36 = .ok (.istore 4, 2) := by decide +kernel
theorem dX1_solve_38 : decode cX1_solve 38 = .ok (.iload 4, 2) := by decide +kernel
theorem dX1_solve_40 : decode cX1_solve 40 = .ok (.ifCond .lt 88, 3) := by decide +kernel
theorem dX1_solve_43 : decode cX1_solve 43 = .ok (.iconst 0, 1) := by decide +kernel
theorem dX1_solve_44 : decode cX1_solve 44 = .ok (.istore 5, 2) := by decide +kernel
theorem dX1_solve_46 : decode cX1_solve 46 = .ok (.iload 5, 2) := by decide +kernel
theorem dX1_solve_48 : decode cX1_solve 48 = .ok (.aload_n 0, 1) := by decide +kernel
theorem dX1_solve_49 : decode cX1_solve 49 = .ok (.getfield 21, 3) := by decide +kernel
theorem dX1_solve_52 : decode cX1_solve 52 = .ok (.if_icmp .ge 45, 3) := by decide +kernel
theorem dX1_solve_55 : decode cX1_solve 55 = .ok (.aload_n 1, 1) := by decide +kernel
theorem dX1_solve_56 : decode cX1_solve 56 = .ok (.aload_n 2, 1) := by decide +kernel
theorem dX1_solve_57 : decode cX1_solve 57 = .ok (.iload 4, 2) := by decide +kernel
theorem dX1_solve_59 : decode cX1_solve 59 = .ok (.iload 5, 2) := by decide +kernel
theorem dX1_solve_61 : decode cX1_solve 61 = .ok (.iload_n 3, 1) := by decide +kernel
theorem dX1_solve_62 : decode cX1_solve 62 = .ok (.invokevirtual 41, 3) := by decide +kernel
theorem dX1_solve_65 : decode cX1_solve 65 = .ok (.istore 6, 2) := by decide +kernel
theorem dX1_solve_67 : decode cX1_solve 67 = .ok (.aload_n 0, 1) := by decide +kernel
theorem dX1_solve_68 : decode cX1_solve 68 = .ok (.getfield 18, 3) := by decide +kernel
theorem dX1_solve_71 : decode cX1_solve 71 = .ok (.iload 5, 2) := by decide +kernel
theorem dX1_solve_73 : decode cX1_solve 73 = .ok (.iload 6, 2) := by decide +kernel
theorem dX1_solve_75 : decode cX1_solve 75 = .ok (.ifCond .eq 14, 3) := by decide +kernel
theorem dX1_solve_78 : decode cX1_solve 78 = .ok (.aload_n 2, 1) := by decide +kernel
theorem dX1_solve_79 : decode cX1_solve 79 = .ok (.iload 4, 2) := by decide +kernel
theorem dX1_solve_81 : decode cX1_solve 81 = .ok (.iload 5, 2) := by decide +kernel
theorem dX1_solve_83 : decode cX1_solve 83 = .ok (.invokevirtual 45, 3) := by decide +kernel
theorem dX1_solve_86 : decode cX1_solve 86 = .ok (.goto 4, 3) := by decide +kernel
theorem dX1_solve_89 : decode cX1_solve 89 = .ok (.iconst (-1), 1) := by decide +kernel
theorem dX1_solve_90 : decode cX1_solve 90 = .ok (.iastore, 1) := by decide +kernel
theorem dX1_solve_91 : decode cX1_solve 91 = .ok (.iinc 5 1, 3) := by decide +kernel
theorem dX1_solve_94 : decode cX1_solve 94 = .ok (.goto (-48), 3) := by decide +kernel
theorem dX1_solve_97 : decode cX1_solve 97 = .ok (.aload_n 0, 1) := by decide +kernel
theorem dX1_solve_98 : decode cX1_solve 98 = .ok (.invokevirtual 51, 3) := by decide +kernel
theorem dX1_solve_101 : decode cX1_solve 101 = .ok (.istore 5, 2) := by decide +kernel
theorem dX1_solve_103 : decode cX1_solve 103 = .ok (.iload 5, 2) := by decide +kernel
theorem dX1_solve_105 : decode cX1_solve 105 = .ok (.ifCond .lt 17, 3) := by decide +kernel
theorem dX1_solve_108 : decode cX1_solve 108 = .ok (.aload_n 0, 1) := by decide +kernel
theorem dX1_solve_109 : decode cX1_solve 109 = .ok (.iload 4, 2) := by decide +kernel
theorem dX1_solve_111 : decode cX1_solve 111 = .ok (.iload 5, 2) := by decide +kernel
theorem dX1_solve_113 : decode cX1_solve 113 = .ok (.invokevirtual 55, 3) := by decide +kernel
theorem dX1_solve_116 : decode cX1_solve 116 = .ok (.iinc 5 (-1), 3) := by decide +kernel
theorem dX1_solve_119 : decode cX1_solve 119 = .ok (.goto (-16), 3) := by decide +kernel
theorem dX1_solve_122 : decode cX1_solve 122 = .ok (.iinc 4 (-1), 3) := by decide +kernel
theorem dX1_solve_125 : decode cX1_solve 125 = .ok (.goto (-87), 3) := by decide +kernel
theorem dX1_solve_128 : decode cX1_solve 128 = .ok (.return_, 1) := by decide +kernel
theorem dX1_all_0 : decode cX1_all 0 = .ok (.iconst 1, 1) := by decide +kernel
theorem dX1_all_1 : decode cX1_all 1 = .ok (.aload_n 0, 1) := by decide +kernel
theorem dX1_all_2 : decode cX1_all 2 = .ok (.getfield 21, 3) := by decide +kernel
theorem dX1_all_5 : decode cX1_all 5 = .ok (.ishl, 1) := by decide +kernel
theorem dX1_all_6 : decode cX1_all 6 = .ok (.iconst 1, 1) := by decide +kernel
theorem dX1_all_7 : decode cX1_all 7 = .ok (.isub, 1) := by decide +kernel
theorem dX1_all_8 : decode cX1_all 8 = .ok (.ireturn, 1) := by decide +kernel
theorem dX1_pick_0 : decode cX1_pick 0 = .ok (.aload_n 0, 1) := by decide +kernel
theorem dX1_pick_1 : decode cX1_pick 1 = .ok (.getfield 11, 3) := by decide +kernel
theorem dX1_pick_4 : decode cX1_pick 4 = .ok (.iload_n 2, 1) := by decide +kernel
theorem dX1_pick_5 : decode cX1_pick 5 = .ok (.iaload, 1) := by decide +kernel
theorem dX1_pick_6 : decode cX1_pick 6 = .ok (.sipush 1000, 3) := by decide +kernel
theorem dX1_pick_9 : decode cX1_pick 9 = .ok (.iadd, 1) := by decide +kernel
theorem dX1_pick_10 : decode cX1_pick 10 = .ok (.istore_n 3, 1) := by decide +kernel
theorem dX1_pick_11 : decode cX1_pick 11 = .ok (.bipush 15, 2) := by decide +kernel
theorem dX1_pick_13 : decode cX1_pick 13 = .ok (.istore 4, 2) := by decide +kernel
theorem dX1_pick_15 : decode cX1_pick 15 = .ok (.aload_n 0, 1) := by decide +kernel
theorem dX1_pick_16 : decode cX1_pick 16 = .ok (.getfield 21, 3) := by decide +kernel
theorem dX1_pick_19 : decode cX1_pick 19 = .ok (.iconst 1, 1) := by decide +kernel
theorem dX1_pick_20 : decode cX1_pick 20 = .ok (.isub, 1) := by decide +kernel
theorem dX1_pick_21 : decode cX1_pick 21 = .ok (.istore 5, 2) := by decide +kernel
theorem dX1_pick_23 : decode cX1_pick 23 = .ok (.iload 5, 2) := by decide +kernel
theorem dX1_pick_25 : decode cX1_pick 25 = .ok (.ifCond .lt 66, 3) := by decide +kernel
theorem dX1_pick_28 : decode cX1_pick 28 = .ok (.aload_n 0, 1) := by decide +kernel
theorem dX1_pick_29 : decode cX1_pick 29 = .ok (.getfield 18, 3) := by decide +kernel
theorem dX1_pick_32 : decode cX1_pick 32 = .ok (.iload 5, 2) := by decide +kernel
theorem dX1_pick_34 : decode cX1_pick 34 = .ok (.iaload, 1) := by decide +kernel
theorem dX1_pick_35 : decode cX1_pick 35 = .ok (.iconst (-1), 1) := by decide +kernel
theorem dX1_pick_36 : decode cX1_pick 36 = .ok (.if_icmp .eq 49, 3) := by decide +kernel
theorem dX1_pick_39 : decode cX1_pick 39 = .ok (.iload_n 2, 1) := by decide +kernel
theorem dX1_pick_40 : decode cX1_pick 40 = .ok (.iload 5, 2) := by decide +kernel
theorem dX1_pick_42 : decode cX1_pick 42 = .ok (.ishr, 1) := by decide +kernel
theorem dX1_pick_43 : decode cX1_pick 43 = .ok (.iconst 1, 1) := by decide +kernel
theorem dX1_pick_44 : decode cX1_pick 44 = .ok (.iand, 1) := by decide +kernel
theorem dX1_pick_45 : decode cX1_pick 45 = .ok (.iconst 1, 1) := by decide +kernel
theorem dX1_pick_46 : decode cX1_pick 46 = .ok (.if_icmp .ne 39, 3) := by decide +kernel
theorem dX1_pick_49 : decode cX1_pick 49 = .ok (.aload_n 0, 1) := by decide +kernel
theorem dX1_pick_50 : decode cX1_pick 50 = .ok (.getfield 11, 3) := by decide +kernel
theorem dX1_pick_53 : decode cX1_pick 53 = .ok (.iload_n 2, 1) := by decide +kernel
theorem dX1_pick_54 : decode cX1_pick 54 = .ok (.iconst 1, 1) := by decide +kernel
theorem dX1_pick_55 : decode cX1_pick 55 = .ok (.iload 5, 2) := by decide +kernel
theorem dX1_pick_57 : decode cX1_pick 57 = .ok (.ishl, 1) := by decide +kernel
theorem dX1_pick_58 : decode cX1_pick 58 = .ok (.iconst (-1), 1) := by decide +kernel
theorem dX1_pick_59 : decode cX1_pick 59 = .ok (.ixor, 1) := by decide +kernel
theorem dX1_pick_60 : decode cX1_pick 60 = .ok (.iand, 1) := by decide +kernel
theorem dX1_pick_61 : decode cX1_pick 61 = .ok (.iaload, 1) := by decide +kernel
theorem dX1_pick_62 : decode cX1_pick 62 = .ok (.aload_n 0, 1) := by decide +kernel
theorem dX1_pick_63 : decode cX1_pick 63 = .ok (.getfield 18, 3) := by decide +kernel
theorem dX1_pick_66 : decode cX1_pick 66 = .ok (.iload 5, 2) := by decide +kernel
theorem dX1_pick_68 : decode cX1_pick 68 = .ok (.iaload, 1) := by decide +kernel
theorem dX1_pick_69 : decode cX1_pick 69 = .ok (.iadd, 1) := by decide +kernel
theorem dX1_pick_70 : decode cX1_pick 70 = .ok (.istore 6, 2) := by decide +kernel
theorem dX1_pick_72 : decode cX1_pick 72 = .ok (.iload 6, 2) := by decide +kernel
theorem dX1_pick_74 : decode cX1_pick 74 = .ok (.iload_n 3, 1) := by decide +kernel
theorem dX1_pick_75 : decode cX1_pick 75 = .ok (.if_icmp .gt 10, 3) := by decide +kernel
theorem dX1_pick_78 : decode cX1_pick 78 = .ok (.iload 6, 2) := by decide +kernel
theorem dX1_pick_80 : decode cX1_pick 80 = .ok (.istore_n 3, 1) := by decide +kernel
theorem dX1_pick_81 : decode cX1_pick 81 = .ok (.iload 5, 2) := by decide +kernel
theorem dX1_pick_83 : decode cX1_pick 83 = .ok (.istore 4, 2) := by decide +kernel
theorem dX1_pick_85 : decode cX1_pick 85 = .ok (.iinc 5 (-1), 3) := by decide +kernel
theorem dX1_pick_88 : decode cX1_pick 88 = .ok (.goto (-65), 3) := by decide +kernel
theorem dX1_pick_91 : decode cX1_pick 91 = .ok (.aload_n 0, 1) := by decide +kernel
theorem dX1_pick_92 : decode cX1_pick 92 = .ok (.getfield 11, 3) := by decide +kernel
theorem dX1_pick_95 : decode cX1_pick 95 = .ok (.iload_n 2, 1) := by decide +kernel
theorem dX1_pick_96 : decode cX1_pick 96 = .ok (.iload_n 3, 1) := by decide +kernel
theorem dX1_pick_97 : decode cX1_pick 97 = .ok (.iastore, 1) := by decide +kernel
theorem dX1_pick_98 : decode cX1_pick 98 = .ok (.aload_n 0, 1) := by decide +kernel
theorem dX1_pick_99 : decode cX1_pick 99 = .ok (.getfield 15, 3) := by decide +kernel
theorem dX1_pick_102 : decode cX1_pick 102 = .ok (.iload_n 2, 1) := by decide +kernel
theorem dX1_pick_103 : decode cX1_pick 103 = .ok (.dup2, 1) := by decide +kernel
theorem dX1_pick_104 : decode cX1_pick 104 = .ok (.iaload, 1) := by decide +kernel
theorem dX1_pick_105 : decode cX1_pick 105 = .ok (.iload 4, 2) := by decide +kernel
theorem dX1_pick_107 : decode cX1_pick 107 = .ok (.iconst 4, 1) := by decide +kernel
theorem dX1_pick_108 : decode cX1_pick 108 = .ok (.iload_n 1, 1) := by decide +kernel
theorem dX1_pick_109 : decode cX1_pick 109 = .ok (.imul, 1) := by decide +kernel
theorem dX1_pick_110 : decode cX1_pick 110 = .ok (.ishl, 1) := by decide +kernel
theorem dX1_pick_111 : decode cX1_pick 111 = .ok (.ior, 1) := by decide +kernel
theorem dX1_pick_112 : decode cX1_pick 112 = .ok (.iastore, 1) := by decide +kernel
theorem dX1_pick_113 : decode cX1_pick 113 = .ok (.return_, 1) := by decide +kernel
theorem dX1_lodge_0 : decode cX1_lodge 0 = .ok (.aload_n 0, 1) := by decide +kernel
theorem dX1_lodge_1 : decode cX1_lodge 1 = .ok (.getfield 11, 3) := by decide +kernel
theorem dX1_lodge_4 : decode cX1_lodge 4 = .ok (.aload_n 0, 1) := by decide +kernel
theorem dX1_lodge_5 : decode cX1_lodge 5 = .ok (.invokevirtual 51, 3) := by decide +kernel
theorem dX1_lodge_8 : decode cX1_lodge 8 = .ok (.iaload, 1) := by decide +kernel
theorem dX1_lodge_9 : decode cX1_lodge 9 = .ok (.sipush 1000, 3) := by decide +kernel
theorem dX1_lodge_12 : decode cX1_lodge 12 = .ok (.idiv, 1) := by decide +kernel
theorem dX1_lodge_13 : decode cX1_lodge 13 = .ok (.ireturn, 1) := by decide +kernel
theorem dX1_tight_0 : decode cX1_tight 0 = .ok (.aload_n 0, 1) := by decide +kernel
theorem dX1_tight_1 : decode cX1_tight 1 = .ok (.getfield 11, 3) := by decide +kernel
theorem dX1_tight_4 : decode cX1_tight 4 = .ok (.aload_n 0, 1) := by decide +kernel
theorem dX1_tight_5 : decode cX1_tight 5 = .ok (.invokevirtual 51, 3) := by decide +kernel
theorem dX1_tight_8 : decode cX1_tight 8 = .ok (.iaload, 1) := by decide +kernel
theorem dX1_tight_9 : decode cX1_tight 9 = .ok (.sipush 1000, 3) := by decide +kernel
theorem dX1_tight_12 : decode cX1_tight 12 = .ok (.irem, 1) := by decide +kernel
theorem dX1_tight_13 : decode cX1_tight 13 = .ok (.ireturn, 1) := by decide +kernel
theorem dX1_lodgeWithout_0 : decode cX1_lodgeWithout 0 = .ok (.aload_n 0, 1) := by decide +kernel
theorem dX1_lodgeWithout_1 : decode cX1_lodgeWithout 1 = .ok (.getfield 11, 3) := by decide +kernel
theorem dX1_lodgeWithout_4 : decode cX1_lodgeWithout 4 = .ok (.aload_n 0, 1) := by decide +kernel
theorem dX1_lodgeWithout_5 : decode cX1_lodgeWithout 5 = .ok (.invokevirtual 51, 3) := by decide +kernel
theorem dX1_lodgeWithout_8 : decode cX1_lodgeWithout 8 = .ok (.iconst 1, 1) := by decide +kernel
theorem dX1_lodgeWithout_9 : decode cX1_lodgeWithout 9 = .ok (.iload_n 1, 1) := by decide +kernel
theorem dX1_lodgeWithout_10 : decode cX1_lodgeWithout 10 = .ok (.ishl, 1) := by decide +kernel
theorem dX1_lodgeWithout_11 : decode cX1_lodgeWithout 11 = .ok (.iconst (-1), 1) := by decide +kernel
theorem dX1_lodgeWithout_12 : decode cX1_lodgeWithout 12 = .ok (.ixor, 1) := by decide +kernel
theorem dX1_lodgeWithout_13 : decode cX1_lodgeWithout 13 = .ok (.iand, 1) := by decide +kernel
theorem dX1_lodgeWithout_14 : decode cX1_lodgeWithout 14 = .ok (.iaload, 1) := by decide +kernel
theorem dX1_lodgeWithout_15 : decode cX1_lodgeWithout 15 = .ok (.sipush 1000, 3) := by decide +kernel
theorem dX1_lodgeWithout_18 : decode cX1_lodgeWithout 18 = .ok (.idiv, 1) := by decide +kernel
theorem dX1_lodgeWithout_19 : decode cX1_lodgeWithout 19 = .ok (.ireturn, 1) := by decide +kernel
theorem dX1_houseOf_0 : decode cX1_houseOf 0 = .ok (.aload_n 0, 1) := by decide +kernel
theorem dX1_houseOf_1 : decode cX1_houseOf 1 = .ok (.invokevirtual 51, 3) := by decide +kernel
theorem dX1_houseOf_4 : decode cX1_houseOf 4 = .ok (.istore_n 2, 1) := by decide +kernel
theorem dX1_houseOf_5 : decode cX1_houseOf 5 = .ok (.iconst 0, 1) := by decide +kernel
theorem dX1_houseOf_6 : decode cX1_houseOf 6 = .ok (.istore_n 3, 1) := by decide +kernel
theorem dX1_houseOf_7 : decode cX1_houseOf 7 = .ok (.iload_n 3, 1) := by decide +kernel
theorem dX1_houseOf_8 : decode cX1_houseOf 8 = .ok (.iload_n 1, 1) := by decide +kernel
theorem dX1_houseOf_9 : decode cX1_houseOf 9 = .ok (.if_icmp .gt 59, 3) := by decide +kernel
theorem dX1_houseOf_12 : decode cX1_houseOf 12 = .ok (.aload_n 0, 1) := by decide +kernel
theorem dX1_houseOf_13 : decode cX1_houseOf 13 = .ok (.getfield 15, 3) := by decide +kernel
theorem dX1_houseOf_16 : decode cX1_houseOf 16 = .ok (.iload_n 2, 1) := by decide +kernel
theorem dX1_houseOf_17 : decode cX1_houseOf 17 = .ok (.iaload, 1) := by decide +kernel
theorem dX1_houseOf_18 : decode cX1_houseOf 18 = .ok (.iconst 4, 1) := by decide +kernel
theorem dX1_houseOf_19 : decode cX1_houseOf 19 = .ok (.iload_n 3, 1) := by decide +kernel
theorem dX1_houseOf_20 : decode cX1_houseOf 20 = .ok (.imul, 1) := by decide +kernel
theorem dX1_houseOf_21 : decode cX1_houseOf 21 = .ok (.iushr, 1) := by decide +kernel
theorem dX1_houseOf_22 : decode cX1_houseOf 22 = .ok (.bipush 15, 2) := by decide +kernel
theorem dX1_houseOf_24 : decode cX1_houseOf 24 = .ok (.iand, 1) := by decide +kernel
theorem dX1_houseOf_25 : decode cX1_houseOf 25 = .ok (.istore 4, 2) := by decide +kernel
theorem dX1_houseOf_27 : decode cX1_houseOf 27 = .ok (.iload_n 3, 1) := by decide +kernel
theorem dX1_houseOf_28 : decode cX1_houseOf 28 = .ok (.iload_n 1, 1) := by decide +kernel
theorem dX1_houseOf_29 : decode cX1_houseOf 29 = .ok (.if_icmp .ne 17, 3) := by decide +kernel
theorem dX1_houseOf_32 : decode cX1_houseOf 32 = .ok (.iload 4, 2) := by decide +kernel
theorem dX1_houseOf_34 : decode cX1_houseOf 34 = .ok (.bipush 15, 2) := by decide +kernel
theorem dX1_houseOf_36 : decode cX1_houseOf 36 = .ok (.if_icmp .ne 7, 3) := by decide +kernel
theorem dX1_houseOf_39 : decode cX1_houseOf 39 = .ok (.iconst (-1), 1) := by decide +kernel
theorem dX1_houseOf_40 : decode cX1_houseOf 40 = .ok (.goto 5, 3) := by decide +kernel
theorem dX1_houseOf_43 : decode cX1_houseOf 43 = .ok (.iload 4, 2) := by decide +kernel
theorem dX1_houseOf_45 : decode cX1_houseOf 45 = .ok (.ireturn, 1) := by decide +kernel
theorem dX1_houseOf_46 : decode cX1_houseOf 46 = .ok (.iload 4, 2) := by decide +kernel
theorem dX1_houseOf_48 : decode cX1_houseOf 48 = .ok (.bipush 15, 2) := by decide +kernel
theorem dX1_houseOf_50 : decode cX1_houseOf 50 = .ok (.if_icmp .eq 12, 3) := by decide +kernel
theorem dX1_houseOf_53 : decode cX1_houseOf 53 = .ok (.iload_n 2, 1) := by decide +kernel
theorem dX1_houseOf_54 : decode cX1_houseOf 54 = .ok (.iconst 1, 1) := by decide +kernel
theorem dX1_houseOf_55 : decode cX1_houseOf 55 = .ok (.iload 4, 2) := by decide +kernel
theorem dX1_houseOf_57 : decode cX1_houseOf 57 = .ok (.ishl, 1) := by decide +kernel
theorem dX1_houseOf_58 : decode cX1_houseOf 58 = .ok (.iconst (-1), 1) := by decide +kernel
theorem dX1_houseOf_59 : decode cX1_houseOf 59 = .ok (.ixor, 1) := by decide +kernel
theorem dX1_houseOf_60 : decode cX1_houseOf 60 = .ok (.iand, 1) := by decide +kernel
theorem dX1_houseOf_61 : decode cX1_houseOf 61 = .ok (.istore_n 2, 1) := by decide +kernel
theorem dX1_houseOf_62 : decode cX1_houseOf 62 = .ok (.iinc 3 1, 3) := by decide +kernel
theorem dX1_houseOf_65 : decode cX1_houseOf 65 = .ok (.goto (-58), 3) := by decide +kernel
theorem dX1_houseOf_68 : decode cX1_houseOf 68 = .ok (.iconst (-1), 1) := by decide +kernel
theorem dX1_houseOf_69 : decode cX1_houseOf 69 = .ok (.ireturn, 1) := by decide +kernel
theorem dX2_init_0 : decode cX2_init 0 = .ok (.aload_n 0, 1) := by decide +kernel
theorem dX2_init_1 : decode cX2_init 1 = .ok (.invokespecial 3, 3) := by decide +kernel
theorem dX2_init_4 : decode cX2_init 4 = .ok (.aload_n 0, 1) := by decide +kernel
theorem dX2_init_5 : decode cX2_init 5 = .ok (.iconst 0, 1) := by decide +kernel
theorem dX2_init_6 : decode cX2_init 6 = .ok (.putfield 9, 3) := by decide +kernel
theorem dX2_init_9 : decode cX2_init 9 = .ok (.aload_n 0, 1) := by decide +kernel
theorem dX2_init_10 : decode cX2_init 10 = .ok (.iconst 0, 1) := by decide +kernel
theorem dX2_init_11 : decode cX2_init 11 = .ok (.putfield 15, 3) := by decide +kernel
theorem dX2_init_14 : decode cX2_init 14 = .ok (.aload_n 0, 1) := by decide +kernel
theorem dX2_init_15 : decode cX2_init 15 = .ok (.iconst 0, 1) := by decide +kernel
theorem dX2_init_16 : decode cX2_init 16 = .ok (.putfield 18, 3) := by decide +kernel
theorem dX2_init_19 : decode cX2_init 19 = .ok (.aload_n 0, 1) := by decide +kernel
theorem dX2_init_20 : decode cX2_init 20 = .ok (.bipush 8, 2) := by decide +kernel
theorem dX2_init_22 : decode cX2_init 22 = .ok (.newarray .int, 2) := by decide +kernel
theorem dX2_init_24 : decode cX2_init 24 = .ok (.putfield 21, 3) := by decide +kernel
theorem dX2_init_27 : decode cX2_init 27 = .ok (.aload_n 0, 1) := by decide +kernel
theorem dX2_init_28 : decode cX2_init 28 = .ok (.bipush 8, 2) := by decide +kernel
theorem dX2_init_30 : decode cX2_init 30 = .ok (.newarray .int, 2) := by decide +kernel
theorem dX2_init_32 : decode cX2_init 32 = .ok (.putfield 25, 3) := by decide +kernel
theorem dX2_init_35 : decode cX2_init 35 = .ok (.aload_n 0, 1) := by decide +kernel
theorem dX2_init_36 : decode cX2_init 36 = .ok (.bipush 8, 2) := by decide +kernel
theorem dX2_init_38 : decode cX2_init 38 = .ok (.newarray .int, 2) := by decide +kernel
theorem dX2_init_40 : decode cX2_init 40 = .ok (.putfield 28, 3) := by decide +kernel
theorem dX2_init_43 : decode cX2_init 43 = .ok (.aload_n 0, 1) := by decide +kernel
theorem dX2_init_44 : decode cX2_init 44 = .ok (.bipush 8, 2) := by decide +kernel
theorem dX2_init_46 : decode cX2_init 46 = .ok (.newarray .int, 2) := by decide +kernel
theorem dX2_init_48 : decode cX2_init 48 = .ok (.putfield 31, 3) := by decide +kernel
theorem dX2_init_51 : decode cX2_init 51 = .ok (.aload_n 0, 1) := by decide +kernel
theorem dX2_init_52 : decode cX2_init 52 = .ok (.bipush 8, 2) := by decide +kernel
theorem dX2_init_54 : decode cX2_init 54 = .ok (.newarray .int, 2) := by decide +kernel
theorem dX2_init_56 : decode cX2_init 56 = .ok (.putfield 34, 3) := by decide +kernel
theorem dX2_init_59 : decode cX2_init 59 = .ok (.aload_n 0, 1) := by decide +kernel
theorem dX2_init_60 : decode cX2_init 60 = .ok (.bipush 8, 2) := by decide +kernel
theorem dX2_init_62 : decode cX2_init 62 = .ok (.newarray .int, 2) := by decide +kernel
theorem dX2_init_64 : decode cX2_init 64 = .ok (.putfield 37, 3) := by decide +kernel
theorem dX2_init_67 : decode cX2_init 67 = .ok (.aload_n 0, 1) := by decide +kernel
theorem dX2_init_68 : decode cX2_init 68 = .ok (.bipush 8, 2) := by decide +kernel
theorem dX2_init_70 : decode cX2_init 70 = .ok (.newarray .int, 2) := by decide +kernel
theorem dX2_init_72 : decode cX2_init 72 = .ok (.putfield 40, 3) := by decide +kernel
theorem dX2_init_75 : decode cX2_init 75 = .ok (.aload_n 0, 1) := by decide +kernel
theorem dX2_init_76 : decode cX2_init 76 = .ok (.aconst_null, 1) := by decide +kernel
theorem dX2_init_77 : decode cX2_init 77 = .ok (.putfield 43, 3) := by decide +kernel
theorem dX2_init_80 : decode cX2_init 80 = .ok (.aload_n 0, 1) := by decide +kernel
theorem dX2_init_81 : decode cX2_init 81 = .ok (.aconst_null, 1) := by decide +kernel
theorem dX2_init_82 : decode cX2_init 82 = .ok (.putfield 47, 3) := by decide +kernel
theorem dX2_init_85 : decode cX2_init 85 = .ok (.aload_n 0, 1) := by decide +kernel
theorem dX2_init_86 : decode cX2_init 86 = .ok (.bipush 7, 2) := by decide +kernel
theorem dX2_init_88 : decode cX2_init 88 = .ok (.newarray .int, 2) := by decide +kernel
theorem dX2_init_90 : decode cX2_init 90 = .ok (.putfield 52, 3) := by decide +kernel
theorem dX2_init_93 : decode cX2_init 93 = .ok (.aload_n 0, 1) := by decide +kernel
theorem dX2_init_94 : decode cX2_init 94 = .ok (.bipush 32, 2) := by decide +kernel
theorem dX2_init_96 : decode cX2_init 96 = .ok (.newarray .int, 2) := by decide +kernel
theorem dX2_init_98 : decode cX2_init 98 = .ok (.putfield 55, 3) := by decide +kernel
theorem dX2_init_101 : decode cX2_init 101 = .ok (.return_, 1) := by decide +kernel
theorem dX2_clear_0 : decode cX2_clear 0 = .ok (.aload_n 0, 1) := by decide +kernel
theorem dX2_clear_1 : decode cX2_clear 1 = .ok (.iconst 0, 1) := by decide +kernel
theorem dX2_clear_2 : decode cX2_clear 2 = .ok (.putfield 9, 3) := by decide +kernel
theorem dX2_clear_5 : decode cX2_clear 5 = .ok (.aload_n 0, 1) := by decide +kernel
theorem dX2_clear_6 : decode cX2_clear 6 = .ok (.iconst 0, 1) := by decide +kernel
theorem dX2_clear_7 : decode cX2_clear 7 = .ok (.putfield 15, 3) := by decide +kernel
theorem dX2_clear_10 : decode cX2_clear 10 = .ok (.aload_n 0, 1) := by decide +kernel
theorem dX2_clear_11 : decode cX2_clear 11 = .ok (.iconst 0, 1) := by decide +kernel
theorem dX2_clear_12 : decode cX2_clear 12 = .ok (.putfield 18, 3) := by decide +kernel
theorem dX2_clear_15 : decode cX2_clear 15 = .ok (.aload_n 0, 1) := by decide +kernel
theorem dX2_clear_16 : decode cX2_clear 16 = .ok (.aconst_null, 1) := by decide +kernel
theorem dX2_clear_17 : decode cX2_clear 17 = .ok (.putfield 43, 3) := by decide +kernel
theorem dX2_clear_20 : decode cX2_clear 20 = .ok (.aload_n 0, 1) := by decide +kernel
theorem dX2_clear_21 : decode cX2_clear 21 = .ok (.aconst_null, 1) := by decide +kernel
theorem dX2_clear_22 : decode cX2_clear 22 = .ok (.putfield 47, 3) := by decide +kernel
theorem dX2_clear_25 : decode cX2_clear 25 = .ok (.return_, 1) := by decide +kernel
theorem dX2_begin_0 : decode cX2_begin 0 = .ok (.aload_n 1, 1) := by decide +kernel
theorem dX2_begin_1 : decode cX2_begin 1 = .ok (.iconst 0, 1) := by decide +kernel
theorem dX2_begin_2 : decode cX2_begin 2 = .ok (.putfield 58, 3) := by decide +kernel
theorem dX2_begin_5 : decode cX2_begin 5 = .ok (.aload_n 1, 1) := by decide +kernel
theorem dX2_begin_6 : decode cX2_begin 6 = .ok (.iconst 0, 1) := by decide +kernel
theorem dX2_begin_7 : decode cX2_begin 7 = .ok (.putfield 63, 3) := by decide +kernel
theorem dX2_begin_10 : decode cX2_begin 10 = .ok (.aload_n 1, 1) := by decide +kernel
theorem dX2_begin_11 : decode cX2_begin 11 = .ok (.iconst 0, 1) := by decide +kernel
theorem dX2_begin_12 : decode cX2_begin 12 = .ok (.putfield 67, 3) := by decide +kernel
theorem dX2_begin_15 : decode cX2_begin 15 = .ok (.aload_n 1, 1) := by decide +kernel
theorem dX2_begin_16 : decode cX2_begin 16 = .ok (.getfield 70, 3) := by decide +kernel
theorem dX2_begin_19 : decode cX2_begin 19 = .ok (.iconst 0, 1) := by decide +kernel
theorem dX2_begin_20 : decode cX2_begin 20 = .ok (.invokestatic 73, 3) := by decide +kernel
theorem dX2_begin_23 : decode cX2_begin 23 = .ok (.aload_n 1, 1) := by decide +kernel
theorem dX2_begin_24 : decode cX2_begin 24 = .ok (.getfield 79, 3) := by decide +kernel
theorem dX2_begin_27 : decode cX2_begin 27 = .ok (.iconst 0, 1) := by decide +kernel
theorem dX2_begin_28 : decode cX2_begin 28 = .ok (.invokestatic 73, 3) := by decide +kernel
theorem dX2_begin_31 : decode cX2_begin 31 = .ok (.aload_n 1, 1) := by decide +kernel
theorem dX2_begin_32 : decode cX2_begin 32 = .ok (.getfield 82, 3) := by decide +kernel
theorem dX2_begin_35 : decode cX2_begin 35 = .ok (.iconst (-1), 1) := by decide +kernel
theorem dX2_begin_36 : decode cX2_begin 36 = .ok (.invokestatic 73, 3) := by decide +kernel
theorem dX2_begin_39 : decode cX2_begin 39 = .ok (.aload_n 1, 1) := by decide +kernel
theorem dX2_begin_40 : decode cX2_begin 40 = .ok (.getfield 85, 3) := by decide +kernel
theorem dX2_begin_43 : decode cX2_begin 43 = .ok (.iconst (-1), 1) := by decide +kernel
theorem dX2_begin_44 : decode cX2_begin 44 = .ok (.invokestatic 73, 3) := by decide +kernel
theorem dX2_begin_47 : decode cX2_begin 47 = .ok (.aload_n 0, 1) := by decide +kernel
theorem dX2_begin_48 : decode cX2_begin 48 = .ok (.getfield 21, 3) := by decide +kernel
theorem dX2_begin_51 : decode cX2_begin 51 = .ok (.iconst 0, 1) := by decide +kernel
theorem dX2_begin_52 : decode cX2_begin 52 = .ok (.aload_n 1, 1) := by decide +kernel
theorem dX2_begin_53 : decode cX2_begin 53 = .ok (.getfield 88, 3) := by decide +kernel
theorem dX2_begin_56 : decode cX2_begin 56 = .ok (.iconst 0, 1) := by decide +kernel
theorem dX2_begin_57 : decode cX2_begin 57 = .ok (.bipush 8, 2) := by decide +kernel
theorem dX2_begin_59 : decode cX2_begin 59 = .ok (.invokestatic 89, 3) := by decide +kernel
theorem dX2_begin_62 : decode cX2_begin 62 = .ok (.aload_n 0, 1) := by decide +kernel
theorem dX2_begin_63 : decode cX2_begin 63 = .ok (.getfield 31, 3) := by decide +kernel
theorem dX2_begin_66 : decode cX2_begin 66 = .ok (.iconst 0, 1) := by decide +kernel
theorem dX2_begin_67 : decode cX2_begin 67 = .ok (.aload_n 1, 1) := by decide +kernel
theorem dX2_begin_68 : decode cX2_begin 68 = .ok (.getfield 95, 3) := by decide +kernel
theorem dX2_begin_71 : decode cX2_begin 71 = .ok (.iconst 0, 1) := by decide +kernel
theorem dX2_begin_72 : decode cX2_begin 72 = .ok (.bipush 8, 2) := by decide +kernel
theorem dX2_begin_74 : decode cX2_begin 74 = .ok (.invokestatic 89, 3) := by decide +kernel
theorem dX2_begin_77 : decode cX2_begin 77 = .ok (.iconst 0, 1) := by decide +kernel
theorem dX2_begin_78 : decode cX2_begin 78 = .ok (.istore_n 2, 1) := by decide +kernel
theorem dX2_begin_79 : decode cX2_begin 79 = .ok (.iload_n 2, 1) := by decide +kernel
theorem dX2_begin_80 : decode cX2_begin 80 = .ok (.aload_n 0, 1) := by decide +kernel
theorem dX2_begin_81 : decode cX2_begin 81 = .ok (.getfield 15, 3) := by decide +kernel
theorem dX2_begin_84 : decode cX2_begin 84 = .ok (.if_icmp .ge 30, 3) := by decide +kernel
theorem dX2_begin_87 : decode cX2_begin 87 = .ok (.aload_n 0, 1) := by decide +kernel
theorem dX2_begin_88 : decode cX2_begin 88 = .ok (.getfield 37, 3) := by decide +kernel
theorem dX2_begin_91 : decode cX2_begin 91 = .ok (.iload_n 2, 1) := by decide +kernel
theorem dX2_begin_92 : decode cX2_begin 92 = .ok (.iaload, 1) := by decide +kernel
theorem dX2_begin_93 : decode cX2_begin 93 = .ok (.iconst (-1), 1) := by decide +kernel
theorem dX2_begin_94 : decode cX2_begin 94 = .ok (.if_icmp .eq 14, 3) := by decide +kernel
theorem dX2_begin_97 : decode cX2_begin 97 = .ok (.aload_n 1, 1) := by decide +kernel
theorem dX2_begin_98 : decode cX2_begin 98 = .ok (.iload_n 2, 1) := by decide +kernel
theorem dX2_begin_99 : decode cX2_begin 99 = .ok (.aload_n 0, 1) := by decide +kernel
theorem dX2_begin_100 : decode cX2_begin 100 = .ok (.getfield 37, 3) := by decide +kernel
theorem dX2_begin_103 : decode cX2_begin 103 = .ok (.iload_n 2, 1) := by decide +kernel
theorem dX2_begin_104 : decode cX2_begin 104 = .ok (.iaload, 1) := by decide +kernel
theorem dX2_begin_105 : decode cX2_begin 105 = .ok (.invokevirtual 96, 3) := by decide +kernel
theorem dX2_begin_108 : decode cX2_begin 108 = .ok (.iinc 2 1, 3) := by decide +kernel
theorem dX2_begin_111 : decode cX2_begin 111 = .ok (.goto (-32), 3) := by decide +kernel
theorem dX2_begin_114 : decode cX2_begin 114 = .ok (.return_, 1) := by decide +kernel
theorem dX2_hasSomebodyAtFirst_0 : decode cX2_hasSomebodyAtFirst 0 = .ok (.iconst 0, 1) := by decide +kernel
theorem dX2_hasSomebodyAtFirst_1 : decode cX2_hasSomebodyAtFirst 1 = .ok (.istore_n 2, 1) := by decide +kernel
theorem dX2_hasSomebodyAtFirst_2 : decode cX2_hasSomebodyAtFirst 2 = .ok (.iload_n 2, 1) := by decide +kernel
theorem dX2_hasSomebodyAtFirst_3 : decode cX2_hasSomebodyAtFirst 3 = .ok (.aload_n 0, 1) := by decide +kernel
theorem dX2_hasSomebodyAtFirst_4 : decode cX2_hasSomebodyAtFirst 4 = .ok (.getfield 15, 3) := by decide +kernel
theorem dX2_hasSomebodyAtFirst_7 : decode cX2_hasSomebodyAtFirst 7 = .ok (.if_icmp .ge 21, 3) := by decide +kernel
theorem dX2_hasSomebodyAtFirst_10 : decode cX2_hasSomebodyAtFirst 10 = .ok (.aload_n 0, 1) := by decide +kernel
theorem dX2_hasSomebodyAtFirst_11 : decode cX2_hasSomebodyAtFirst 11 = .ok (.getfield 37, 3) := by decide +kernel
theorem dX2_hasSomebodyAtFirst_14 : decode cX2_hasSomebodyAtFirst 14 = .ok (.iload_n 2, 1) := by decide +kernel
theorem dX2_hasSomebodyAtFirst_15 : decode cX2_hasSomebodyAtFirst 15 = .ok (.iaload, 1) := by decide +kernel
theorem dX2_hasSomebodyAtFirst_16 : decode cX2_hasSomebodyAtFirst 16 = .ok (.iload_n 1, 1) := by decide +kernel
theorem dX2_hasSomebodyAtFirst_17 : decode cX2_hasSomebodyAtFirst 17 = .ok (.if_icmp .ne 5, 3) := by decide +kernel
theorem dX2_hasSomebodyAtFirst_20 : decode cX2_hasSomebodyAtFirst 20 = .ok (.iconst 1, 1) := by decide +kernel
theorem dX2_hasSomebodyAtFirst_21 : decode cX2_hasSomebodyAtFirst 21 = .ok (.ireturn, 1) := by decide +kernel
theorem dX2_hasSomebodyAtFirst_22 : decode cX2_hasSomebodyAtFirst 22 = .ok (.iinc 2 1, 3) := by decide +kernel
theorem dX2_hasSomebodyAtFirst_25 : decode cX2_hasSomebodyAtFirst 25 = .ok (.goto (-23), 3) := by decide +kernel
theorem dX2_hasSomebodyAtFirst_28 : decode cX2_hasSomebodyAtFirst 28 = .ok (.iconst 0, 1) := by decide +kernel
theorem dX2_hasSomebodyAtFirst_29 : decode cX2_hasSomebodyAtFirst 29 = .ok (.ireturn, 1) := by decide +kernel
theorem dX2_dampOn_0 : decode cX2_dampOn 0 = .ok (.aload_n 0, 1) := by decide +kernel
theorem dX2_dampOn_1 : decode cX2_dampOn 1 = .ok (.getfield 18, 3) := by decide +kernel
theorem dX2_dampOn_4 : decode cX2_dampOn 4 = .ok (.ifCond .le 19, 3) := by decide +kernel
theorem dX2_dampOn_7 : decode cX2_dampOn 7 = .ok (.aload_n 0, 1) := by decide +kernel
theorem dX2_dampOn_8 : decode cX2_dampOn 8 = .ok (.getfield 40, 3) := by decide +kernel
theorem dX2_dampOn_11 : decode cX2_dampOn 11 = .ok (.iload_n 1, 1) := by decide +kernel
theorem dX2_dampOn_12 : decode cX2_dampOn 12 = .ok (.aload_n 0, 1) := by decide +kernel
theorem dX2_dampOn_13 : decode cX2_dampOn 13 = .ok (.getfield 18, 3) := by decide +kernel
theorem dX2_dampOn_16 : decode cX2_dampOn 16 = .ok (.invokestatic 100, 3) := by decide +kernel
theorem dX2_dampOn_19 : decode cX2_dampOn 19 = .ok (.iaload, 1) := by decide +kernel
theorem dX2_dampOn_20 : decode cX2_dampOn 20 = .ok (.goto 4, 3) := by decide +kernel
theorem dX2_dampOn_23 : decode cX2_dampOn 23 = .ok (.iconst 3, 1) := by decide +kernel
theorem dX2_dampOn_24 : decode cX2_dampOn 24 = .ok (.ireturn, 1) := by decide +kernel
theorem dX2_dampOf_0 : decode cX2_dampOf 0 = .ok (.aload_n 1, 1) := by decide +kernel
theorem dX2_dampOf_1 : decode cX2_dampOf 1 = .ok (.getfield 63, 3) := by decide +kernel
theorem dX2_dampOf_4 : decode cX2_dampOf 4 = .ok (.ifCond .eq 8, 3) := by decide +kernel
theorem dX2_dampOf_7 : decode cX2_dampOf 7 = .ok (.bipush 9, 2) := by decide +kernel
theorem dX2_dampOf_9 : decode cX2_dampOf 9 = .ok (.goto 11, 3) := by decide +kernel
theorem dX2_dampOf_12 : decode cX2_dampOf 12 = .ok (.aload_n 0, 1) := by decide +kernel
theorem dX2_dampOf_13 : decode cX2_dampOf 13 = .ok (.aload_n 1, 1) := by decide +kernel
theorem dX2_dampOf_14 : decode cX2_dampOf 14 = .ok (.getfield 58, 3) := by decide +kernel
theorem dX2_dampOf_17 : decode cX2_dampOf 17 = .ok (.invokevirtual 106, 3) := by decide +kernel
theorem dX2_dampOf_20 : decode cX2_dampOf 20 = .ok (.ireturn, 1) := by decide +kernel
theorem dX2_easing_0 : decode cX2_easing 0 = .ok (.aload_n 0, 1) := by decide +kernel
theorem dX2_easing_1 : decode cX2_easing 1 = .ok (.getfield 43, 3) := by decide +kernel
theorem dX2_easing_4 : decode cX2_easing 4 = .ok (.astore 5, 2) := by decide +kernel
theorem dX2_easing_6 : decode cX2_easing 6 = .ok (.aload 5, 2) := by decide +kernel
theorem dX2_easing_8 : decode cX2_easing 8 = .ok (.ifnonnull 23, 3) := by decide +kernel
theorem dX2_easing_11 : decode cX2_easing 11 = .ok (.aload_n 0, 1) := by decide +kernel
theorem dX2_easing_12 : decode cX2_easing 12 = .ok (.getfield 25, 3) := by decide +kernel
theorem dX2_easing_15 : decode cX2_easing 15 = .ok (.iload_n 3, 1) := by decide +kernel
theorem dX2_easing_16 : decode cX2_easing 16 = .ok (.iaload, 1) := by decide +kernel
theorem dX2_easing_17 : decode cX2_easing 17 = .ok (.iload 4, 2) := by decide +kernel
theorem dX2_easing_19 : decode cX2_easing 19 = .ok (.iadd, 1) := by decide +kernel
theorem dX2_easing_20 : decode cX2_easing 20 = .ok (.aload_n 1, 1) := by decide +kernel
theorem dX2_easing_21 : decode cX2_easing 21 = .ok (.getfield 70, 3) := by decide +kernel
theorem dX2_easing_24 : decode cX2_easing 24 = .ok (.iload_n 3, 1) := by decide +kernel
theorem dX2_easing_25 : decode cX2_easing 25 = .ok (.iaload, 1) := by decide +kernel
theorem dX2_easing_26 : decode cX2_easing 26 = .ok (.bipush 10, 2) := by decide +kernel
theorem dX2_easing_28 : decode cX2_easing 28 = .ok (.idiv, 1) := by decide +kernel
theorem dX2_easing_29 : decode cX2_easing 29 = .ok (.iadd, 1) := by decide +kernel
theorem dX2_easing_30 : decode cX2_easing 30 = .ok (.ireturn, 1) := by decide +kernel
theorem dX2_easing_31 : decode cX2_easing 31 = .ok (.aload_n 0, 1) := by decide +kernel
theorem dX2_easing_32 : decode cX2_easing 32 = .ok (.aload_n 1, 1) := by decide +kernel
theorem dX2_easing_33 : decode cX2_easing 33 = .ok (.iload_n 2, 1) := by decide +kernel
theorem dX2_easing_34 : decode cX2_easing 34 = .ok (.iload_n 3, 1) := by decide +kernel
theorem dX2_easing_35 : decode cX2_easing 35 = .ok (.iload 4, 2) := by decide +kernel
theorem dX2_easing_37 : decode cX2_easing 37 = .ok (.invokevirtual 110, 3) := by decide +kernel
theorem dX2_easing_40 : decode cX2_easing 40 = .ok (.bipush 30, 2) := by decide +kernel
theorem dX2_easing_42 : decode cX2_easing 42 = .ok (.iconst 0, 1) := by decide +kernel
theorem dX2_easing_43 : decode cX2_easing 43 = .ok (.aload 5, 2) := by decide +kernel
theorem dX2_easing_45 : decode cX2_easing 45 = .ok (.aload_n 0, 1) := by decide +kernel
theorem dX2_easing_46 : decode cX2_easing 46 = .ok (.getfield 52, 3) := by decide +kernel
theorem dX2_easing_49 : decode cX2_easing 49 = .ok (.aload_n 0, 1) := by decide +kernel
theorem dX2_easing_50 : decode cX2_easing 50 = .ok (.getfield 55, 3) := by decide +kernel
theorem dX2_easing_53 : decode cX2_easing 53 = .ok (.invokevirtual 114, 3) := by decide +kernel
theorem dX2_easing_56 : decode cX2_easing 56 = .ok (.invokestatic 118, 3) := by decide +kernel
theorem dX2_easing_59 : decode cX2_easing 59 = .ok (.invokestatic 121, 3) := by decide +kernel
theorem dX2_easing_62 : decode cX2_easing 62 = .ok (.ireturn, 1) := by decide +kernel
theorem dX2_tellFacts_0 : decode cX2_tellFacts 0 = .ok (.aload_n 0, 1) := by decide +kernel
theorem dX2_tellFacts_1 : decode cX2_tellFacts 1 = .ok (.getfield 52, 3) := by decide +kernel
theorem dX2_tellFacts_4 : decode cX2_tellFacts 4 = .ok (.iconst 0, 1) := by decide +kernel
theorem dX2_tellFacts_5 : decode cX2_tellFacts 5 = .ok (.aload_n 1, 1) := by decide +kernel
theorem dX2_tellFacts_6 : decode cX2_tellFacts 6 = .ok (.getfield 95, 3) := by decide +kernel
theorem dX2_tellFacts_9 : decode cX2_tellFacts 9 = .ok (.iload_n 2, 1) := by decide +kernel
theorem dX2_tellFacts_10 : decode cX2_tellFacts 10 = .ok (.iaload, 1) := by decide +kernel
theorem dX2_tellFacts_11 : decode cX2_tellFacts 11 = .ok (.iastore, 1) := by decide +kernel
theorem dX2_tellFacts_12 : decode cX2_tellFacts 12 = .ok (.aload_n 0, 1) := by decide +kernel
theorem dX2_tellFacts_13 : decode cX2_tellFacts 13 = .ok (.getfield 52, 3) := by decide +kernel
theorem dX2_tellFacts_16 : decode cX2_tellFacts 16 = .ok (.iconst 1, 1) := by decide +kernel
theorem dX2_tellFacts_17 : decode cX2_tellFacts 17 = .ok (.aload_n 1, 1) := by decide +kernel
theorem dX2_tellFacts_18 : decode cX2_tellFacts 18 = .ok (.getfield 88, 3) := by decide +kernel
theorem dX2_tellFacts_21 : decode cX2_tellFacts 21 = .ok (.iload_n 3, 1) := by decide +kernel
theorem dX2_tellFacts_22 : decode cX2_tellFacts 22 = .ok (.iaload, 1) := by decide +kernel
theorem dX2_tellFacts_23 : decode cX2_tellFacts 23 = .ok (.iastore, 1) := by decide +kernel
theorem dX2_tellFacts_24 : decode cX2_tellFacts 24 = .ok (.aload_n 0, 1) := by decide +kernel
theorem dX2_tellFacts_25 : decode cX2_tellFacts 25 = .ok (.getfield 52, 3) := by decide +kernel
theorem dX2_tellFacts_28 : decode cX2_tellFacts 28 = .ok (.iconst 2, 1) := by decide +kernel
theorem dX2_tellFacts_29 : decode cX2_tellFacts 29 = .ok (.aload_n 0, 1) := by decide +kernel
theorem dX2_tellFacts_30 : decode cX2_tellFacts 30 = .ok (.getfield 25, 3) := by decide +kernel
theorem dX2_tellFacts_33 : decode cX2_tellFacts 33 = .ok (.iload_n 3, 1) := by decide +kernel
theorem dX2_tellFacts_34 : decode cX2_tellFacts 34 = .ok (.iaload, 1) := by decide +kernel
theorem dX2_tellFacts_35 : decode cX2_tellFacts 35 = .ok (.iastore, 1) := by decide +kernel
theorem dX2_tellFacts_36 : decode cX2_tellFacts 36 = .ok (.aload_n 0, 1) := by decide +kernel
theorem dX2_tellFacts_37 : decode cX2_tellFacts 37 = .ok (.getfield 52, 3) := by decide +kernel
theorem dX2_tellFacts_40 : decode cX2_tellFacts 40 = .ok (.iconst 3, 1) := by decide +kernel
theorem dX2_tellFacts_41 : decode cX2_tellFacts 41 = .ok (.aload_n 1, 1) := by decide +kernel
theorem dX2_tellFacts_42 : decode cX2_tellFacts 42 = .ok (.getfield 70, 3) := by decide +kernel
theorem dX2_tellFacts_45 : decode cX2_tellFacts 45 = .ok (.iload_n 3, 1) := by decide +kernel
theorem dX2_tellFacts_46 : decode cX2_tellFacts 46 = .ok (.iaload, 1) := by decide +kernel
theorem dX2_tellFacts_47 : decode cX2_tellFacts 47 = .ok (.iastore, 1) := by decide +kernel
theorem dX2_tellFacts_48 : decode cX2_tellFacts 48 = .ok (.aload_n 0, 1) := by decide +kernel
theorem dX2_tellFacts_49 : decode cX2_tellFacts 49 = .ok (.getfield 52, 3) := by decide +kernel
theorem dX2_tellFacts_52 : decode cX2_tellFacts 52 = .ok (.iconst 4, 1) := by decide +kernel
theorem dX2_tellFacts_53 : decode cX2_tellFacts 53 = .ok (.iload 4, 2) := by decide +kernel
theorem dX2_tellFacts_55 : decode cX2_tellFacts 55 = .ok (.iastore, 1) := by decide +kernel
theorem dX2_tellFacts_56 : decode cX2_tellFacts 56 = .ok (.aload_n 0, 1) := by decide +kernel
theorem dX2_tellFacts_57 : decode cX2_tellFacts 57 = .ok (.getfield 52, 3) := by decide +kernel
theorem dX2_tellFacts_60 : decode cX2_tellFacts 60 = .ok (.iconst 5, 1) := by decide +kernel
theorem dX2_tellFacts_61 : decode cX2_tellFacts 61 = .ok (.aload_n 1, 1) := by decide +kernel
theorem dX2_tellFacts_62 : decode cX2_tellFacts 62 = .ok (.getfield 58, 3) := by decide +kernel
theorem dX2_tellFacts_65 : decode cX2_tellFacts 65 = .ok (.iastore, 1) := by decide +kernel
theorem dX2_tellFacts_66 : decode cX2_tellFacts 66 = .ok (.aload_n 0, 1) := by decide +kernel
theorem dX2_tellFacts_67 : decode cX2_tellFacts 67 = .ok (.getfield 52, 3) := by decide +kernel
theorem dX2_tellFacts_70 : decode cX2_tellFacts 70 = .ok (.bipush 6, 2) := by decide +kernel
theorem dX2_tellFacts_72 : decode cX2_tellFacts 72 = .ok (.iconst 0, 1) := by decide +kernel
theorem dX2_tellFacts_73 : decode cX2_tellFacts 73 = .ok (.aload_n 1, 1) := by decide +kernel
theorem dX2_tellFacts_74 : decode cX2_tellFacts 74 = .ok (.getfield 95, 3) := by decide +kernel
theorem dX2_tellFacts_77 : decode cX2_tellFacts 77 = .ok (.iload_n 2, 1) := by decide +kernel
theorem dX2_tellFacts_78 : decode cX2_tellFacts 78 = .ok (.iaload, 1) := by decide +kernel
theorem dX2_tellFacts_79 : decode cX2_tellFacts 79 = .ok (.aload_n 1, 1) := by decide +kernel
theorem dX2_tellFacts_80 : decode cX2_tellFacts 80 = .ok (.getfield 88, 3) := by decide +kernel
theorem dX2_tellFacts_83 : decode cX2_tellFacts 83 = .ok (.iload_n 3, 1) := by decide +kernel
theorem dX2_tellFacts_84 : decode cX2_tellFacts 84 = .ok (.iaload, 1) := by decide +kernel
theorem dX2_tellFacts_85 : decode cX2_tellFacts 85 = .ok (.isub, 1) := by decide +kernel
theorem dX2_tellFacts_86 : decode cX2_tellFacts 86 = .ok (.invokestatic 118, 3) := by decide +kernel
theorem dX2_tellFacts_89 : decode cX2_tellFacts 89 = .ok (.iastore, 1) := by decide +kernel
theorem dX2_tellFacts_90 : decode cX2_tellFacts 90 = .ok (.return_, 1) := by decide +kernel
theorem dX2_enters_0 : decode cX2_enters 0 = .ok (.aload_n 1, 1) := by decide +kernel
theorem dX2_enters_1 : decode cX2_enters 1 = .ok (.iload_n 3, 1) := by decide +kernel
theorem dX2_enters_2 : decode cX2_enters 2 = .ok (.invokevirtual 124, 3) := by decide +kernel
theorem dX2_enters_5 : decode cX2_enters 5 = .ok (.ifCond .ne 25, 3) := by decide +kernel
theorem dX2_enters_8 : decode cX2_enters 8 = .ok (.aload_n 1, 1) := by decide +kernel
theorem dX2_enters_9 : decode cX2_enters 9 = .ok (.iload_n 2, 1) := by decide +kernel
theorem dX2_enters_10 : decode cX2_enters 10 = .ok (.iload_n 3, 1) := by decide +kernel
theorem dX2_enters_11 : decode cX2_enters 11 = .ok (.invokevirtual 128, 3) := by decide +kernel
theorem dX2_enters_14 : decode cX2_enters 14 = .ok (.aload_n 0, 1) := by decide +kernel
theorem dX2_enters_15 : decode cX2_enters 15 = .ok (.aload_n 1, 1) := by decide +kernel
theorem dX2_enters_16 : decode cX2_enters 16 = .ok (.iload_n 2, 1) := by decide +kernel
theorem dX2_enters_17 : decode cX2_enters 17 = .ok (.iload_n 3, 1) := by decide +kernel
theorem dX2_enters_18 : decode cX2_enters 18 = .ok (.iload 4, 2) := by decide +kernel
theorem dX2_enters_20 : decode cX2_enters 20 = .ok (.invokevirtual 131, 3) := by decide +kernel
theorem dX2_enters_23 : decode cX2_enters 23 = .ok (.if_icmp .gt 7, 3) := by decide +kernel
theorem dX2_enters_26 : decode cX2_enters 26 = .ok (.iconst 1, 1) := by decide +kernel
theorem dX2_enters_27 : decode cX2_enters 27 = .ok (.goto 4, 3) := by decide +kernel
theorem dX2_enters_30 : decode cX2_enters 30 = .ok (.iconst 0, 1) := by decide +kernel
theorem dX2_enters_31 : decode cX2_enters 31 = .ok (.ireturn, 1) := by decide +kernel
theorem dX2_pass_0 : decode cX2_pass 0 = .ok (.iconst 0, 1) := by decide +kernel
theorem dX2_pass_1 : decode cX2_pass 1 = .ok (.istore_n 3, 1) := by decide +kernel
theorem dX2_pass_2 : decode cX2_pass 2 = .ok (.iload_n 3, 1) := by decide +kernel
theorem dX2_pass_3 : decode cX2_pass 3 = .ok (.aload_n 0, 1) := by decide +kernel
theorem dX2_pass_4 : decode cX2_pass 4 = .ok (.getfield 9, 3) := by decide +kernel
theorem dX2_pass_7 : decode cX2_pass 7 = .ok (.if_icmp .ge 16, 3) := by decide +kernel
theorem dX2_pass_10 : decode cX2_pass 10 = .ok (.aload_n 0, 1) := by decide +kernel
theorem dX2_pass_11 : decode cX2_pass 11 = .ok (.aload_n 1, 1) := by decide +kernel
theorem dX2_pass_12 : decode cX2_pass 12 = .ok (.iload_n 3, 1) := by decide +kernel
theorem dX2_pass_13 : decode cX2_pass 13 = .ok (.iload_n 2, 1) := by decide +kernel
theorem dX2_pass_14 : decode cX2_pass 14 = .ok (.invokevirtual 135, 3) := by decide +kernel
theorem dX2_pass_17 : decode cX2_pass 17 = .ok (.iinc 3 1, 3) := by decide +kernel
theorem dX2_pass_20 : decode cX2_pass 20 = .ok (.goto (-18), 3) := by decide +kernel
theorem dX2_pass_23 : decode cX2_pass 23 = .ok (.iconst 0, 1) := by decide +kernel
theorem dX2_pass_24 : decode cX2_pass 24 = .ok (.istore_n 3, 1) := by decide +kernel
theorem dX2_pass_25 : decode cX2_pass 25 = .ok (.iload_n 3, 1) := by decide +kernel
theorem dX2_pass_26 : decode cX2_pass 26 = .ok (.aload_n 0, 1) := by decide +kernel
theorem dX2_pass_27 : decode cX2_pass 27 = .ok (.getfield 15, 3) := by decide +kernel
theorem dX2_pass_30 : decode cX2_pass 30 = .ok (.if_icmp .ge 15, 3) := by decide +kernel
theorem dX2_pass_33 : decode cX2_pass 33 = .ok (.aload_n 0, 1) := by decide +kernel
theorem dX2_pass_34 : decode cX2_pass 34 = .ok (.aload_n 1, 1) := by decide +kernel
theorem dX2_pass_35 : decode cX2_pass 35 = .ok (.iload_n 3, 1) := by decide +kernel
theorem dX2_pass_36 : decode cX2_pass 36 = .ok (.invokevirtual 139, 3) := by decide +kernel
theorem dX2_pass_39 : decode cX2_pass 39 = .ok (.iinc 3 1, 3) := by decide +kernel
theorem dX2_pass_42 : decode cX2_pass 42 = .ok (.goto (-17), 3) := by decide +kernel
theorem dX2_pass_45 : decode cX2_pass 45 = .ok (.aload_n 1, 1) := by decide +kernel
theorem dX2_pass_46 : decode cX2_pass 46 = .ok (.dup, 1) := by decide +kernel
theorem dX2_pass_47 : decode cX2_pass 47 = .ok (.getfield 58, 3) := by decide +kernel
theorem dX2_pass_50 : decode cX2_pass 50 = .ok (.iconst 1, 1) := by decide +kernel
theorem dX2_pass_51 : decode cX2_pass 51 = .ok (.iadd, 1) := by decide +kernel
theorem dX2_pass_52 : decode cX2_pass 52 = .ok (.putfield 58, 3) := by decide +kernel
theorem dX2_pass_55 : decode cX2_pass 55 = .ok (.aload_n 1, 1) := by decide +kernel
theorem dX2_pass_56 : decode cX2_pass 56 = .ok (.iconst 0, 1) := by decide +kernel
theorem dX2_pass_57 : decode cX2_pass 57 = .ok (.putfield 63, 3) := by decide +kernel
theorem dX2_pass_60 : decode cX2_pass 60 = .ok (.return_, 1) := by decide +kernel
theorem dX2_passAlone_0 : decode cX2_passAlone 0 = .ok (.aload_n 1, 1) := by decide +kernel
theorem dX2_passAlone_1 : decode cX2_passAlone 1 = .ok (.getfield 82, 3) := by decide +kernel
theorem dX2_passAlone_4 : decode cX2_passAlone 4 = .ok (.iload_n 2, 1) := by decide +kernel
theorem dX2_passAlone_5 : decode cX2_passAlone 5 = .ok (.iaload, 1) := by decide +kernel
theorem dX2_passAlone_6 : decode cX2_passAlone 6 = .ok (.istore 4, 2) := by decide +kernel
theorem dX2_passAlone_8 : decode cX2_passAlone 8 = .ok (.aload_n 0, 1) := by decide +kernel
theorem dX2_passAlone_9 : decode cX2_passAlone 9 = .ok (.aload_n 1, 1) := by decide +kernel
theorem dX2_passAlone_10 : decode cX2_passAlone 10 = .ok (.iload_n 2, 1) := by decide +kernel
theorem dX2_passAlone_11 : decode cX2_passAlone 11 = .ok (.iload_n 3, 1) := by decide +kernel
theorem dX2_passAlone_12 : decode cX2_passAlone 12 = .ok (.invokevirtual 135, 3) := by decide +kernel
theorem dX2_passAlone_15 : decode cX2_passAlone 15 = .ok (.iload 4, 2) := by decide +kernel
theorem dX2_passAlone_17 : decode cX2_passAlone 17 = .ok (.iconst (-1), 1) := by decide +kernel
theorem dX2_passAlone_18 : decode cX2_passAlone 18 = .ok (.if_icmp .eq 10, 3) := by decide +kernel
theorem dX2_passAlone_21 : decode cX2_passAlone 21 = .ok (.aload_n 0, 1) := by decide +kernel
theorem dX2_passAlone_22 : decode cX2_passAlone 22 = .ok (.aload_n 1, 1) := by decide +kernel
theorem dX2_passAlone_23 : decode cX2_passAlone 23 = .ok (.iload 4, 2) := by decide +kernel
theorem dX2_passAlone_25 : decode cX2_passAlone 25 = .ok (.invokevirtual 139, 3) := by decide +kernel
theorem dX2_passAlone_28 : decode cX2_passAlone 28 = .ok (.aload_n 1, 1) := by decide +kernel
theorem dX2_passAlone_29 : decode cX2_passAlone 29 = .ok (.dup, 1) := by decide +kernel
theorem dX2_passAlone_30 : decode cX2_passAlone 30 = .ok (.getfield 58, 3) := by decide +kernel
theorem dX2_passAlone_33 : decode cX2_passAlone 33 = .ok (.iconst 1, 1) := by decide +kernel
theorem dX2_passAlone_34 : decode cX2_passAlone 34 = .ok (.iadd, 1) := by decide +kernel
theorem dX2_passAlone_35 : decode cX2_passAlone 35 = .ok (.putfield 58, 3) := by decide +kernel
theorem dX2_passAlone_38 : decode cX2_passAlone 38 = .ok (.aload_n 1, 1) := by decide +kernel
theorem dX2_passAlone_39 : decode cX2_passAlone 39 = .ok (.iconst 0, 1) := by decide +kernel
theorem dX2_passAlone_40 : decode cX2_passAlone 40 = .ok (.putfield 63, 3) := by decide +kernel
theorem dX2_passAlone_43 : decode cX2_passAlone 43 = .ok (.return_, 1) := by decide +kernel
theorem dX2_grow_0 : decode cX2_grow 0 = .ok (.aload_n 1, 1) := by decide +kernel
theorem dX2_grow_1 : decode cX2_grow 1 = .ok (.getfield 95, 3) := by decide +kernel
theorem dX2_grow_4 : decode cX2_grow 4 = .ok (.iload_n 2, 1) := by decide +kernel
theorem dX2_grow_5 : decode cX2_grow 5 = .ok (.bipush 99, 2) := by decide +kernel
theorem dX2_grow_7 : decode cX2_grow 7 = .ok (.aload_n 1, 1) := by decide +kernel
theorem dX2_grow_8 : decode cX2_grow 8 = .ok (.getfield 95, 3) := by decide +kernel
theorem dX2_grow_11 : decode cX2_grow 11 = .ok (.iload_n 2, 1) := by decide +kernel
theorem dX2_grow_12 : decode cX2_grow 12 = .ok (.iaload, 1) := by decide +kernel
theorem dX2_grow_13 : decode cX2_grow 13 = .ok (.aload_n 0, 1) := by decide +kernel
theorem dX2_grow_14 : decode cX2_grow 14 = .ok (.getfield 34, 3) := by decide +kernel
theorem dX2_grow_17 : decode cX2_grow 17 = .ok (.iload_n 2, 1) := by decide +kernel
theorem dX2_grow_18 : decode cX2_grow 18 = .ok (.iaload, 1) := by decide +kernel
theorem dX2_grow_19 : decode cX2_grow 19 = .ok (.iadd, 1) := by decide +kernel
theorem dX2_grow_20 : decode cX2_grow 20 = .ok (.invokestatic 121, 3) := by decide +kernel
theorem dX2_grow_23 : decode cX2_grow 23 = .ok (.iastore, 1) := by decide +kernel
theorem dX2_grow_24 : decode cX2_grow 24 = .ok (.return_, 1) := by decide +kernel
theorem dX2_wear_0 : decode cX2_wear 0 = .ok (.aload_n 1, 1) := by decide +kernel
theorem dX2_wear_1 : decode cX2_wear 1 = .ok (.getfield 82, 3) := by decide +kernel
theorem dX2_wear_4 : decode cX2_wear 4 = .ok (.iload_n 2, 1) := by decide +kernel
theorem dX2_wear_5 : decode cX2_wear 5 = .ok (.iaload, 1) := by decide +kernel
theorem dX2_wear_6 : decode cX2_wear 6 = .ok (.istore 4, 2) := by decide +kernel
theorem dX2_wear_8 : decode cX2_wear 8 = .ok (.iload 4, 2) := by decide +kernel
theorem dX2_wear_10 : decode cX2_wear 10 = .ok (.iconst (-1), 1) := by decide +kernel
theorem dX2_wear_11 : decode cX2_wear 11 = .ok (.if_icmp .ne 4, 3) := by decide +kernel
theorem dX2_wear_14 : decode cX2_wear 14 = .ok (.return_, 1) := by decide +kernel
theorem dX2_wear_15 : decode cX2_wear 15 = .ok (.aload_n 1, 1) := by decide +kernel
theorem dX2_wear_16 : decode cX2_wear 16 = .ok (.iload 4, 2) := by decide +kernel
theorem dX2_wear_18 : decode cX2_wear 18 = .ok (.iload_n 2, 1) := by decide +kernel
theorem dX2_wear_19 : decode cX2_wear 19 = .ok (.invokevirtual 128, 3) := by decide +kernel
theorem dX2_wear_22 : decode cX2_wear 22 = .ok (.istore 5, 2) := by decide +kernel
theorem dX2_wear_24 : decode cX2_wear 24 = .ok (.aload_n 1, 1) := by decide +kernel
theorem dX2_wear_25 : decode cX2_wear 25 = .ok (.getfield 70, 3) := by decide +kernel
theorem dX2_wear_28 : decode cX2_wear 28 = .ok (.iload_n 2, 1) := by decide +kernel
theorem dX2_wear_29 : decode cX2_wear 29 = .ok (.bipush 99, 2) := by decide +kernel
theorem dX2_wear_31 : decode cX2_wear 31 = .ok (.aload_n 1, 1) := by decide +kernel
theorem dX2_wear_32 : decode cX2_wear 32 = .ok (.getfield 70, 3) := by decide +kernel
theorem dX2_wear_35 : decode cX2_wear 35 = .ok (.iload_n 2, 1) := by decide +kernel
theorem dX2_wear_36 : decode cX2_wear 36 = .ok (.iaload, 1) := by decide +kernel
theorem dX2_wear_37 : decode cX2_wear 37 = .ok (.iload 5, 2) := by decide +kernel
theorem dX2_wear_39 : decode cX2_wear 39 = .ok (.iadd, 1) := by decide +kernel
theorem dX2_wear_40 : decode cX2_wear 40 = .ok (.invokestatic 121, 3) := by decide +kernel
theorem dX2_wear_43 : decode cX2_wear 43 = .ok (.iastore, 1) := by decide +kernel
theorem dX2_wear_44 : decode cX2_wear 44 = .ok (.aload_n 1, 1) := by decide +kernel
theorem dX2_wear_45 : decode cX2_wear 45 = .ok (.getfield 79, 3) := by decide +kernel
theorem dX2_wear_48 : decode cX2_wear 48 = .ok (.iload 4, 2) := by decide +kernel
theorem dX2_wear_50 : decode cX2_wear 50 = .ok (.sipush 999, 3) := by decide +kernel
theorem dX2_wear_53 : decode cX2_wear 53 = .ok (.aload_n 1, 1) := by decide +kernel
theorem dX2_wear_54 : decode cX2_wear 54 = .ok (.getfield 79, 3) := by decide +kernel
theorem dX2_wear_57 : decode cX2_wear 57 = .ok (.iload 4, 2) := by decide +kernel
theorem dX2_wear_59 : decode cX2_wear 59 = .ok (.iaload, 1) := by decide +kernel
theorem dX2_wear_60 : decode cX2_wear 60 = .ok (.iload 5, 2) := by decide +kernel
theorem dX2_wear_62 : decode cX2_wear 62 = .ok (.iadd, 1) := by decide +kernel
theorem dX2_wear_63 : decode cX2_wear 63 = .ok (.invokestatic 121, 3) := by decide +kernel
theorem dX2_wear_66 : decode cX2_wear 66 = .ok (.iastore, 1) := by decide +kernel
theorem dX2_wear_67 : decode cX2_wear 67 = .ok (.aload_n 0, 1) := by decide +kernel
theorem dX2_wear_68 : decode cX2_wear 68 = .ok (.getfield 47, 3) := by decide +kernel
theorem dX2_wear_71 : decode cX2_wear 71 = .ok (.astore 6, 2) := by decide +kernel
theorem dX2_wear_73 : decode cX2_wear 73 = .ok (.iload 5, 2) := by decide +kernel
theorem dX2_wear_75 : decode cX2_wear 75 = .ok (.bipush 9, 2) := by decide +kernel
theorem dX2_wear_77 : decode cX2_wear 77 = .ok (.isub, 1) := by decide +kernel
theorem dX2_wear_78 : decode cX2_wear 78 = .ok (.aload_n 0, 1) := by decide +kernel
theorem dX2_wear_79 : decode cX2_wear 79 = .ok (.getfield 25, 3) := by decide +kernel
theorem dX2_wear_82 : decode cX2_wear 82 = .ok (.iload_n 2, 1) := by decide +kernel
theorem dX2_wear_83 : decode cX2_wear 83 = .ok (.iaload, 1) := by decide +kernel
theorem dX2_wear_84 : decode cX2_wear 84 = .ok (.isub, 1) := by decide +kernel
theorem dX2_wear_85 : decode cX2_wear 85 = .ok (.istore 7, 2) := by decide +kernel
theorem dX2_wear_87 : decode cX2_wear 87 = .ok (.aload 6, 2) := by decide +kernel
theorem dX2_wear_89 : decode cX2_wear 89 = .ok (.ifnull 27, 3) := by decide +kernel
theorem dX2_wear_92 : decode cX2_wear 92 = .ok (.aload_n 0, 1) := by decide +kernel
theorem dX2_wear_93 : decode cX2_wear 93 = .ok (.aload_n 1, 1) := by decide +kernel
theorem dX2_wear_94 : decode cX2_wear 94 = .ok (.iload 4, 2) := by decide +kernel
theorem dX2_wear_96 : decode cX2_wear 96 = .ok (.iload_n 2, 1) := by decide +kernel
theorem dX2_wear_97 : decode cX2_wear 97 = .ok (.iload_n 3, 1) := by decide +kernel
theorem dX2_wear_98 : decode cX2_wear 98 = .ok (.invokevirtual 110, 3) := by decide +kernel
theorem dX2_wear_101 : decode cX2_wear 101 = .ok (.aload 6, 2) := by decide +kernel
theorem dX2_wear_103 : decode cX2_wear 103 = .ok (.aload_n 0, 1) := by decide +kernel
theorem dX2_wear_104 : decode cX2_wear 104 = .ok (.getfield 52, 3) := by decide +kernel
theorem dX2_wear_107 : decode cX2_wear 107 = .ok (.aload_n 0, 1) := by decide +kernel
theorem dX2_wear_108 : decode cX2_wear 108 = .ok (.getfield 55, 3) := by decide +kernel
theorem dX2_wear_111 : decode cX2_wear 111 = .ok (.invokevirtual 114, 3) := by decide +kernel
theorem dX2_wear_114 : decode cX2_wear 114 = .ok (.istore 7, 2) := by decide +kernel
theorem dX2_wear_116 : decode cX2_wear 116 = .ok (.iload 7, 2) := by decide +kernel
theorem dX2_wear_118 : decode cX2_wear 118 = .ok (.ifCond .le 21, 3) := by decide +kernel
theorem dX2_wear_121 : decode cX2_wear 121 = .ok (.aload_n 1, 1) := by decide +kernel
theorem dX2_wear_122 : decode cX2_wear 122 = .ok (.dup, 1) := by decide +kernel
theorem dX2_wear_123 : decode cX2_wear 123 = .ok (.getfield 67, 3) := by decide +kernel
theorem dX2_wear_126 : decode cX2_wear 126 = .ok (.iconst 1, 1) := by decide +kernel
theorem dX2_wear_127 : decode cX2_wear 127 = .ok (.iload_n 2, 1) := by decide +kernel
theorem dX2_wear_128 : decode cX2_wear 128 = .ok (.ishl, 1) := by decide +kernel
theorem dX2_wear_129 : decode cX2_wear 129 = .ok (.ior, 1) := by decide +kernel
theorem dX2_wear_130 : decode cX2_wear 130 = .ok (.putfield 67, 3) := by decide +kernel
theorem dX2_wear_133 : decode cX2_wear 133 = .ok (.aload_n 1, 1) := by decide +kernel
theorem dX2_wear_134 : decode cX2_wear 134 = .ok (.iload 4, 2) := by decide +kernel
theorem dX2_wear_136 : decode cX2_wear 136 = .ok (.invokevirtual 143, 3) := by decide +kernel
theorem dX2_wear_139 : decode cX2_wear 139 = .ok (.return_, 1) := by decide +kernel
theorem dX3_init_0 : decode cX3_init 0 = .ok (.aload_n 0, 1) := by decide +kernel
theorem dX3_init_1 : decode cX3_init 1 = .ok (.invokespecial 3, 3) := by decide +kernel
theorem dX3_init_4 : decode cX3_init 4 = .ok (.aload_n 0, 1) := by decide +kernel
theorem dX3_init_5 : decode cX3_init 5 = .ok (.sipush 700, 3) := by decide +kernel
theorem dX3_init_8 : decode cX3_init 8 = .ok (.newarray .byte, 2) := by decide +kernel
theorem dX3_init_10 : decode cX3_init 10 = .ok (.putfield 9, 3) := by decide +kernel
theorem dX3_init_13 : decode cX3_init 13 = .ok (.aload_n 0, 1) := by decide +kernel
theorem dX3_init_14 : decode cX3_init 14 = .ok (.iconst 0, 1) := by decide +kernel
theorem dX3_init_15 : decode cX3_init 15 = .ok (.putfield 15, 3) := by decide +kernel
theorem dX3_init_18 : decode cX3_init 18 = .ok (.aload_n 0, 1) := by decide +kernel
theorem dX3_init_19 : decode cX3_init 19 = .ok (.iconst 0, 1) := by decide +kernel
theorem dX3_init_20 : decode cX3_init 20 = .ok (.putfield 19, 3) := by decide +kernel
theorem dX3_init_23 : decode cX3_init 23 = .ok (.aload_n 0, 1) := by decide +kernel
theorem dX3_init_24 : decode cX3_init 24 = .ok (.iconst 0, 1) := by decide +kernel
theorem dX3_init_25 : decode cX3_init 25 = .ok (.putfield 22, 3) := by decide +kernel
theorem dX3_init_28 : decode cX3_init 28 = .ok (.aload_n 0, 1) := by decide +kernel
theorem dX3_init_29 : decode cX3_init 29 = .ok (.iconst (-1), 1) := by decide +kernel
theorem dX3_init_30 : decode cX3_init 30 = .ok (.putfield 25, 3) := by decide +kernel
theorem dX3_init_33 : decode cX3_init 33 = .ok (.aload_n 0, 1) := by decide +kernel
theorem dX3_init_34 : decode cX3_init 34 = .ok (.iconst 0, 1) := by decide +kernel
theorem dX3_init_35 : decode cX3_init 35 = .ok (.putfield 28, 3) := by decide +kernel
theorem dX3_init_38 : decode cX3_init 38 = .ok (.aload_n 0, 1) := by decide +kernel
theorem dX3_init_39 : decode cX3_init 39 = .ok (.iconst 0, 1) := by decide +kernel
theorem dX3_init_40 : decode cX3_init 40 = .ok (.putfield 31, 3) := by decide +kernel
theorem dX3_init_43 : decode cX3_init 43 = .ok (.aload_n 0, 1) := by decide +kernel
theorem dX3_init_44 : decode cX3_init 44 = .ok (.iconst 0, 1) := by decide +kernel
theorem dX3_init_45 : decode cX3_init 45 = .ok (.putfield 34, 3) := by decide +kernel
theorem dX3_init_48 : decode cX3_init 48 = .ok (.aload_n 0, 1) := by decide +kernel
theorem dX3_init_49 : decode cX3_init 49 = .ok (.iconst 0, 1) := by decide +kernel
theorem dX3_init_50 : decode cX3_init 50 = .ok (.putfield 37, 3) := by decide +kernel
theorem dX3_init_53 : decode cX3_init 53 = .ok (.aload_n 0, 1) := by decide +kernel
theorem dX3_init_54 : decode cX3_init 54 = .ok (.sipush 700, 3) := by decide +kernel
theorem dX3_init_57 : decode cX3_init 57 = .ok (.newarray .int, 2) := by decide +kernel
theorem dX3_init_59 : decode cX3_init 59 = .ok (.putfield 40, 3) := by decide +kernel
theorem dX3_init_62 : decode cX3_init 62 = .ok (.aload_n 0, 1) := by decide +kernel
theorem dX3_init_63 : decode cX3_init 63 = .ok (.iconst 0, 1) := by decide +kernel
theorem dX3_init_64 : decode cX3_init 64 = .ok (.putfield 44, 3) := by decide +kernel
theorem dX3_init_67 : decode cX3_init 67 = .ok (.aload_n 0, 1) := by decide +kernel
theorem dX3_init_68 : decode cX3_init 68 = .ok (.iconst 0, 1) := by decide +kernel
theorem dX3_init_69 : decode cX3_init 69 = .ok (.putfield 47, 3) := by decide +kernel
theorem dX3_init_72 : decode cX3_init 72 = .ok (.return_, 1) := by decide +kernel
theorem dX3_taped_0 : decode cX3_taped 0 = .ok (.aload_n 0, 1) := by decide +kernel
theorem dX3_taped_1 : decode cX3_taped 1 = .ok (.getfield 15, 3) := by decide +kernel
theorem dX3_taped_4 : decode cX3_taped 4 = .ok (.ireturn, 1) := by decide +kernel
theorem dX3_append_0 : decode cX3_append 0 = .ok (.bipush 24, 2) := by decide +kernel
theorem dX3_append_2 : decode cX3_append 2 = .ok (.istore_n 2, 1) := by decide +kernel
theorem dX3_append_3 : decode cX3_append 3 = .ok (.iload_n 2, 1) := by decide +kernel
theorem dX3_append_4 : decode cX3_append 4 = .ok (.ifCond .lt 42, 3) := by decide +kernel
theorem dX3_append_7 : decode cX3_append 7 = .ok (.aload_n 0, 1) := by decide +kernel
theorem dX3_append_8 : decode cX3_append 8 = .ok (.getfield 15, 3) := by decide +kernel
theorem dX3_append_11 : decode cX3_append 11 = .ok (.sipush 700, 3) := by decide +kernel
theorem dX3_append_14 : decode cX3_append 14 = .ok (.if_icmp .ge 32, 3) := by decide +kernel
theorem dX3_append_17 : decode cX3_append 17 = .ok (.aload_n 0, 1) := by decide +kernel
theorem dX3_append_18 : decode cX3_append 18 = .ok (.getfield 9, 3) := by decide +kernel
theorem dX3_append_21 : decode cX3_append 21 = .ok (.aload_n 0, 1) := by decide +kernel
theorem dX3_append_22 : decode cX3_append 22 = .ok (.getfield 15, 3) := by decide +kernel
theorem dX3_append_25 : decode cX3_append 25 = .ok (.iload_n 1, 1) := by decide +kernel
theorem dX3_append_26 : decode cX3_append 26 = .ok (.iload_n 2, 1) := by decide +kernel
theorem dX3_append_27 : decode cX3_append 27 = .ok (.iushr, 1) := by decide +kernel
theorem dX3_append_28 : decode cX3_append 28 = .ok (.i2b, 1) := by decide +kernel
theorem dX3_append_29 : decode cX3_append 29 = .ok (.bastore, 1) := by decide +kernel
theorem dX3_append_30 : decode cX3_append 30 = .ok (.aload_n 0, 1) := by decide +kernel
theorem dX3_append_31 : decode cX3_append 31 = .ok (.dup, 1) := by decide +kernel
theorem dX3_append_32 : decode cX3_append 32 = .ok (.getfield 15, 3) := by decide +kernel
theorem dX3_append_35 : decode cX3_append 35 = .ok (.iconst 1, 1) := by decide +kernel
theorem dX3_append_36 : decode cX3_append 36 = .ok (.iadd, 1) := by decide +kernel
theorem dX3_append_37 : decode cX3_append 37 = .ok (.putfield 15, 3) := by decide +kernel
theorem dX3_append_40 : decode cX3_append 40 = .ok (.iinc 2 (-8), 3) := by decide +kernel
theorem dX3_append_43 : decode cX3_append 43 = .ok (.goto (-40), 3) := by decide +kernel
theorem dX3_append_46 : decode cX3_append 46 = .ok (.return_, 1) := by decide +kernel
theorem dX3_place_0 : decode cX3_place 0 = .ok (.aload_n 0, 1) := by decide +kernel
theorem dX3_place_1 : decode cX3_place 1 = .ok (.getfield 25, 3) := by decide +kernel
theorem dX3_place_4 : decode cX3_place 4 = .ok (.ireturn, 1) := by decide +kernel
theorem dX3_read_0 : decode cX3_read 0 = .ok (.aload_n 0, 1) := by decide +kernel
theorem dX3_read_1 : decode cX3_read 1 = .ok (.iload_n 1, 1) := by decide +kernel
theorem dX3_read_2 : decode cX3_read 2 = .ok (.aload_n 0, 1) := by decide +kernel
theorem dX3_read_3 : decode cX3_read 3 = .ok (.getfield 15, 3) := by decide +kernel
theorem dX3_read_6 : decode cX3_read 6 = .ok (.invokestatic 51, 3) := by decide +kernel
theorem dX3_read_9 : decode cX3_read 9 = .ok (.putfield 19, 3) := by decide +kernel
theorem dX3_read_12 : decode cX3_read 12 = .ok (.aload_n 0, 1) := by decide +kernel
theorem dX3_read_13 : decode cX3_read 13 = .ok (.iconst 0, 1) := by decide +kernel
theorem dX3_read_14 : decode cX3_read 14 = .ok (.putfield 15, 3) := by decide +kernel
theorem dX3_read_17 : decode cX3_read 17 = .ok (.aload_n 0, 1) := by decide +kernel
theorem dX3_read_18 : decode cX3_read 18 = .ok (.iconst 0, 1) := by decide +kernel
theorem dX3_read_19 : decode cX3_read 19 = .ok (.putfield 22, 3) := by decide +kernel
theorem dX3_read_22 : decode cX3_read 22 = .ok (.aload_n 0, 1) := by decide +kernel
theorem dX3_read_23 : decode cX3_read 23 = .ok (.iconst (-1), 1) := by decide +kernel
theorem dX3_read_24 : decode cX3_read 24 = .ok (.putfield 25, 3) := by decide +kernel
theorem dX3_read_27 : decode cX3_read 27 = .ok (.aload_n 0, 1) := by decide +kernel
theorem dX3_read_28 : decode cX3_read 28 = .ok (.iconst 0, 1) := by decide +kernel
theorem dX3_read_29 : decode cX3_read 29 = .ok (.putfield 34, 3) := by decide +kernel
theorem dX3_read_32 : decode cX3_read 32 = .ok (.aload_n 2, 1) := by decide +kernel
theorem dX3_read_33 : decode cX3_read 33 = .ok (.invokevirtual 57, 3) := by decide +kernel
theorem dX3_read_36 : decode cX3_read 36 = .ok (.aload_n 0, 1) := by decide +kernel
theorem dX3_read_37 : decode cX3_read 37 = .ok (.invokevirtual 62, 3) := by decide +kernel
theorem dX3_read_40 : decode cX3_read 40 = .ok (.iconst 0, 1) := by decide +kernel
theorem dX3_read_41 : decode cX3_read 41 = .ok (.istore_n 3, 1) := by decide +kernel
theorem dX3_read_42 : decode cX3_read 42 = .ok (.iload_n 3, 1) := by decide +kernel
theorem dX3_read_43 : decode cX3_read 43 = .ok (.sipush 700, 3) := by decide +kernel
theorem dX3_read_46 : decode cX3_read 46 = .ok (.if_icmp .ge 34, 3) := by decide +kernel
theorem dX3_read_49 : decode cX3_read 49 = .ok (.aload_n 0, 1) := by decide +kernel
theorem dX3_read_50 : decode cX3_read 50 = .ok (.getfield 28, 3) := by decide +kernel
theorem dX3_read_53 : decode cX3_read 53 = .ok (.ifCond .eq 27, 3) := by decide +kernel
theorem dX3_read_56 : decode cX3_read 56 = .ok (.aload_n 0, 1) := by decide +kernel
theorem dX3_read_57 : decode cX3_read 57 = .ok (.getfield 22, 3) := by decide +kernel
theorem dX3_read_60 : decode cX3_read 60 = .ok (.ifCond .ne 20, 3) := by decide +kernel
theorem dX3_read_63 : decode cX3_read 63 = .ok (.aload_n 0, 1) := by decide +kernel
theorem dX3_read_64 : decode cX3_read 64 = .ok (.aload_n 2, 1) := by decide +kernel
theorem dX3_read_65 : decode cX3_read 65 = .ok (.invokevirtual 65, 3) := by decide +kernel
theorem dX3_read_68 : decode cX3_read 68 = .ok (.aload_n 0, 1) := by decide +kernel
theorem dX3_read_69 : decode cX3_read 69 = .ok (.bipush 59, 2) := by decide +kernel
theorem dX3_read_71 : decode cX3_read 71 = .ok (.invokevirtual 69, 3) := by decide +kernel
theorem dX3_read_74 : decode cX3_read 74 = .ok (.iinc 3 1, 3) := by decide +kernel
theorem dX3_read_77 : decode cX3_read 77 = .ok (.goto (-35), 3) := by decide +kernel
theorem dX3_read_80 : decode cX3_read 80 = .ok (.aload_n 0, 1) := by decide +kernel
theorem dX3_read_81 : decode cX3_read 81 = .ok (.getfield 22, 3) := by decide +kernel
theorem dX3_read_84 : decode cX3_read 84 = .ok (.ireturn, 1) := by decide +kernel
theorem dX3_fail_0 : decode cX3_fail 0 = .ok (.aload_n 0, 1) := by decide +kernel
theorem dX3_fail_1 : decode cX3_fail 1 = .ok (.getfield 22, 3) := by decide +kernel
theorem dX3_fail_4 : decode cX3_fail 4 = .ok (.ifCond .ne 16, 3) := by decide +kernel
theorem dX3_fail_7 : decode cX3_fail 7 = .ok (.aload_n 0, 1) := by decide +kernel
theorem dX3_fail_8 : decode cX3_fail 8 = .ok (.iload_n 1, 1) := by decide +kernel
theorem dX3_fail_9 : decode cX3_fail 9 = .ok (.putfield 22, 3) := by decide +kernel
theorem dX3_fail_12 : decode cX3_fail 12 = .ok (.aload_n 0, 1) := by decide +kernel
theorem dX3_fail_13 : decode cX3_fail 13 = .ok (.aload_n 0, 1) := by decide +kernel
theorem dX3_fail_14 : decode cX3_fail 14 = .ok (.getfield 31, 3) := by decide +kernel
theorem dX3_fail_17 : decode cX3_fail 17 = .ok (.putfield 25, 3) := by decide +kernel
theorem dX3_fail_20 : decode cX3_fail 20 = .ok (.return_, 1) := by decide +kernel
theorem dX3_advance_0 : decode cX3_advance 0 = .ok (.aload_n 0, 1) := by decide +kernel
theorem dX3_advance_1 : decode cX3_advance 1 = .ok (.aload_n 0, 1) := by decide +kernel
theorem dX3_advance_2 : decode cX3_advance 2 = .ok (.getfield 34, 3) := by decide +kernel
theorem dX3_advance_5 : decode cX3_advance 5 = .ok (.putfield 31, 3) := by decide +kernel
theorem dX3_advance_8 : decode cX3_advance 8 = .ok (.aload_n 0, 1) := by decide +kernel
theorem dX3_advance_9 : decode cX3_advance 9 = .ok (.getfield 31, 3) := by decide +kernel
theorem dX3_advance_12 : decode cX3_advance 12 = .ok (.aload_n 0, 1) := by decide +kernel
theorem dX3_advance_13 : decode cX3_advance 13 = .ok (.getfield 19, 3) := by decide +kernel
theorem dX3_advance_16 : decode cX3_advance 16 = .ok (.if_icmp .ge 28, 3) := by decide +kernel
theorem dX3_advance_19 : decode cX3_advance 19 = .ok (.aload_n 0, 1) := by decide +kernel
theorem dX3_advance_20 : decode cX3_advance 20 = .ok (.aload_n 0, 1) := by decide +kernel
theorem dX3_advance_21 : decode cX3_advance 21 = .ok (.getfield 31, 3) := by decide +kernel
theorem dX3_advance_24 : decode cX3_advance 24 = .ok (.invokevirtual 73, 3) := by decide +kernel
theorem dX3_advance_27 : decode cX3_advance 27 = .ok (.iconst 1, 1) := by decide +kernel
theorem dX3_advance_28 : decode cX3_advance 28 = .ok (.if_icmp .ne 16, 3) := by decide +kernel
theorem dX3_advance_31 : decode cX3_advance 31 = .ok (.aload_n 0, 1) := by decide +kernel
theorem dX3_advance_32 : decode cX3_advance 32 = .ok (.dup, 1) := by decide +kernel
theorem dX3_advance_33 : decode cX3_advance 33 = .ok (.getfield 31, 3) := by decide +kernel
theorem dX3_advance_36 : decode cX3_advance 36 = .ok (.iconst 1, 1) := by decide +kernel
theorem dX3_advance_37 : decode cX3_advance 37 = .ok (.iadd, 1) := by decide +kernel
theorem dX3_advance_38 : decode cX3_advance 38 = .ok (.putfield 31, 3) := by decide +kernel
theorem dX3_advance_41 : decode cX3_advance 41 = .ok (.goto (-33), 3) := by decide +kernel
theorem dX3_advance_44 : decode cX3_advance 44 = .ok (.aload_n 0, 1) := by decide +kernel
theorem dX3_advance_45 : decode cX3_advance 45 = .ok (.aload_n 0, 1) := by decide +kernel
theorem dX3_advance_46 : decode cX3_advance 46 = .ok (.aload_n 0, 1) := by decide +kernel
theorem dX3_advance_47 : decode cX3_advance 47 = .ok (.getfield 31, 3) := by decide +kernel
theorem dX3_advance_50 : decode cX3_advance 50 = .ok (.invokevirtual 73, 3) := by decide +kernel
theorem dX3_advance_53 : decode cX3_advance 53 = .ok (.putfield 28, 3) := by decide +kernel
theorem dX3_advance_56 : decode cX3_advance 56 = .ok (.aload_n 0, 1) := by decide +kernel
theorem dX3_advance_57 : decode cX3_advance 57 = .ok (.aload_n 0, 1) := by decide +kernel
theorem dX3_advance_58 : decode cX3_advance 58 = .ok (.getfield 28, 3) := by decide +kernel
theorem dX3_advance_61 : decode cX3_advance 61 = .ok (.ifCond .ne 10, 3) := by decide +kernel
theorem dX3_advance_64 : decode cX3_advance 64 = .ok (.aload_n 0, 1) := by decide +kernel
theorem dX3_advance_65 : decode cX3_advance 65 = .ok (.getfield 31, 3) := by decide +kernel
theorem dX3_advance_68 : decode cX3_advance 68 = .ok (.goto 9, 3) := by decide +kernel
theorem dX3_advance_71 : decode cX3_advance 71 = .ok (.aload_n 0, 1) := by decide +kernel
theorem dX3_advance_72 : decode cX3_advance 72 = .ok (.getfield 31, 3) := by decide +kernel
theorem dX3_advance_75 : decode cX3_advance 75 = .ok (.iconst 1, 1) := by decide +kernel
theorem dX3_advance_76 : decode cX3_advance 76 = .ok (.iadd, 1) := by decide +kernel
theorem dX3_advance_77 : decode cX3_advance 77 = .ok (.putfield 34, 3) := by decide +kernel
theorem dX3_advance_80 : decode cX3_advance 80 = .ok (.aload_n 0, 1) := by decide +kernel
theorem dX3_advance_81 : decode cX3_advance 81 = .ok (.getfield 34, 3) := by decide +kernel
theorem dX3_advance_84 : decode cX3_advance 84 = .ok (.aload_n 0, 1) := by decide +kernel
theorem dX3_advance_85 : decode cX3_advance 85 = .ok (.getfield 19, 3) := by decide +kernel
theorem dX3_advance_88 : decode cX3_advance 88 = .ok (.if_icmp .ge 39, 3) := by decide +kernel
theorem dX3_advance_91 : decode cX3_advance 91 = .ok (.aload_n 0, 1) := by decide +kernel
theorem dX3_advance_92 : decode cX3_advance 92 = .ok (.aload_n 0, 1) := by decide +kernel
theorem dX3_advance_93 : decode cX3_advance 93 = .ok (.getfield 34, 3) := by decide +kernel
theorem dX3_advance_96 : decode cX3_advance 96 = .ok (.invokevirtual 73, 3) := by decide +kernel
theorem dX3_advance_99 : decode cX3_advance 99 = .ok (.aload_n 0, 1) := by decide +kernel
theorem dX3_advance_100 : decode cX3_advance 100 = .ok (.getfield 28, 3) := by decide +kernel
theorem dX3_advance_103 : decode cX3_advance 103 = .ok (.if_icmp .ne 24, 3) := by decide +kernel
theorem dX3_advance_106 : decode cX3_advance 106 = .ok (.aload_n 0, 1) := by decide +kernel
theorem dX3_advance_107 : decode cX3_advance 107 = .ok (.getfield 28, 3) := by decide +kernel
theorem dX3_advance_110 : decode cX3_advance 110 = .ok (.iconst 4, 1) := by decide +kernel
theorem dX3_advance_111 : decode cX3_advance 111 = .ok (.if_icmp .eq 16, 3) := by decide +kernel
theorem dX3_advance_114 : decode cX3_advance 114 = .ok (.aload_n 0, 1) := by decide +kernel
theorem dX3_advance_115 : decode cX3_advance 115 = .ok (.dup, 1) := by decide +kernel
theorem dX3_advance_116 : decode cX3_advance 116 = .ok (.getfield 34, 3) := by decide +kernel
theorem dX3_advance_119 : decode cX3_advance 119 = .ok (.iconst 1, 1) := by decide +kernel
theorem dX3_advance_120 : decode cX3_advance 120 = .ok (.iadd, 1) := by decide +kernel
theorem dX3_advance_121 : decode cX3_advance 121 = .ok (.putfield 34, 3) := by decide +kernel
theorem dX3_advance_124 : decode cX3_advance 124 = .ok (.goto (-44), 3) := by decide +kernel
theorem dX3_advance_127 : decode cX3_advance 127 = .ok (.aload_n 0, 1) := by decide +kernel
theorem dX3_advance_128 : decode cX3_advance 128 = .ok (.aload_n 0, 1) := by decide +kernel
theorem dX3_advance_129 : decode cX3_advance 129 = .ok (.getfield 34, 3) := by decide +kernel
theorem dX3_advance_132 : decode cX3_advance 132 = .ok (.aload_n 0, 1) := by decide +kernel
theorem dX3_advance_133 : decode cX3_advance 133 = .ok (.getfield 31, 3) := by decide +kernel
theorem dX3_advance_136 : decode cX3_advance 136 = .ok (.isub, 1) := by decide +kernel
theorem dX3_advance_137 : decode cX3_advance 137 = .ok (.iconst 4, 1) := by decide +kernel
theorem dX3_advance_138 : decode cX3_advance 138 = .ok (.if_icmp .le 7, 3) := by decide +kernel
theorem dX3_advance_141 : decode cX3_advance 141 = .ok (.iconst (-1), 1) := by decide +kernel
theorem dX3_advance_142 : decode cX3_advance 142 = .ok (.goto 4, 3) := by decide +kernel
theorem dX3_advance_145 : decode cX3_advance 145 = .ok (.iconst 0, 1) := by decide +kernel
theorem dX3_advance_146 : decode cX3_advance 146 = .ok (.putfield 37, 3) := by decide +kernel
theorem dX3_advance_149 : decode cX3_advance 149 = .ok (.aload_n 0, 1) := by decide +kernel
theorem dX3_advance_150 : decode cX3_advance 150 = .ok (.getfield 31, 3) := by decide +kernel
theorem dX3_advance_153 : decode cX3_advance 153 = .ok (.istore_n 1, 1) := by decide +kernel
theorem dX3_advance_154 : decode cX3_advance 154 = .ok (.iload_n 1, 1) := by decide +kernel
theorem dX3_advance_155 : decode cX3_advance 155 = .ok (.aload_n 0, 1) := by decide +kernel
theorem dX3_advance_156 : decode cX3_advance 156 = .ok (.getfield 34, 3) := by decide +kernel
theorem dX3_advance_159 : decode cX3_advance 159 = .ok (.if_icmp .ge 46, 3) := by decide +kernel
theorem dX3_advance_162 : decode cX3_advance 162 = .ok (.aload_n 0, 1) := by decide +kernel
theorem dX3_advance_163 : decode cX3_advance 163 = .ok (.getfield 28, 3) := by decide +kernel
theorem dX3_advance_166 : decode cX3_advance 166 = .ok (.iconst 3, 1) := by decide +kernel
theorem dX3_advance_167 : decode cX3_advance 167 = .ok (.if_icmp .ne 38, 3) := by decide +kernel
theorem dX3_advance_170 : decode cX3_advance 170 = .ok (.aload_n 0, 1) := by decide +kernel
theorem dX3_advance_171 : decode cX3_advance 171 = .ok (.getfield 37, 3) := by decide +kernel
theorem dX3_advance_174 : decode cX3_advance 174 = .ok (.iconst (-1), 1) := by decide +kernel
theorem dX3_advance_175 : decode cX3_advance 175 = .ok (.if_icmp .eq 30, 3) := by decide +kernel
theorem dX3_advance_178 : decode cX3_advance 178 = .ok (.aload_n 0, 1) := by decide +kernel
theorem dX3_advance_179 : decode cX3_advance 179 = .ok (.aload_n 0, 1) := by decide +kernel
theorem dX3_advance_180 : decode cX3_advance 180 = .ok (.getfield 37, 3) := by decide +kernel
theorem dX3_advance_183 : decode cX3_advance 183 = .ok (.bipush 10, 2) := by decide +kernel
theorem dX3_advance_185 : decode cX3_advance 185 = .ok (.imul, 1) := by decide +kernel
theorem dX3_advance_186 : decode cX3_advance 186 = .ok (.aload_n 0, 1) := by decide +kernel
theorem dX3_advance_187 : decode cX3_advance 187 = .ok (.getfield 9, 3) := by decide +kernel
theorem dX3_advance_190 : decode cX3_advance 190 = .ok (.iload_n 1, 1) := by decide +kernel
theorem dX3_advance_191 : decode cX3_advance 191 = .ok (.baload, 1) := by decide +kernel
theorem dX3_advance_192 : decode cX3_advance 192 = .ok (.iadd, 1) := by decide +kernel
theorem dX3_advance_193 : decode cX3_advance 193 = .ok (.bipush 48, 2) := by decide +kernel
theorem dX3_advance_195 : decode cX3_advance 195 = .ok (.isub, 1) := by decide +kernel
theorem dX3_advance_196 : decode cX3_advance 196 = .ok (.putfield 37, 3) := by decide +kernel
theorem dX3_advance_199 : decode cX3_advance 199 = .ok (.iinc 1 1, 3) := by decide +kernel
theorem dX3_advance_202 : decode cX3_advance 202 = .ok (.goto (-48), 3) := by decide +kernel
theorem dX3_advance_205 : decode cX3_advance 205 = .ok (.return_, 1) := by decide +kernel
theorem dX3_kindAt_0 : decode cX3_kindAt 0 = .ok (.iload_n 1, 1) := by decide +kernel
theorem dX3_kindAt_1 : decode cX3_kindAt 1 = .ok (.ifCond .lt 11, 3) := by decide +kernel
theorem dX3_kindAt_4 : decode cX3_kindAt 4 = .ok (.iload_n 1, 1) := by decide +kernel
theorem dX3_kindAt_5 : decode cX3_kindAt 5 = .ok (.aload_n 0, 1) := by decide +kernel
theorem dX3_kindAt_6 : decode cX3_kindAt 6 = .ok (.getfield 19, 3) := by decide +kernel
theorem dX3_kindAt_9 : decode cX3_kindAt 9 = .ok (.if_icmp .lt 5, 3) := by decide +kernel
theorem dX3_kindAt_12 : decode cX3_kindAt 12 = .ok (.iconst 0, 1) := by decide +kernel
theorem dX3_kindAt_13 : decode cX3_kindAt 13 = .ok (.ireturn, 1) := by decide +kernel
theorem dX3_kindAt_14 : decode cX3_kindAt 14 = .ok (.aload_n 0, 1) := by decide +kernel
theorem dX3_kindAt_15 : decode cX3_kindAt 15 = .ok (.getfield 9, 3) := by decide +kernel
theorem dX3_kindAt_18 : decode cX3_kindAt 18 = .ok (.iload_n 1, 1) := by decide +kernel
theorem dX3_kindAt_19 : decode cX3_kindAt 19 = .ok (.baload, 1) := by decide +kernel
theorem dX3_kindAt_20 : decode cX3_kindAt 20 = .ok (.istore_n 2, 1) := by decide +kernel
theorem dX3_kindAt_21 : decode cX3_kindAt 21 = .ok (.iload_n 2, 1) := by decide +kernel
theorem dX3_kindAt_22 : decode cX3_kindAt 22 = .ok (.bipush 32, 2) := by decide +kernel
theorem dX3_kindAt_24 : decode cX3_kindAt 24 = .ok (.if_icmp .eq 9, 3) := by decide +kernel
theorem dX3_kindAt_27 : decode cX3_kindAt 27 = .ok (.iload_n 2, 1) := by decide +kernel
theorem dX3_kindAt_28 : decode cX3_kindAt 28 = .ok (.bipush 10, 2) := by decide +kernel
theorem dX3_kindAt_30 : decode cX3_kindAt 30 = .ok (.if_icmp .ne 5, 3) := by decide +kernel
theorem dX3_kindAt_33 : decode cX3_kindAt 33 = .ok (.iconst 1, 1) := by decide +kernel
theorem dX3_kindAt_34 : decode cX3_kindAt 34 = .ok (.ireturn, 1) := by decide +kernel
theorem dX3_kindAt_35 : decode cX3_kindAt 35 = .ok (.iload_n 2, 1) := by decide +kernel
theorem dX3_kindAt_36 : decode cX3_kindAt 36 = .ok (.bipush 97, 2) := by decide +kernel
theorem dX3_kindAt_38 : decode cX3_kindAt 38 = .ok (.if_icmp .lt 11, 3) := by decide +kernel
theorem dX3_kindAt_41 : decode cX3_kindAt 41 = .ok (.iload_n 2, 1) := by decide +kernel
theorem dX3_kindAt_42 : decode cX3_kindAt 42 = .ok (.bipush 122, 2) := by decide +kernel
theorem dX3_kindAt_44 : decode cX3_kindAt 44 = .ok (.if_icmp .gt 5, 3) := by decide +kernel
theorem dX3_kindAt_47 : decode cX3_kindAt 47 = .ok (.iconst 2, 1) := by decide +kernel
theorem dX3_kindAt_48 : decode cX3_kindAt 48 = .ok (.ireturn, 1) := by decide +kernel
theorem dX3_kindAt_49 : decode cX3_kindAt 49 = .ok (.iload_n 2, 1) := by decide +kernel
theorem dX3_kindAt_50 : decode cX3_kindAt 50 = .ok (.bipush 48, 2) := by decide +kernel
theorem dX3_kindAt_52 : decode cX3_kindAt 52 = .ok (.if_icmp .lt 13, 3) := by decide +kernel
theorem dX3_kindAt_55 : decode cX3_kindAt 55 = .ok (.iload_n 2, 1) := by decide +kernel
theorem dX3_kindAt_56 : decode cX3_kindAt 56 = .ok (.bipush 57, 2) := by decide +kernel
theorem dX3_kindAt_58 : decode cX3_kindAt 58 = .ok (.if_icmp .gt 7, 3) := by decide +kernel
theorem dX3_kindAt_61 : decode cX3_kindAt 61 = .ok (.iconst 3, 1) := by decide +kernel
theorem dX3_kindAt_62 : decode cX3_kindAt 62 = .ok (.goto 4, 3) := by decide +kernel
theorem dX3_kindAt_65 : decode cX3_kindAt 65 = .ok (.iconst 4, 1) := by decide +kernel
theorem dX3_kindAt_66 : decode cX3_kindAt 66 = .ok (.ireturn, 1) := by decide +kernel
theorem dX3_isWord_0 : decode cX3_isWord 0 = .ok (.aload_n 0, 1) := by decide +kernel
theorem dX3_isWord_1 : decode cX3_isWord 1 = .ok (.getfield 28, 3) := by decide +kernel
theorem dX3_isWord_4 : decode cX3_isWord 4 = .ok (.iconst 2, 1) := by decide +kernel
theorem dX3_isWord_5 : decode cX3_isWord 5 = .ok (.if_icmp .ne 23, 3) := by decide +kernel
theorem dX3_isWord_8 : decode cX3_isWord 8 = .ok (.aload_n 0, 1) := by decide +kernel
theorem dX3_isWord_9 : decode cX3_isWord 9 = .ok (.getfield 34, 3) := by decide +kernel
theorem dX3_isWord_12 : decode cX3_isWord 12 = .ok (.aload_n 0, 1) := by decide +kernel
theorem dX3_isWord_13 : decode cX3_isWord 13 = .ok (.getfield 31, 3) := by decide +kernel
theorem dX3_isWord_16 : decode cX3_isWord 16 = .ok (.isub, 1) := by decide +kernel
theorem dX3_isWord_17 : decode cX3_isWord 17 = .ok (.aload_n 1, 1) := by decide +kernel
theorem dX3_isWord_18 : decode cX3_isWord 18 = .ok (.invokevirtual 77, 3) := by decide +kernel
theorem dX3_isWord_21 : decode cX3_isWord 21 = .ok (.if_icmp .ne 7, 3) := by decide +kernel
theorem dX3_isWord_24 : decode cX3_isWord 24 = .ok (.iconst 1, 1) := by decide +kernel
theorem dX3_isWord_25 : decode cX3_isWord 25 = .ok (.goto 4, 3) := by decide +kernel
theorem dX3_isWord_28 : decode cX3_isWord 28 = .ok (.iconst 0, 1) := by decide +kernel
theorem dX3_isWord_29 : decode cX3_isWord 29 = .ok (.istore_n 2, 1) := by decide +kernel
theorem dX3_isWord_30 : decode cX3_isWord 30 = .ok (.iconst 0, 1) := by decide +kernel
theorem dX3_isWord_31 : decode cX3_isWord 31 = .ok (.istore_n 3, 1) := by decide +kernel
theorem dX3_isWord_32 : decode cX3_isWord 32 = .ok (.iload_n 3, 1) := by decide +kernel
theorem dX3_isWord_33 : decode cX3_isWord 33 = .ok (.aload_n 1, 1) := by decide +kernel
theorem dX3_isWord_34 : decode cX3_isWord 34 = .ok (.invokevirtual 77, 3) := by decide +kernel
theorem dX3_isWord_37 : decode cX3_isWord 37 = .ok (.if_icmp .ge 38, 3) := by decide +kernel
theorem dX3_isWord_40 : decode cX3_isWord 40 = .ok (.iload_n 2, 1) := by decide +kernel
theorem dX3_isWord_41 : decode cX3_isWord 41 = .ok (.ifCond .eq 34, 3) := by decide +kernel
theorem dX3_isWord_44 : decode cX3_isWord 44 = .ok (.aload_n 0, 1) := by decide +kernel
theorem dX3_isWord_45 : decode cX3_isWord 45 = .ok (.getfield 9, 3) := by decide +kernel
theorem dX3_isWord_48 : decode cX3_isWord 48 = .ok (.aload_n 0, 1) := by decide +kernel
theorem dX3_isWord_49 : decode cX3_isWord 49 = .ok (.getfield 31, 3) := by decide +kernel
theorem dX3_isWord_52 : decode cX3_isWord 52 = .ok (.iload_n 3, 1) := by decide +kernel
theorem dX3_isWord_53 : decode cX3_isWord 53 = .ok (.iadd, 1) := by decide +kernel
theorem dX3_isWord_54 : decode cX3_isWord 54 = .ok (.baload, 1) := by decide +kernel
theorem dX3_isWord_55 : decode cX3_isWord 55 = .ok (.aload_n 1, 1) := by decide +kernel
theorem dX3_isWord_56 : decode cX3_isWord 56 = .ok (.iload_n 3, 1) := by decide +kernel
theorem dX3_isWord_57 : decode cX3_isWord 57 = .ok (.invokevirtual 82, 3) := by decide +kernel
theorem dX3_isWord_60 : decode cX3_isWord 60 = .ok (.if_icmp .ne 7, 3) := by decide +kernel
theorem dX3_isWord_63 : decode cX3_isWord 63 = .ok (.iconst 1, 1) := by decide +kernel
theorem dX3_isWord_64 : decode cX3_isWord 64 = .ok (.goto 4, 3) := by decide +kernel
theorem dX3_isWord_67 : decode cX3_isWord 67 = .ok (.iconst 0, 1) := by decide +kernel
theorem dX3_isWord_68 : decode cX3_isWord 68 = .ok (.istore_n 2, 1) := by decide +kernel
theorem dX3_isWord_69 : decode cX3_isWord 69 = .ok (.iinc 3 1, 3) := by decide +kernel
theorem dX3_isWord_72 : decode cX3_isWord 72 = .ok (.goto (-40), 3) := by decide +kernel
theorem dX3_isWord_75 : decode cX3_isWord 75 = .ok (.iload_n 2, 1) := by decide +kernel
theorem dX3_isWord_76 : decode cX3_isWord 76 = .ok (.ireturn, 1) := by decide +kernel
theorem dX3_isSign_0 : decode cX3_isSign 0 = .ok (.aload_n 0, 1) := by decide +kernel
theorem dX3_isSign_1 : decode cX3_isSign 1 = .ok (.getfield 28, 3) := by decide +kernel
theorem dX3_isSign_4 : decode cX3_isSign 4 = .ok (.iconst 4, 1) := by decide +kernel
theorem dX3_isSign_5 : decode cX3_isSign 5 = .ok (.if_icmp .ne 20, 3) := by decide +kernel
theorem dX3_isSign_8 : decode cX3_isSign 8 = .ok (.aload_n 0, 1) := by decide +kernel
theorem dX3_isSign_9 : decode cX3_isSign 9 = .ok (.getfield 9, 3) := by decide +kernel
theorem dX3_isSign_12 : decode cX3_isSign 12 = .ok (.aload_n 0, 1) := by decide +kernel
theorem dX3_isSign_13 : decode cX3_isSign 13 = .ok (.getfield 31, 3) := by decide +kernel
theorem dX3_isSign_16 : decode cX3_isSign 16 = .ok (.baload, 1) := by decide +kernel
theorem dX3_isSign_17 : decode cX3_isSign 17 = .ok (.iload_n 1, 1) := by decide +kernel
theorem dX3_isSign_18 : decode cX3_isSign 18 = .ok (.if_icmp .ne 7, 3) := by decide +kernel
theorem dX3_isSign_21 : decode cX3_isSign 21 = .ok (.iconst 1, 1) := by decide +kernel
theorem dX3_isSign_22 : decode cX3_isSign 22 = .ok (.goto 4, 3) := by decide +kernel
theorem dX3_isSign_25 : decode cX3_isSign 25 = .ok (.iconst 0, 1) := by decide +kernel
theorem dX3_isSign_26 : decode cX3_isSign 26 = .ok (.ireturn, 1) := by decide +kernel
theorem dX3_takeSign_0 : decode cX3_takeSign 0 = .ok (.aload_n 0, 1) := by decide +kernel
theorem dX3_takeSign_1 : decode cX3_takeSign 1 = .ok (.iload_n 1, 1) := by decide +kernel
theorem dX3_takeSign_2 : decode cX3_takeSign 2 = .ok (.invokevirtual 86, 3) := by decide +kernel
theorem dX3_takeSign_5 : decode cX3_takeSign 5 = .ok (.ifCond .eq 17, 3) := by decide +kernel
theorem dX3_takeSign_8 : decode cX3_takeSign 8 = .ok (.aload_n 0, 1) := by decide +kernel
theorem dX3_takeSign_9 : decode cX3_takeSign 9 = .ok (.getfield 22, 3) := by decide +kernel
theorem dX3_takeSign_12 : decode cX3_takeSign 12 = .ok (.ifCond .ne 10, 3) := by decide +kernel
theorem dX3_takeSign_15 : decode cX3_takeSign 15 = .ok (.aload_n 0, 1) := by decide +kernel
theorem dX3_takeSign_16 : decode cX3_takeSign 16 = .ok (.invokevirtual 62, 3) := by decide +kernel
theorem dX3_takeSign_19 : decode cX3_takeSign 19 = .ok (.goto 8, 3) := by decide +kernel
theorem dX3_takeSign_22 : decode cX3_takeSign 22 = .ok (.aload_n 0, 1) := by decide +kernel
theorem dX3_takeSign_23 : decode cX3_takeSign 23 = .ok (.iconst 1, 1) := by decide +kernel
theorem dX3_takeSign_24 : decode cX3_takeSign 24 = .ok (.invokevirtual 90, 3) := by decide +kernel
theorem dX3_takeSign_27 : decode cX3_takeSign 27 = .ok (.return_, 1) := by decide +kernel
theorem dX3_takeNumber_0 : decode cX3_takeNumber 0 = .ok (.aload_n 0, 1) := by decide +kernel
theorem dX3_takeNumber_1 : decode cX3_takeNumber 1 = .ok (.getfield 37, 3) := by decide +kernel
theorem dX3_takeNumber_4 : decode cX3_takeNumber 4 = .ok (.istore_n 3, 1) := by decide +kernel
theorem dX3_takeNumber_5 : decode cX3_takeNumber 5 = .ok (.aload_n 0, 1) := by decide +kernel
theorem dX3_takeNumber_6 : decode cX3_takeNumber 6 = .ok (.getfield 28, 3) := by decide +kernel
theorem dX3_takeNumber_9 : decode cX3_takeNumber 9 = .ok (.iconst 3, 1) := by decide +kernel
theorem dX3_takeNumber_10 : decode cX3_takeNumber 10 = .ok (.if_icmp .eq 11, 3) := by decide +kernel
theorem dX3_takeNumber_13 : decode cX3_takeNumber 13 = .ok (.aload_n 0, 1) := by decide +kernel
theorem dX3_takeNumber_14 : decode cX3_takeNumber 14 = .ok (.iconst 1, 1) := by decide +kernel
theorem dX3_takeNumber_15 : decode cX3_takeNumber 15 = .ok (.invokevirtual 90, 3) := by decide +kernel
theorem dX3_takeNumber_18 : decode cX3_takeNumber 18 = .ok (.goto 18, 3) := by decide +kernel
theorem dX3_takeNumber_21 : decode cX3_takeNumber 21 = .ok (.iload_n 3, 1) := by decide +kernel
theorem dX3_takeNumber_22 : decode cX3_takeNumber 22 = .ok (.iload_n 1, 1) := by decide +kernel
theorem dX3_takeNumber_23 : decode cX3_takeNumber 23 = .ok (.if_icmp .lt 8, 3) := by decide +kernel
theorem dX3_takeNumber_26 : decode cX3_takeNumber 26 = .ok (.iload_n 3, 1) := by decide +kernel
theorem dX3_takeNumber_27 : decode cX3_takeNumber 27 = .ok (.iload_n 2, 1) := by decide +kernel
theorem dX3_takeNumber_28 : decode cX3_takeNumber 28 = .ok (.if_icmp .le 8, 3) := by decide +kernel
theorem dX3_takeNumber_31 : decode cX3_takeNumber 31 = .ok (.aload_n 0, 1) := by decide +kernel
theorem dX3_takeNumber_32 : decode cX3_takeNumber 32 = .ok (.iconst 2, 1) := by decide +kernel
theorem dX3_takeNumber_33 : decode cX3_takeNumber 33 = .ok (.invokevirtual 90, 3) := by decide +kernel
theorem dX3_takeNumber_36 : decode cX3_takeNumber 36 = .ok (.aload_n 0, 1) := by decide +kernel
theorem dX3_takeNumber_37 : decode cX3_takeNumber 37 = .ok (.getfield 22, 3) := by decide +kernel
theorem dX3_takeNumber_40 : decode cX3_takeNumber 40 = .ok (.ifCond .ne 7, 3) := by decide +kernel
theorem dX3_takeNumber_43 : decode cX3_takeNumber 43 = .ok (.aload_n 0, 1) := by decide +kernel
theorem dX3_takeNumber_44 : decode cX3_takeNumber 44 = .ok (.invokevirtual 62, 3) := by decide +kernel
theorem dX3_takeNumber_47 : decode cX3_takeNumber 47 = .ok (.iload_n 3, 1) := by decide +kernel
theorem dX3_takeNumber_48 : decode cX3_takeNumber 48 = .ok (.ireturn, 1) := by decide +kernel
theorem dX3_line_0 : decode cX3_line 0 = .ok (.aload_n 0, 1) := by decide +kernel
theorem dX3_line_1 : decode cX3_line 1 = .ok (.ldc 94, 2) := by decide +kernel
theorem dX3_line_3 : decode cX3_line 3 = .ok (.invokevirtual 96, 3) := by decide +kernel
theorem dX3_line_6 : decode cX3_line 6 = .ok (.ifCond .eq 11, 3) := by decide +kernel
theorem dX3_line_9 : decode cX3_line 9 = .ok (.aload_n 0, 1) := by decide +kernel
theorem dX3_line_10 : decode cX3_line 10 = .ok (.aload_n 1, 1) := by decide +kernel
theorem dX3_line_11 : decode cX3_line 11 = .ok (.invokevirtual 100, 3) := by decide +kernel
theorem dX3_line_14 : decode cX3_line 14 = .ok (.goto 78, 3) := by decide +kernel
theorem dX3_line_17 : decode cX3_line 17 = .ok (.aload_n 0, 1) := by decide +kernel
theorem dX3_line_18 : decode cX3_line 18 = .ok (.ldc 103, 2) := by decide +kernel
theorem dX3_line_20 : decode cX3_line 20 = .ok (.invokevirtual 96, 3) := by decide +kernel
theorem dX3_line_23 : decode cX3_line 23 = .ok (.ifCond .eq 11, 3) := by decide +kernel
theorem dX3_line_26 : decode cX3_line 26 = .ok (.aload_n 0, 1) := by decide +kernel
theorem dX3_line_27 : decode cX3_line 27 = .ok (.aload_n 1, 1) := by decide +kernel
theorem dX3_line_28 : decode cX3_line 28 = .ok (.invokevirtual 105, 3) := by decide +kernel
theorem dX3_line_31 : decode cX3_line 31 = .ok (.goto 61, 3) := by decide +kernel
theorem dX3_line_34 : decode cX3_line 34 = .ok (.aload_n 0, 1) := by decide +kernel
theorem dX3_line_35 : decode cX3_line 35 = .ok (.ldc 108, 2) := by decide +kernel
theorem dX3_line_37 : decode cX3_line 37 = .ok (.invokevirtual 96, 3) := by decide +kernel
theorem dX3_line_40 : decode cX3_line 40 = .ok (.ifCond .eq 11, 3) := by decide +kernel
theorem dX3_line_43 : decode cX3_line 43 = .ok (.aload_n 0, 1) := by decide +kernel
theorem dX3_line_44 : decode cX3_line 44 = .ok (.aload_n 1, 1) := by decide +kernel
theorem dX3_line_45 : decode cX3_line 45 = .ok (.invokevirtual 110, 3) := by decide +kernel
theorem dX3_line_48 : decode cX3_line 48 = .ok (.goto 44, 3) := by decide +kernel
theorem dX3_line_51 : decode cX3_line 51 = .ok (.aload_n 0, 1) := by decide +kernel
theorem dX3_line_52 : decode cX3_line 52 = .ok (.ldc 113, 2) := by decide +kernel
theorem dX3_line_54 : decode cX3_line 54 = .ok (.invokevirtual 96, 3) := by decide +kernel
theorem dX3_line_57 : decode cX3_line 57 = .ok (.ifCond .eq 12, 3) := by decide +kernel
theorem dX3_line_60 : decode cX3_line 60 = .ok (.aload_n 0, 1) := by decide +kernel
theorem dX3_line_61 : decode cX3_line 61 = .ok (.aload_n 1, 1) := by decide +kernel
theorem dX3_line_62 : decode cX3_line 62 = .ok (.iconst 0, 1) := by decide +kernel
theorem dX3_line_63 : decode cX3_line 63 = .ok (.invokevirtual 115, 3) := by decide +kernel
theorem dX3_line_66 : decode cX3_line 66 = .ok (.goto 26, 3) := by decide +kernel
theorem dX3_line_69 : decode cX3_line 69 = .ok (.aload_n 0, 1) := by decide +kernel
theorem dX3_line_70 : decode cX3_line 70 = .ok (.ldc 119, 2) := by decide +kernel
theorem dX3_line_72 : decode cX3_line 72 = .ok (.invokevirtual 96, 3) := by decide +kernel
theorem dX3_line_75 : decode cX3_line 75 = .ok (.ifCond .eq 12, 3) := by decide +kernel
theorem dX3_line_78 : decode cX3_line 78 = .ok (.aload_n 0, 1) := by decide +kernel
theorem dX3_line_79 : decode cX3_line 79 = .ok (.aload_n 1, 1) := by decide +kernel
theorem dX3_line_80 : decode cX3_line 80 = .ok (.iconst 1, 1) := by decide +kernel
theorem dX3_line_81 : decode cX3_line 81 = .ok (.invokevirtual 115, 3) := by decide +kernel
theorem dX3_line_84 : decode cX3_line 84 = .ok (.goto 8, 3) := by decide +kernel
theorem dX3_line_87 : decode cX3_line 87 = .ok (.aload_n 0, 1) := by decide +kernel
theorem dX3_line_88 : decode cX3_line 88 = .ok (.iconst 1, 1) := by decide +kernel
theorem dX3_line_89 : decode cX3_line 89 = .ok (.invokevirtual 90, 3) := by decide +kernel
theorem dX3_line_92 : decode cX3_line 92 = .ok (.return_, 1) := by decide +kernel
theorem dX3_houseLine_0 : decode cX3_houseLine 0 = .ok (.aload_n 1, 1) := by decide +kernel
theorem dX3_houseLine_1 : decode cX3_houseLine 1 = .ok (.getfield 121, 3) := by decide +kernel
theorem dX3_houseLine_4 : decode cX3_houseLine 4 = .ok (.bipush 8, 2) := by decide +kernel
theorem dX3_houseLine_6 : decode cX3_houseLine 6 = .ok (.if_icmp .lt 9, 3) := by decide +kernel
theorem dX3_houseLine_9 : decode cX3_houseLine 9 = .ok (.aload_n 0, 1) := by decide +kernel
theorem dX3_houseLine_10 : decode cX3_houseLine 10 = .ok (.iconst 2, 1) := by decide +kernel
theorem dX3_houseLine_11 : decode cX3_houseLine 11 = .ok (.invokevirtual 90, 3) := by decide +kernel
theorem dX3_houseLine_14 : decode cX3_houseLine 14 = .ok (.return_, 1) := by decide +kernel
theorem dX3_houseLine_15 : decode cX3_houseLine 15 = .ok (.aload_n 0, 1) := by decide +kernel
theorem dX3_houseLine_16 : decode cX3_houseLine 16 = .ok (.invokevirtual 62, 3) := by decide +kernel
theorem dX3_houseLine_19 : decode cX3_houseLine 19 = .ok (.aload_n 1, 1) := by decide +kernel
theorem dX3_houseLine_20 : decode cX3_houseLine 20 = .ok (.getfield 124, 3) := by decide +kernel
theorem dX3_houseLine_23 : decode cX3_houseLine 23 = .ok (.aload_n 1, 1) := by decide +kernel
theorem dX3_houseLine_24 : decode cX3_houseLine 24 = .ok (.getfield 121, 3) := by decide +kernel
theorem dX3_houseLine_27 : decode cX3_houseLine 27 = .ok (.aload_n 0, 1) := by decide +kernel
theorem dX3_houseLine_28 : decode cX3_houseLine 28 = .ok (.iconst 1, 1) := by decide +kernel
theorem dX3_houseLine_29 : decode cX3_houseLine 29 = .ok (.bipush 60, 2) := by decide +kernel
theorem dX3_houseLine_31 : decode cX3_houseLine 31 = .ok (.invokevirtual 127, 3) := by decide +kernel
theorem dX3_houseLine_34 : decode cX3_houseLine 34 = .ok (.iastore, 1) := by decide +kernel
theorem dX3_houseLine_35 : decode cX3_houseLine 35 = .ok (.aload_n 1, 1) := by decide +kernel
theorem dX3_houseLine_36 : decode cX3_houseLine 36 = .ok (.getfield 130, 3) := by decide +kernel
theorem dX3_houseLine_39 : decode cX3_houseLine 39 = .ok (.aload_n 1, 1) := by decide +kernel
theorem dX3_houseLine_40 : decode cX3_houseLine 40 = .ok (.getfield 121, 3) := by decide +kernel
theorem dX3_houseLine_43 : decode cX3_houseLine 43 = .ok (.aload_n 0, 1) := by decide +kernel
theorem dX3_houseLine_44 : decode cX3_houseLine 44 = .ok (.iconst 0, 1) := by decide +kernel
theorem dX3_houseLine_45 : decode cX3_houseLine 45 = .ok (.bipush 9, 2) := by decide +kernel
theorem dX3_houseLine_47 : decode cX3_houseLine 47 = .ok (.invokevirtual 127, 3) := by decide +kernel
theorem dX3_houseLine_50 : decode cX3_houseLine 50 = .ok (.iastore, 1) := by decide +kernel
theorem dX3_houseLine_51 : decode cX3_houseLine 51 = .ok (.aload_n 1, 1) := by decide +kernel
theorem dX3_houseLine_52 : decode cX3_houseLine 52 = .ok (.getfield 133, 3) := by decide +kernel
theorem dX3_houseLine_55 : decode cX3_houseLine 55 = .ok (.aload_n 1, 1) := by decide +kernel
theorem dX3_houseLine_56 : decode cX3_houseLine 56 = .ok (.getfield 121, 3) := by decide +kernel
theorem dX3_houseLine_59 : decode cX3_houseLine 59 = .ok (.aload_n 0, 1) := by decide +kernel
theorem dX3_houseLine_60 : decode cX3_houseLine 60 = .ok (.iconst 0, 1) := by decide +kernel
theorem dX3_houseLine_61 : decode cX3_houseLine 61 = .ok (.bipush 30, 2) := by decide +kernel
theorem dX3_houseLine_63 : decode cX3_houseLine 63 = .ok (.invokevirtual 127, 3) := by decide +kernel
theorem dX3_houseLine_66 : decode cX3_houseLine 66 = .ok (.iastore, 1) := by decide +kernel
theorem dX3_houseLine_67 : decode cX3_houseLine 67 = .ok (.aload_n 1, 1) := by decide +kernel
theorem dX3_houseLine_68 : decode cX3_houseLine 68 = .ok (.dup, 1) := by decide +kernel
theorem dX3_houseLine_69 : decode cX3_houseLine 69 = .ok (.getfield 121, 3) := by decide +kernel
theorem dX3_houseLine_72 : decode cX3_houseLine 72 = .ok (.iconst 1, 1) := by decide +kernel
theorem dX3_houseLine_73 : decode cX3_houseLine 73 = .ok (.iadd, 1) := by decide +kernel
theorem dX3_houseLine_74 : decode cX3_houseLine 74 = .ok (.putfield 121, 3) := by decide +kernel
theorem dX3_houseLine_77 : decode cX3_houseLine 77 = .ok (.return_, 1) := by decide +kernel
theorem dX3_personLine_0 : decode cX3_personLine 0 = .ok (.aload_n 1, 1) := by decide +kernel
theorem dX3_personLine_1 : decode cX3_personLine 1 = .ok (.getfield 136, 3) := by decide +kernel
theorem dX3_personLine_4 : decode cX3_personLine 4 = .ok (.bipush 8, 2) := by decide +kernel
theorem dX3_personLine_6 : decode cX3_personLine 6 = .ok (.if_icmp .lt 9, 3) := by decide +kernel
theorem dX3_personLine_9 : decode cX3_personLine 9 = .ok (.aload_n 0, 1) := by decide +kernel
theorem dX3_personLine_10 : decode cX3_personLine 10 = .ok (.iconst 2, 1) := by decide +kernel
theorem dX3_personLine_11 : decode cX3_personLine 11 = .ok (.invokevirtual 90, 3) := by decide +kernel
theorem dX3_personLine_14 : decode cX3_personLine 14 = .ok (.return_, 1) := by decide +kernel
theorem dX3_personLine_15 : decode cX3_personLine 15 = .ok (.aload_n 0, 1) := by decide +kernel
theorem dX3_personLine_16 : decode cX3_personLine 16 = .ok (.invokevirtual 62, 3) := by decide +kernel
theorem dX3_personLine_19 : decode cX3_personLine 19 = .ok (.aload_n 1, 1) := by decide +kernel
theorem dX3_personLine_20 : decode cX3_personLine 20 = .ok (.getfield 139, 3) := by decide +kernel
theorem dX3_personLine_23 : decode cX3_personLine 23 = .ok (.aload_n 1, 1) := by decide +kernel
theorem dX3_personLine_24 : decode cX3_personLine 24 = .ok (.getfield 136, 3) := by decide +kernel
theorem dX3_personLine_27 : decode cX3_personLine 27 = .ok (.aload_n 0, 1) := by decide +kernel
theorem dX3_personLine_28 : decode cX3_personLine 28 = .ok (.iconst 1, 1) := by decide +kernel
theorem dX3_personLine_29 : decode cX3_personLine 29 = .ok (.bipush 60, 2) := by decide +kernel
theorem dX3_personLine_31 : decode cX3_personLine 31 = .ok (.invokevirtual 127, 3) := by decide +kernel
theorem dX3_personLine_34 : decode cX3_personLine 34 = .ok (.iastore, 1) := by decide +kernel
theorem dX3_personLine_35 : decode cX3_personLine 35 = .ok (.aload_n 1, 1) := by decide +kernel
theorem dX3_personLine_36 : decode cX3_personLine 36 = .ok (.getfield 142, 3) := by decide +kernel
theorem dX3_personLine_39 : decode cX3_personLine 39 = .ok (.aload_n 1, 1) := by decide +kernel
theorem dX3_personLine_40 : decode cX3_personLine 40 = .ok (.getfield 136, 3) := by decide +kernel
theorem dX3_personLine_43 : decode cX3_personLine 43 = .ok (.aload_n 0, 1) := by decide +kernel
theorem dX3_personLine_44 : decode cX3_personLine 44 = .ok (.iconst 0, 1) := by decide +kernel
theorem dX3_personLine_45 : decode cX3_personLine 45 = .ok (.bipush 9, 2) := by decide +kernel
theorem dX3_personLine_47 : decode cX3_personLine 47 = .ok (.invokevirtual 127, 3) := by decide +kernel
theorem dX3_personLine_50 : decode cX3_personLine 50 = .ok (.iastore, 1) := by decide +kernel
theorem dX3_personLine_51 : decode cX3_personLine 51 = .ok (.aload_n 1, 1) := by decide +kernel
theorem dX3_personLine_52 : decode cX3_personLine 52 = .ok (.getfield 145, 3) := by decide +kernel
theorem dX3_personLine_55 : decode cX3_personLine 55 = .ok (.aload_n 1, 1) := by decide +kernel
theorem dX3_personLine_56 : decode cX3_personLine 56 = .ok (.getfield 136, 3) := by decide +kernel
theorem dX3_personLine_59 : decode cX3_personLine 59 = .ok (.iconst (-1), 1) := by decide +kernel
theorem dX3_personLine_60 : decode cX3_personLine 60 = .ok (.iastore, 1) := by decide +kernel
theorem dX3_personLine_61 : decode cX3_personLine 61 = .ok (.aload_n 0, 1) := by decide +kernel
theorem dX3_personLine_62 : decode cX3_personLine 62 = .ok (.getfield 22, 3) := by decide +kernel
theorem dX3_personLine_65 : decode cX3_personLine 65 = .ok (.ifCond .ne 30, 3) := by decide +kernel
theorem dX3_personLine_68 : decode cX3_personLine 68 = .ok (.aload_n 0, 1) := by decide +kernel
theorem dX3_personLine_69 : decode cX3_personLine 69 = .ok (.ldc 148, 2) := by decide +kernel
theorem dX3_personLine_71 : decode cX3_personLine 71 = .ok (.invokevirtual 96, 3) := by decide +kernel
theorem dX3_personLine_74 : decode cX3_personLine 74 = .ok (.ifCond .eq 21, 3) := by decide +kernel
theorem dX3_personLine_77 : decode cX3_personLine 77 = .ok (.aload_n 0, 1) := by decide +kernel
theorem dX3_personLine_78 : decode cX3_personLine 78 = .ok (.invokevirtual 62, 3) := by decide +kernel
theorem dX3_personLine_81 : decode cX3_personLine 81 = .ok (.aload_n 1, 1) := by decide +kernel
theorem dX3_personLine_82 : decode cX3_personLine 82 = .ok (.getfield 145, 3) := by decide +kernel
theorem dX3_personLine_85 : decode cX3_personLine 85 = .ok (.aload_n 1, 1) := by decide +kernel
theorem dX3_personLine_86 : decode cX3_personLine 86 = .ok (.getfield 136, 3) := by decide +kernel
theorem dX3_personLine_89 : decode cX3_personLine 89 = .ok (.aload_n 0, 1) := by decide +kernel
theorem dX3_personLine_90 : decode cX3_personLine 90 = .ok (.aload_n 1, 1) := by decide +kernel
theorem dX3_personLine_91 : decode cX3_personLine 91 = .ok (.invokevirtual 150, 3) := by decide +kernel
theorem dX3_personLine_94 : decode cX3_personLine 94 = .ok (.iastore, 1) := by decide +kernel
theorem dX3_personLine_95 : decode cX3_personLine 95 = .ok (.aload_n 1, 1) := by decide +kernel
theorem dX3_personLine_96 : decode cX3_personLine 96 = .ok (.dup, 1) := by decide +kernel
theorem dX3_personLine_97 : decode cX3_personLine 97 = .ok (.getfield 136, 3) := by decide +kernel
theorem dX3_personLine_100 : decode cX3_personLine 100 = .ok (.iconst 1, 1) := by decide +kernel
theorem dX3_personLine_101 : decode cX3_personLine 101 = .ok (.iadd, 1) := by decide +kernel
theorem dX3_personLine_102 : decode cX3_personLine 102 = .ok (.putfield 136, 3) := by decide +kernel
theorem dX3_personLine_105 : decode cX3_personLine 105 = .ok (.return_, 1) := by decide +kernel
theorem dX3_takeHome_0 : decode cX3_takeHome 0 = .ok (.aload_n 0, 1) := by decide +kernel
theorem dX3_takeHome_1 : decode cX3_takeHome 1 = .ok (.getfield 37, 3) := by decide +kernel
theorem dX3_takeHome_4 : decode cX3_takeHome 4 = .ok (.istore_n 2, 1) := by decide +kernel
theorem dX3_takeHome_5 : decode cX3_takeHome 5 = .ok (.aload_n 0, 1) := by decide +kernel
theorem dX3_takeHome_6 : decode cX3_takeHome 6 = .ok (.getfield 28, 3) := by decide +kernel
theorem dX3_takeHome_9 : decode cX3_takeHome 9 = .ok (.iconst 3, 1) := by decide +kernel
theorem dX3_takeHome_10 : decode cX3_takeHome 10 = .ok (.if_icmp .eq 11, 3) := by decide +kernel
theorem dX3_takeHome_13 : decode cX3_takeHome 13 = .ok (.aload_n 0, 1) := by decide +kernel
theorem dX3_takeHome_14 : decode cX3_takeHome 14 = .ok (.iconst 1, 1) := by decide +kernel
theorem dX3_takeHome_15 : decode cX3_takeHome 15 = .ok (.invokevirtual 90, 3) := by decide +kernel
theorem dX3_takeHome_18 : decode cX3_takeHome 18 = .ok (.goto 52, 3) := by decide +kernel
theorem dX3_takeHome_21 : decode cX3_takeHome 21 = .ok (.iload_n 2, 1) := by decide +kernel
theorem dX3_takeHome_22 : decode cX3_takeHome 22 = .ok (.iconst (-1), 1) := by decide +kernel
theorem dX3_takeHome_23 : decode cX3_takeHome 23 = .ok (.if_icmp .ne 11, 3) := by decide +kernel
theorem dX3_takeHome_26 : decode cX3_takeHome 26 = .ok (.aload_n 0, 1) := by decide +kernel
theorem dX3_takeHome_27 : decode cX3_takeHome 27 = .ok (.iconst 2, 1) := by decide +kernel
theorem dX3_takeHome_28 : decode cX3_takeHome 28 = .ok (.invokevirtual 90, 3) := by decide +kernel
theorem dX3_takeHome_31 : decode cX3_takeHome 31 = .ok (.goto 39, 3) := by decide +kernel
theorem dX3_takeHome_34 : decode cX3_takeHome 34 = .ok (.iload_n 2, 1) := by decide +kernel
theorem dX3_takeHome_35 : decode cX3_takeHome 35 = .ok (.aload_n 1, 1) := by decide +kernel
theorem dX3_takeHome_36 : decode cX3_takeHome 36 = .ok (.getfield 121, 3) := by decide +kernel
theorem dX3_takeHome_39 : decode cX3_takeHome 39 = .ok (.if_icmp .lt 11, 3) := by decide +kernel
theorem dX3_takeHome_42 : decode cX3_takeHome 42 = .ok (.aload_n 0, 1) := by decide +kernel
theorem dX3_takeHome_43 : decode cX3_takeHome 43 = .ok (.iconst 3, 1) := by decide +kernel
theorem dX3_takeHome_44 : decode cX3_takeHome 44 = .ok (.invokevirtual 90, 3) := by decide +kernel
theorem dX3_takeHome_47 : decode cX3_takeHome 47 = .ok (.goto 23, 3) := by decide +kernel
theorem dX3_takeHome_50 : decode cX3_takeHome 50 = .ok (.aload_n 1, 1) := by decide +kernel
theorem dX3_takeHome_51 : decode cX3_takeHome 51 = .ok (.iload_n 2, 1) := by decide +kernel
theorem dX3_takeHome_52 : decode cX3_takeHome 52 = .ok (.invokevirtual 154, 3) := by decide +kernel
theorem dX3_takeHome_55 : decode cX3_takeHome 55 = .ok (.ifCond .eq 11, 3) := by decide +kernel
theorem dX3_takeHome_58 : decode cX3_takeHome 58 = .ok (.aload_n 0, 1) := by decide +kernel
theorem dX3_takeHome_59 : decode cX3_takeHome 59 = .ok (.iconst 4, 1) := by decide +kernel
theorem dX3_takeHome_60 : decode cX3_takeHome 60 = .ok (.invokevirtual 90, 3) := by decide +kernel
theorem dX3_takeHome_63 : decode cX3_takeHome 63 = .ok (.goto 7, 3) := by decide +kernel
theorem dX3_takeHome_66 : decode cX3_takeHome 66 = .ok (.aload_n 0, 1) := by decide +kernel
theorem dX3_takeHome_67 : decode cX3_takeHome 67 = .ok (.invokevirtual 62, 3) := by decide +kernel
theorem dX3_takeHome_70 : decode cX3_takeHome 70 = .ok (.iload_n 2, 1) := by decide +kernel
theorem dX3_takeHome_71 : decode cX3_takeHome 71 = .ok (.ireturn, 1) := by decide +kernel
theorem dX3_dampLine_0 : decode cX3_dampLine 0 = .ok (.aload_n 1, 1) := by decide +kernel
theorem dX3_dampLine_1 : decode cX3_dampLine 1 = .ok (.getfield 158, 3) := by decide +kernel
theorem dX3_dampLine_4 : decode cX3_dampLine 4 = .ok (.ifCond .le 9, 3) := by decide +kernel
theorem dX3_dampLine_7 : decode cX3_dampLine 7 = .ok (.aload_n 0, 1) := by decide +kernel
theorem dX3_dampLine_8 : decode cX3_dampLine 8 = .ok (.iconst 5, 1) := by decide +kernel
theorem dX3_dampLine_9 : decode cX3_dampLine 9 = .ok (.invokevirtual 90, 3) := by decide +kernel
theorem dX3_dampLine_12 : decode cX3_dampLine 12 = .ok (.return_, 1) := by decide +kernel
theorem dX3_dampLine_13 : decode cX3_dampLine 13 = .ok (.aload_n 0, 1) := by decide +kernel
theorem dX3_dampLine_14 : decode cX3_dampLine 14 = .ok (.invokevirtual 62, 3) := by decide +kernel
theorem dX3_dampLine_17 : decode cX3_dampLine 17 = .ok (.aload_n 1, 1) := by decide +kernel
theorem dX3_dampLine_18 : decode cX3_dampLine 18 = .ok (.getfield 161, 3) := by decide +kernel
theorem dX3_dampLine_21 : decode cX3_dampLine 21 = .ok (.iconst 0, 1) := by decide +kernel
theorem dX3_dampLine_22 : decode cX3_dampLine 22 = .ok (.aload_n 0, 1) := by decide +kernel
theorem dX3_dampLine_23 : decode cX3_dampLine 23 = .ok (.iconst 0, 1) := by decide +kernel
theorem dX3_dampLine_24 : decode cX3_dampLine 24 = .ok (.bipush 9, 2) := by decide +kernel
theorem dX3_dampLine_26 : decode cX3_dampLine 26 = .ok (.invokevirtual 127, 3) := by decide +kernel
theorem dX3_dampLine_29 : decode cX3_dampLine 29 = .ok (.iastore, 1) := by decide +kernel
theorem dX3_dampLine_30 : decode cX3_dampLine 30 = .ok (.aload_n 1, 1) := by decide +kernel
theorem dX3_dampLine_31 : decode cX3_dampLine 31 = .ok (.iconst 1, 1) := by decide +kernel
theorem dX3_dampLine_32 : decode cX3_dampLine 32 = .ok (.putfield 158, 3) := by decide +kernel
theorem dX3_dampLine_35 : decode cX3_dampLine 35 = .ok (.iconst 1, 1) := by decide +kernel
theorem dX3_dampLine_36 : decode cX3_dampLine 36 = .ok (.istore_n 2, 1) := by decide +kernel
theorem dX3_dampLine_37 : decode cX3_dampLine 37 = .ok (.iload_n 2, 1) := by decide +kernel
theorem dX3_dampLine_38 : decode cX3_dampLine 38 = .ok (.bipush 8, 2) := by decide +kernel
theorem dX3_dampLine_40 : decode cX3_dampLine 40 = .ok (.if_icmp .ge 47, 3) := by decide +kernel
theorem dX3_dampLine_43 : decode cX3_dampLine 43 = .ok (.aload_n 0, 1) := by decide +kernel
theorem dX3_dampLine_44 : decode cX3_dampLine 44 = .ok (.getfield 22, 3) := by decide +kernel
theorem dX3_dampLine_47 : decode cX3_dampLine 47 = .ok (.ifCond .ne 40, 3) := by decide +kernel
theorem dX3_dampLine_50 : decode cX3_dampLine 50 = .ok (.aload_n 0, 1) := by decide +kernel
theorem dX3_dampLine_51 : decode cX3_dampLine 51 = .ok (.getfield 28, 3) := by decide +kernel
theorem dX3_dampLine_54 : decode cX3_dampLine 54 = .ok (.iconst 3, 1) := by decide +kernel
theorem dX3_dampLine_55 : decode cX3_dampLine 55 = .ok (.if_icmp .ne 32, 3) := by decide +kernel
theorem dX3_dampLine_58 : decode cX3_dampLine 58 = .ok (.aload_n 1, 1) := by decide +kernel
theorem dX3_dampLine_59 : decode cX3_dampLine 59 = .ok (.getfield 161, 3) := by decide +kernel
theorem dX3_dampLine_62 : decode cX3_dampLine 62 = .ok (.iload_n 2, 1) := by decide +kernel
theorem dX3_dampLine_63 : decode cX3_dampLine 63 = .ok (.aload_n 0, 1) := by decide +kernel
theorem dX3_dampLine_64 : decode cX3_dampLine 64 = .ok (.iconst 0, 1) := by decide +kernel
theorem dX3_dampLine_65 : decode cX3_dampLine 65 = .ok (.bipush 9, 2) := by decide +kernel
theorem dX3_dampLine_67 : decode cX3_dampLine 67 = .ok (.invokevirtual 127, 3) := by decide +kernel
theorem dX3_dampLine_70 : decode cX3_dampLine 70 = .ok (.iastore, 1) := by decide +kernel
theorem dX3_dampLine_71 : decode cX3_dampLine 71 = .ok (.aload_n 1, 1) := by decide +kernel
theorem dX3_dampLine_72 : decode cX3_dampLine 72 = .ok (.dup, 1) := by decide +kernel
theorem dX3_dampLine_73 : decode cX3_dampLine 73 = .ok (.getfield 158, 3) := by decide +kernel
theorem dX3_dampLine_76 : decode cX3_dampLine 76 = .ok (.iconst 1, 1) := by decide +kernel
theorem dX3_dampLine_77 : decode cX3_dampLine 77 = .ok (.iadd, 1) := by decide +kernel
theorem dX3_dampLine_78 : decode cX3_dampLine 78 = .ok (.putfield 158, 3) := by decide +kernel
theorem dX3_dampLine_81 : decode cX3_dampLine 81 = .ok (.iinc 2 1, 3) := by decide +kernel
theorem dX3_dampLine_84 : decode cX3_dampLine 84 = .ok (.goto (-47), 3) := by decide +kernel
theorem dX3_dampLine_87 : decode cX3_dampLine 87 = .ok (.aload_n 0, 1) := by decide +kernel
theorem dX3_dampLine_88 : decode cX3_dampLine 88 = .ok (.getfield 28, 3) := by decide +kernel
theorem dX3_dampLine_91 : decode cX3_dampLine 91 = .ok (.iconst 3, 1) := by decide +kernel
theorem dX3_dampLine_92 : decode cX3_dampLine 92 = .ok (.if_icmp .ne 8, 3) := by decide +kernel
theorem dX3_dampLine_95 : decode cX3_dampLine 95 = .ok (.aload_n 0, 1) := by decide +kernel
theorem dX3_dampLine_96 : decode cX3_dampLine 96 = .ok (.iconst 2, 1) := by decide +kernel
theorem dX3_dampLine_97 : decode cX3_dampLine 97 = .ok (.invokevirtual 90, 3) := by decide +kernel
theorem dX3_dampLine_100 : decode cX3_dampLine 100 = .ok (.return_, 1) := by decide +kernel
theorem dX3_ruleLine_0 : decode cX3_ruleLine 0 = .ok (.iload_n 2, 1) := by decide +kernel
theorem dX3_ruleLine_1 : decode cX3_ruleLine 1 = .ok (.ifCond .eq 10, 3) := by decide +kernel
theorem dX3_ruleLine_4 : decode cX3_ruleLine 4 = .ok (.aload_n 1, 1) := by decide +kernel
theorem dX3_ruleLine_5 : decode cX3_ruleLine 5 = .ok (.getfield 163, 3) := by decide +kernel
theorem dX3_ruleLine_8 : decode cX3_ruleLine 8 = .ok (.goto 7, 3) := by decide +kernel
theorem dX3_ruleLine_11 : decode cX3_ruleLine 11 = .ok (.aload_n 1, 1) := by decide +kernel
theorem dX3_ruleLine_12 : decode cX3_ruleLine 12 = .ok (.getfield 167, 3) := by decide +kernel
theorem dX3_ruleLine_15 : decode cX3_ruleLine 15 = .ok (.ifnull 9, 3) := by decide +kernel
theorem dX3_ruleLine_18 : decode cX3_ruleLine 18 = .ok (.aload_n 0, 1) := by decide +kernel
theorem dX3_ruleLine_19 : decode cX3_ruleLine 19 = .ok (.iconst 5, 1) := by decide +kernel
theorem dX3_ruleLine_20 : decode cX3_ruleLine 20 = .ok (.invokevirtual 90, 3) := by decide +kernel
theorem dX3_ruleLine_23 : decode cX3_ruleLine 23 = .ok (.return_, 1) := by decide +kernel
theorem dX3_ruleLine_24 : decode cX3_ruleLine 24 = .ok (.aload_n 0, 1) := by decide +kernel
theorem dX3_ruleLine_25 : decode cX3_ruleLine 25 = .ok (.invokevirtual 62, 3) := by decide +kernel
theorem dX3_ruleLine_28 : decode cX3_ruleLine 28 = .ok (.aload_n 0, 1) := by decide +kernel
theorem dX3_ruleLine_29 : decode cX3_ruleLine 29 = .ok (.iconst 0, 1) := by decide +kernel
theorem dX3_ruleLine_30 : decode cX3_ruleLine 30 = .ok (.putfield 44, 3) := by decide +kernel
theorem dX3_ruleLine_33 : decode cX3_ruleLine 33 = .ok (.aload_n 0, 1) := by decide +kernel
theorem dX3_ruleLine_34 : decode cX3_ruleLine 34 = .ok (.iload_n 2, 1) := by decide +kernel
theorem dX3_ruleLine_35 : decode cX3_ruleLine 35 = .ok (.putfield 47, 3) := by decide +kernel
theorem dX3_ruleLine_38 : decode cX3_ruleLine 38 = .ok (.aload_n 0, 1) := by decide +kernel
theorem dX3_ruleLine_39 : decode cX3_ruleLine 39 = .ok (.iconst 0, 1) := by decide +kernel
theorem dX3_ruleLine_40 : decode cX3_ruleLine 40 = .ok (.iconst 0, 1) := by decide +kernel
theorem dX3_ruleLine_41 : decode cX3_ruleLine 41 = .ok (.invokevirtual 170, 3) := by decide +kernel
theorem dX3_ruleLine_44 : decode cX3_ruleLine 44 = .ok (.new 174, 3) := by decide +kernel
theorem dX3_ruleLine_47 : decode cX3_ruleLine 47 = .ok (.dup, 1) := by decide +kernel
theorem dX3_ruleLine_48 : decode cX3_ruleLine 48 = .ok (.aload_n 0, 1) := by decide +kernel
theorem dX3_ruleLine_49 : decode cX3_ruleLine 49 = .ok (.getfield 40, 3) := by decide +kernel
theorem dX3_ruleLine_52 : decode cX3_ruleLine 52 = .ok (.aload_n 0, 1) := by decide +kernel
theorem dX3_ruleLine_53 : decode cX3_ruleLine 53 = .ok (.getfield 44, 3) := by decide +kernel
theorem dX3_ruleLine_56 : decode cX3_ruleLine 56 = .ok (.invokestatic 176, 3) := by decide +kernel
theorem dX3_ruleLine_59 : decode cX3_ruleLine 59 = .ok (.invokespecial 182, 3) := by decide +kernel
theorem dX3_ruleLine_62 : decode cX3_ruleLine 62 = .ok (.astore_n 3, 1) := by decide +kernel
theorem dX3_ruleLine_63 : decode cX3_ruleLine 63 = .ok (.iload_n 2, 1) := by decide +kernel
theorem dX3_ruleLine_64 : decode cX3_ruleLine 64 = .ok (.ifCond .eq 11, 3) := by decide +kernel
theorem dX3_ruleLine_67 : decode cX3_ruleLine 67 = .ok (.aload_n 1, 1) := by decide +kernel
theorem dX3_ruleLine_68 : decode cX3_ruleLine 68 = .ok (.aload_n 3, 1) := by decide +kernel
theorem dX3_ruleLine_69 : decode cX3_ruleLine 69 = .ok (.putfield 163, 3) := by decide +kernel
theorem dX3_ruleLine_72 : decode cX3_ruleLine 72 = .ok (.goto 8, 3) := by decide +kernel
theorem dX3_ruleLine_75 : decode cX3_ruleLine 75 = .ok (.aload_n 1, 1) := by decide +kernel
theorem dX3_ruleLine_76 : decode cX3_ruleLine 76 = .ok (.aload_n 3, 1) := by decide +kernel
theorem dX3_ruleLine_77 : decode cX3_ruleLine 77 = .ok (.putfield 167, 3) := by decide +kernel
theorem dX3_ruleLine_80 : decode cX3_ruleLine 80 = .ok (.return_, 1) := by decide +kernel
theorem dX3_emit_0 : decode cX3_emit 0 = .ok (.aload_n 0, 1) := by decide +kernel
theorem dX3_emit_1 : decode cX3_emit 1 = .ok (.getfield 44, 3) := by decide +kernel
theorem dX3_emit_4 : decode cX3_emit 4 = .ok (.aload_n 0, 1) := by decide +kernel
theorem dX3_emit_5 : decode cX3_emit 5 = .ok (.getfield 40, 3) := by decide +kernel
theorem dX3_emit_8 : decode cX3_emit 8 = .ok (.arraylength, 1) := by decide +kernel
theorem dX3_emit_9 : decode cX3_emit 9 = .ok (.if_icmp .ge 23, 3) := by decide +kernel
theorem dX3_emit_12 : decode cX3_emit 12 = .ok (.aload_n 0, 1) := by decide +kernel
theorem dX3_emit_13 : decode cX3_emit 13 = .ok (.getfield 40, 3) := by decide +kernel
theorem dX3_emit_16 : decode cX3_emit 16 = .ok (.aload_n 0, 1) := by decide +kernel
theorem dX3_emit_17 : decode cX3_emit 17 = .ok (.getfield 44, 3) := by decide +kernel
theorem dX3_emit_20 : decode cX3_emit 20 = .ok (.iload_n 1, 1) := by decide +kernel
theorem dX3_emit_21 : decode cX3_emit 21 = .ok (.iastore, 1) := by decide +kernel
theorem dX3_emit_22 : decode cX3_emit 22 = .ok (.aload_n 0, 1) := by decide +kernel
theorem dX3_emit_23 : decode cX3_emit 23 = .ok (.dup, 1) := by decide +kernel
theorem dX3_emit_24 : decode cX3_emit 24 = .ok (.getfield 44, 3) := by decide +kernel
theorem dX3_emit_27 : decode cX3_emit 27 = .ok (.iconst 1, 1) := by decide +kernel
theorem dX3_emit_28 : decode cX3_emit 28 = .ok (.iadd, 1) := by decide +kernel
theorem dX3_emit_29 : decode cX3_emit 29 = .ok (.putfield 44, 3) := by decide +kernel
theorem dX3_emit_32 : decode cX3_emit 32 = .ok (.return_, 1) := by decide +kernel
theorem dX3_takeJoined_0 : decode cX3_takeJoined 0 = .ok (.iload_n 1, 1) := by decide +kernel
theorem dX3_takeJoined_1 : decode cX3_takeJoined 1 = .ok (.iconst 5, 1) := by decide +kernel
theorem dX3_takeJoined_2 : decode cX3_takeJoined 2 = .ok (.if_icmp .le 38, 3) := by decide +kernel
theorem dX3_takeJoined_5 : decode cX3_takeJoined 5 = .ok (.aload_n 0, 1) := by decide +kernel
theorem dX3_takeJoined_6 : decode cX3_takeJoined 6 = .ok (.aload_n 0, 1) := by decide +kernel
theorem dX3_takeJoined_7 : decode cX3_takeJoined 7 = .ok (.getfield 28, 3) := by decide +kernel
theorem dX3_takeJoined_10 : decode cX3_takeJoined 10 = .ok (.iconst 3, 1) := by decide +kernel
theorem dX3_takeJoined_11 : decode cX3_takeJoined 11 = .ok (.if_icmp .eq 20, 3) := by decide +kernel
theorem dX3_takeJoined_14 : decode cX3_takeJoined 14 = .ok (.aload_n 0, 1) := by decide +kernel
theorem dX3_takeJoined_15 : decode cX3_takeJoined 15 = .ok (.getfield 28, 3) := by decide +kernel
theorem dX3_takeJoined_18 : decode cX3_takeJoined 18 = .ok (.iconst 2, 1) := by decide +kernel
theorem dX3_takeJoined_19 : decode cX3_takeJoined 19 = .ok (.if_icmp .eq 12, 3) := by decide +kernel
theorem dX3_takeJoined_22 : decode cX3_takeJoined 22 = .ok (.aload_n 0, 1) := by decide +kernel
theorem dX3_takeJoined_23 : decode cX3_takeJoined 23 = .ok (.bipush 40, 2) := by decide +kernel
theorem dX3_takeJoined_25 : decode cX3_takeJoined 25 = .ok (.invokevirtual 86, 3) := by decide +kernel
theorem dX3_takeJoined_28 : decode cX3_takeJoined 28 = .ok (.ifCond .eq 7, 3) := by decide +kernel
theorem dX3_takeJoined_31 : decode cX3_takeJoined 31 = .ok (.iconst 2, 1) := by decide +kernel
theorem dX3_takeJoined_32 : decode cX3_takeJoined 32 = .ok (.goto 4, 3) := by decide +kernel
theorem dX3_takeJoined_35 : decode cX3_takeJoined 35 = .ok (.iconst 1, 1) := by decide +kernel
theorem dX3_takeJoined_36 : decode cX3_takeJoined 36 = .ok (.invokevirtual 90, 3) := by decide +kernel
theorem dX3_takeJoined_39 : decode cX3_takeJoined 39 = .ok (.return_, 1) := by decide +kernel
theorem dX3_takeJoined_40 : decode cX3_takeJoined 40 = .ok (.iload_n 2, 1) := by decide +kernel
theorem dX3_takeJoined_41 : decode cX3_takeJoined 41 = .ok (.iconst 4, 1) := by decide +kernel
theorem dX3_takeJoined_42 : decode cX3_takeJoined 42 = .ok (.if_icmp .le 9, 3) := by decide +kernel
theorem dX3_takeJoined_45 : decode cX3_takeJoined 45 = .ok (.aload_n 0, 1) := by decide +kernel
theorem dX3_takeJoined_46 : decode cX3_takeJoined 46 = .ok (.iload_n 1, 1) := by decide +kernel
theorem dX3_takeJoined_47 : decode cX3_takeJoined 47 = .ok (.invokevirtual 185, 3) := by decide +kernel
theorem dX3_takeJoined_50 : decode cX3_takeJoined 50 = .ok (.return_, 1) := by decide +kernel
theorem dX3_takeJoined_51 : decode cX3_takeJoined 51 = .ok (.iload_n 2, 1) := by decide +kernel
theorem dX3_takeJoined_52 : decode cX3_takeJoined 52 = .ok (.iconst 2, 1) := by decide +kernel
theorem dX3_takeJoined_53 : decode cX3_takeJoined 53 = .ok (.if_icmp .ne 10, 3) := by decide +kernel
theorem dX3_takeJoined_56 : decode cX3_takeJoined 56 = .ok (.aload_n 0, 1) := by decide +kernel
theorem dX3_takeJoined_57 : decode cX3_takeJoined 57 = .ok (.invokevirtual 188, 3) := by decide +kernel
theorem dX3_takeJoined_60 : decode cX3_takeJoined 60 = .ok (.goto 4, 3) := by decide +kernel
theorem dX3_takeJoined_63 : decode cX3_takeJoined 63 = .ok (.iconst 0, 1) := by decide +kernel
theorem dX3_takeJoined_64 : decode cX3_takeJoined 64 = .ok (.istore_n 3, 1) := by decide +kernel
theorem dX3_takeJoined_65 : decode cX3_takeJoined 65 = .ok (.aload_n 0, 1) := by decide +kernel
theorem dX3_takeJoined_66 : decode cX3_takeJoined 66 = .ok (.iload_n 1, 1) := by decide +kernel
theorem dX3_takeJoined_67 : decode cX3_takeJoined 67 = .ok (.iload_n 2, 1) := by decide +kernel
theorem dX3_takeJoined_68 : decode cX3_takeJoined 68 = .ok (.iconst 1, 1) := by decide +kernel
theorem dX3_takeJoined_69 : decode cX3_takeJoined 69 = .ok (.iadd, 1) := by decide +kernel
theorem dX3_takeJoined_70 : decode cX3_takeJoined 70 = .ok (.invokevirtual 170, 3) := by decide +kernel
theorem dX3_takeJoined_73 : decode cX3_takeJoined 73 = .ok (.iload_n 2, 1) := by decide +kernel
theorem dX3_takeJoined_74 : decode cX3_takeJoined 74 = .ok (.iconst 2, 1) := by decide +kernel
theorem dX3_takeJoined_75 : decode cX3_takeJoined 75 = .ok (.if_icmp .ne 7, 3) := by decide +kernel
theorem dX3_takeJoined_78 : decode cX3_takeJoined 78 = .ok (.iconst 1, 1) := by decide +kernel
theorem dX3_takeJoined_79 : decode cX3_takeJoined 79 = .ok (.goto 6, 3) := by decide +kernel
theorem dX3_takeJoined_82 : decode cX3_takeJoined 82 = .ok (.sipush 700, 3) := by decide +kernel
theorem dX3_takeJoined_85 : decode cX3_takeJoined 85 = .ok (.istore 4, 2) := by decide +kernel
theorem dX3_takeJoined_87 : decode cX3_takeJoined 87 = .ok (.iconst 0, 1) := by decide +kernel
theorem dX3_takeJoined_88 : decode cX3_takeJoined 88 = .ok (.istore 5, 2) := by decide +kernel
theorem dX3_takeJoined_90 : decode cX3_takeJoined 90 = .ok (.iload 5, 2) := by decide +kernel
theorem dX3_takeJoined_92 : decode cX3_takeJoined 92 = .ok (.iload 4, 2) := by decide +kernel
theorem dX3_takeJoined_94 : decode cX3_takeJoined 94 = .ok (.if_icmp .ge 49, 3) := by decide +kernel
theorem dX3_takeJoined_97 : decode cX3_takeJoined 97 = .ok (.aload_n 0, 1) := by decide +kernel
theorem dX3_takeJoined_98 : decode cX3_takeJoined 98 = .ok (.getfield 22, 3) := by decide +kernel
theorem dX3_takeJoined_101 : decode cX3_takeJoined 101 = .ok (.ifCond .ne 42, 3) := by decide +kernel
theorem dX3_takeJoined_104 : decode cX3_takeJoined 104 = .ok (.aload_n 0, 1) := by decide +kernel
theorem dX3_takeJoined_105 : decode cX3_takeJoined 105 = .ok (.iload_n 2, 1) := by decide +kernel
theorem dX3_takeJoined_106 : decode cX3_takeJoined 106 = .ok (.invokevirtual 191, 3) := by decide +kernel
theorem dX3_takeJoined_109 : decode cX3_takeJoined 109 = .ok (.istore 6, 2) := by decide +kernel
theorem dX3_takeJoined_111 : decode cX3_takeJoined 111 = .ok (.iload 6, 2) := by decide +kernel
theorem dX3_takeJoined_113 : decode cX3_takeJoined 113 = .ok (.ifCond .ne 6, 3) := by decide +kernel
theorem dX3_takeJoined_116 : decode cX3_takeJoined 116 = .ok (.goto 27, 3) := by decide +kernel
theorem dX3_takeJoined_119 : decode cX3_takeJoined 119 = .ok (.aload_n 0, 1) := by decide +kernel
theorem dX3_takeJoined_120 : decode cX3_takeJoined 120 = .ok (.invokevirtual 62, 3) := by decide +kernel
theorem dX3_takeJoined_123 : decode cX3_takeJoined 123 = .ok (.aload_n 0, 1) := by decide +kernel
theorem dX3_takeJoined_124 : decode cX3_takeJoined 124 = .ok (.iload_n 1, 1) := by decide +kernel
theorem dX3_takeJoined_125 : decode cX3_takeJoined 125 = .ok (.iload_n 2, 1) := by decide +kernel
theorem dX3_takeJoined_126 : decode cX3_takeJoined 126 = .ok (.iconst 1, 1) := by decide +kernel
theorem dX3_takeJoined_127 : decode cX3_takeJoined 127 = .ok (.iadd, 1) := by decide +kernel
theorem dX3_takeJoined_128 : decode cX3_takeJoined 128 = .ok (.invokevirtual 170, 3) := by decide +kernel
theorem dX3_takeJoined_131 : decode cX3_takeJoined 131 = .ok (.aload_n 0, 1) := by decide +kernel
theorem dX3_takeJoined_132 : decode cX3_takeJoined 132 = .ok (.iload 6, 2) := by decide +kernel
theorem dX3_takeJoined_134 : decode cX3_takeJoined 134 = .ok (.invokevirtual 194, 3) := by decide +kernel
theorem dX3_takeJoined_137 : decode cX3_takeJoined 137 = .ok (.iinc 5 1, 3) := by decide +kernel
theorem dX3_takeJoined_140 : decode cX3_takeJoined 140 = .ok (.goto (-50), 3) := by decide +kernel
theorem dX3_takeJoined_143 : decode cX3_takeJoined 143 = .ok (.iconst 0, 1) := by decide +kernel
theorem dX3_takeJoined_144 : decode cX3_takeJoined 144 = .ok (.istore 5, 2) := by decide +kernel
theorem dX3_takeJoined_146 : decode cX3_takeJoined 146 = .ok (.iload 5, 2) := by decide +kernel
theorem dX3_takeJoined_148 : decode cX3_takeJoined 148 = .ok (.iload_n 3, 1) := by decide +kernel
theorem dX3_takeJoined_149 : decode cX3_takeJoined 149 = .ok (.if_icmp .ge 15, 3) := by decide +kernel
theorem dX3_takeJoined_152 : decode cX3_takeJoined 152 = .ok (.aload_n 0, 1) := by decide +kernel
theorem dX3_takeJoined_153 : decode cX3_takeJoined 153 = .ok (.bipush (-8), 2) := by decide +kernel
theorem dX3_takeJoined_155 : decode cX3_takeJoined 155 = .ok (.invokevirtual 194, 3) := by decide +kernel
theorem dX3_takeJoined_158 : decode cX3_takeJoined 158 = .ok (.iinc 5 1, 3) := by decide +kernel
theorem dX3_takeJoined_161 : decode cX3_takeJoined 161 = .ok (.goto (-15), 3) := by decide +kernel
theorem dX3_takeJoined_164 : decode cX3_takeJoined 164 = .ok (.return_, 1) := by decide +kernel
theorem dX3_joinAt_0 : decode cX3_joinAt 0 = .ok (.iload_n 1, 1) := by decide +kernel
theorem dX3_joinAt_1 : decode cX3_joinAt 1 = .ok (.tableswitch 123 0 3 #[31, 47, 63, 93], 31) := by decide +kernel
theorem dX3_joinAt_32 : decode cX3_joinAt 32 = .ok (.aload_n 0, 1) := by decide +kernel
theorem dX3_joinAt_33 : decode cX3_joinAt 33 = .ok (.ldc 197, 2) := by decide +kernel
theorem dX3_joinAt_35 : decode cX3_joinAt 35 = .ok (.invokevirtual 96, 3) := by decide +kernel
theorem dX3_joinAt_38 : decode cX3_joinAt 38 = .ok (.ifCond .eq 8, 3) := by decide +kernel
theorem dX3_joinAt_41 : decode cX3_joinAt 41 = .ok (.bipush (-10), 2) := by decide +kernel
theorem dX3_joinAt_43 : decode cX3_joinAt 43 = .ok (.goto 4, 3) := by decide +kernel
theorem dX3_joinAt_46 : decode cX3_joinAt 46 = .ok (.iconst 0, 1) := by decide +kernel
theorem dX3_joinAt_47 : decode cX3_joinAt 47 = .ok (.ireturn, 1) := by decide +kernel
theorem dX3_joinAt_48 : decode cX3_joinAt 48 = .ok (.aload_n 0, 1) := by decide +kernel
theorem dX3_joinAt_49 : decode cX3_joinAt 49 = .ok (.ldc 199, 2) := by decide +kernel
theorem dX3_joinAt_51 : decode cX3_joinAt 51 = .ok (.invokevirtual 96, 3) := by decide +kernel
theorem dX3_joinAt_54 : decode cX3_joinAt 54 = .ok (.ifCond .eq 8, 3) := by decide +kernel
theorem dX3_joinAt_57 : decode cX3_joinAt 57 = .ok (.bipush (-9), 2) := by decide +kernel
theorem dX3_joinAt_59 : decode cX3_joinAt 59 = .ok (.goto 4, 3) := by decide +kernel
theorem dX3_joinAt_62 : decode cX3_joinAt 62 = .ok (.iconst 0, 1) := by decide +kernel
theorem dX3_joinAt_63 : decode cX3_joinAt 63 = .ok (.ireturn, 1) := by decide +kernel
theorem dX3_joinAt_64 : decode cX3_joinAt 64 = .ok (.aload_n 0, 1) := by decide +kernel
theorem dX3_joinAt_65 : decode cX3_joinAt 65 = .ok (.bipush 60, 2) := by decide +kernel
theorem dX3_joinAt_67 : decode cX3_joinAt 67 = .ok (.invokevirtual 86, 3) := by decide +kernel
theorem dX3_joinAt_70 : decode cX3_joinAt 70 = .ok (.ifCond .eq 8, 3) := by decide +kernel
theorem dX3_joinAt_73 : decode cX3_joinAt 73 = .ok (.bipush (-15), 2) := by decide +kernel
theorem dX3_joinAt_75 : decode cX3_joinAt 75 = .ok (.goto 18, 3) := by decide +kernel
theorem dX3_joinAt_78 : decode cX3_joinAt 78 = .ok (.aload_n 0, 1) := by decide +kernel
theorem dX3_joinAt_79 : decode cX3_joinAt 79 = .ok (.bipush 61, 2) := by decide +kernel
theorem dX3_joinAt_81 : decode cX3_joinAt 81 = .ok (.invokevirtual 86, 3) := by decide +kernel
theorem dX3_joinAt_84 : decode cX3_joinAt 84 = .ok (.ifCond .eq 8, 3) := by decide +kernel
theorem dX3_joinAt_87 : decode cX3_joinAt 87 = .ok (.bipush (-16), 2) := by decide +kernel
theorem dX3_joinAt_89 : decode cX3_joinAt 89 = .ok (.goto 4, 3) := by decide +kernel
theorem dX3_joinAt_92 : decode cX3_joinAt 92 = .ok (.iconst 0, 1) := by decide +kernel
theorem dX3_joinAt_93 : decode cX3_joinAt 93 = .ok (.ireturn, 1) := by decide +kernel
theorem dX3_joinAt_94 : decode cX3_joinAt 94 = .ok (.aload_n 0, 1) := by decide +kernel
theorem dX3_joinAt_95 : decode cX3_joinAt 95 = .ok (.bipush 43, 2) := by decide +kernel
theorem dX3_joinAt_97 : decode cX3_joinAt 97 = .ok (.invokevirtual 86, 3) := by decide +kernel
theorem dX3_joinAt_100 : decode cX3_joinAt 100 = .ok (.ifCond .eq 8, 3) := by decide +kernel
theorem dX3_joinAt_103 : decode cX3_joinAt 103 = .ok (.bipush (-11), 2) := by decide +kernel
theorem dX3_joinAt_105 : decode cX3_joinAt 105 = .ok (.goto 18, 3) := by decide +kernel
theorem dX3_joinAt_108 : decode cX3_joinAt 108 = .ok (.aload_n 0, 1) := by decide +kernel
theorem dX3_joinAt_109 : decode cX3_joinAt 109 = .ok (.bipush 45, 2) := by decide +kernel
theorem dX3_joinAt_111 : decode cX3_joinAt 111 = .ok (.invokevirtual 86, 3) := by decide +kernel
theorem dX3_joinAt_114 : decode cX3_joinAt 114 = .ok (.ifCond .eq 8, 3) := by decide +kernel
theorem dX3_joinAt_117 : decode cX3_joinAt 117 = .ok (.bipush (-12), 2) := by decide +kernel
theorem dX3_joinAt_119 : decode cX3_joinAt 119 = .ok (.goto 4, 3) := by decide +kernel
theorem dX3_joinAt_122 : decode cX3_joinAt 122 = .ok (.iconst 0, 1) := by decide +kernel
theorem dX3_joinAt_123 : decode cX3_joinAt 123 = .ok (.ireturn, 1) := by decide +kernel
theorem dX3_joinAt_124 : decode cX3_joinAt 124 = .ok (.aload_n 0, 1) := by decide +kernel
theorem dX3_joinAt_125 : decode cX3_joinAt 125 = .ok (.bipush 42, 2) := by decide +kernel
theorem dX3_joinAt_127 : decode cX3_joinAt 127 = .ok (.invokevirtual 86, 3) := by decide +kernel
theorem dX3_joinAt_130 : decode cX3_joinAt 130 = .ok (.ifCond .eq 8, 3) := by decide +kernel
theorem dX3_joinAt_133 : decode cX3_joinAt 133 = .ok (.bipush (-13), 2) := by decide +kernel
theorem dX3_joinAt_135 : decode cX3_joinAt 135 = .ok (.goto 18, 3) := by decide +kernel
theorem dX3_joinAt_138 : decode cX3_joinAt 138 = .ok (.aload_n 0, 1) := by decide +kernel
theorem dX3_joinAt_139 : decode cX3_joinAt 139 = .ok (.bipush 47, 2) := by decide +kernel
theorem dX3_joinAt_141 : decode cX3_joinAt 141 = .ok (.invokevirtual 86, 3) := by decide +kernel
theorem dX3_joinAt_144 : decode cX3_joinAt 144 = .ok (.ifCond .eq 8, 3) := by decide +kernel
theorem dX3_joinAt_147 : decode cX3_joinAt 147 = .ok (.bipush (-14), 2) := by decide +kernel
theorem dX3_joinAt_149 : decode cX3_joinAt 149 = .ok (.goto 4, 3) := by decide +kernel
theorem dX3_joinAt_152 : decode cX3_joinAt 152 = .ok (.iconst 0, 1) := by decide +kernel
theorem dX3_joinAt_153 : decode cX3_joinAt 153 = .ok (.ireturn, 1) := by decide +kernel
theorem dX3_takeNots_0 : decode cX3_takeNots 0 = .ok (.iconst 0, 1) := by decide +kernel
theorem dX3_takeNots_1 : decode cX3_takeNots 1 = .ok (.istore_n 1, 1) := by decide +kernel
theorem dX3_takeNots_2 : decode cX3_takeNots 2 = .ok (.iload_n 1, 1) := by decide +kernel
theorem dX3_takeNots_3 : decode cX3_takeNots 3 = .ok (.bipush 6, 2) := by decide +kernel
theorem dX3_takeNots_5 : decode cX3_takeNots 5 = .ok (.if_icmp .ge 22, 3) := by decide +kernel
theorem dX3_takeNots_8 : decode cX3_takeNots 8 = .ok (.aload_n 0, 1) := by decide +kernel
theorem dX3_takeNots_9 : decode cX3_takeNots 9 = .ok (.ldc 201, 2) := by decide +kernel
theorem dX3_takeNots_11 : decode cX3_takeNots 11 = .ok (.invokevirtual 96, 3) := by decide +kernel
theorem dX3_takeNots_14 : decode cX3_takeNots 14 = .ok (.ifCond .eq 13, 3) := by decide +kernel
theorem dX3_takeNots_17 : decode cX3_takeNots 17 = .ok (.iinc 1 1, 3) := by decide +kernel
theorem dX3_takeNots_20 : decode cX3_takeNots 20 = .ok (.aload_n 0, 1) := by decide +kernel
theorem dX3_takeNots_21 : decode cX3_takeNots 21 = .ok (.invokevirtual 62, 3) := by decide +kernel
theorem dX3_takeNots_24 : decode cX3_takeNots 24 = .ok (.goto (-22), 3) := by decide +kernel
theorem dX3_takeNots_27 : decode cX3_takeNots 27 = .ok (.iload_n 1, 1) := by decide +kernel
theorem dX3_takeNots_28 : decode cX3_takeNots 28 = .ok (.bipush 6, 2) := by decide +kernel
theorem dX3_takeNots_30 : decode cX3_takeNots 30 = .ok (.if_icmp .ne 17, 3) := by decide +kernel
theorem dX3_takeNots_33 : decode cX3_takeNots 33 = .ok (.aload_n 0, 1) := by decide +kernel
theorem dX3_takeNots_34 : decode cX3_takeNots 34 = .ok (.ldc 201, 2) := by decide +kernel
theorem dX3_takeNots_36 : decode cX3_takeNots 36 = .ok (.invokevirtual 96, 3) := by decide +kernel
theorem dX3_takeNots_39 : decode cX3_takeNots 39 = .ok (.ifCond .eq 8, 3) := by decide +kernel
theorem dX3_takeNots_42 : decode cX3_takeNots 42 = .ok (.aload_n 0, 1) := by decide +kernel
theorem dX3_takeNots_43 : decode cX3_takeNots 43 = .ok (.iconst 2, 1) := by decide +kernel
theorem dX3_takeNots_44 : decode cX3_takeNots 44 = .ok (.invokevirtual 90, 3) := by decide +kernel
theorem dX3_takeNots_47 : decode cX3_takeNots 47 = .ok (.iload_n 1, 1) := by decide +kernel
theorem dX3_takeNots_48 : decode cX3_takeNots 48 = .ok (.ireturn, 1) := by decide +kernel
theorem dX3_takePart_0 : decode cX3_takePart 0 = .ok (.aload_n 0, 1) := by decide +kernel
theorem dX3_takePart_1 : decode cX3_takePart 1 = .ok (.getfield 28, 3) := by decide +kernel
theorem dX3_takePart_4 : decode cX3_takePart 4 = .ok (.iconst 2, 1) := by decide +kernel
theorem dX3_takePart_5 : decode cX3_takePart 5 = .ok (.if_icmp .ne 10, 3) := by decide +kernel
theorem dX3_takePart_8 : decode cX3_takePart 8 = .ok (.aload_n 0, 1) := by decide +kernel
theorem dX3_takePart_9 : decode cX3_takePart 9 = .ok (.invokevirtual 203, 3) := by decide +kernel
theorem dX3_takePart_12 : decode cX3_takePart 12 = .ok (.goto 4, 3) := by decide +kernel
theorem dX3_takePart_15 : decode cX3_takePart 15 = .ok (.iconst (-1), 1) := by decide +kernel
theorem dX3_takePart_16 : decode cX3_takePart 16 = .ok (.istore_n 2, 1) := by decide +kernel
theorem dX3_takePart_17 : decode cX3_takePart 17 = .ok (.iload_n 2, 1) := by decide +kernel
theorem dX3_takePart_18 : decode cX3_takePart 18 = .ok (.iconst (-1), 1) := by decide +kernel
theorem dX3_takePart_19 : decode cX3_takePart 19 = .ok (.if_icmp .eq 17, 3) := by decide +kernel
theorem dX3_takePart_22 : decode cX3_takePart 22 = .ok (.aload_n 0, 1) := by decide +kernel
theorem dX3_takePart_23 : decode cX3_takePart 23 = .ok (.iconst (-1), 1) := by decide +kernel
theorem dX3_takePart_24 : decode cX3_takePart 24 = .ok (.iload_n 2, 1) := by decide +kernel
theorem dX3_takePart_25 : decode cX3_takePart 25 = .ok (.isub, 1) := by decide +kernel
theorem dX3_takePart_26 : decode cX3_takePart 26 = .ok (.invokevirtual 194, 3) := by decide +kernel
theorem dX3_takePart_29 : decode cX3_takePart 29 = .ok (.aload_n 0, 1) := by decide +kernel
theorem dX3_takePart_30 : decode cX3_takePart 30 = .ok (.invokevirtual 62, 3) := by decide +kernel
theorem dX3_takePart_33 : decode cX3_takePart 33 = .ok (.goto 123, 3) := by decide +kernel
theorem dX3_takePart_36 : decode cX3_takePart 36 = .ok (.aload_n 0, 1) := by decide +kernel
theorem dX3_takePart_37 : decode cX3_takePart 37 = .ok (.getfield 28, 3) := by decide +kernel
theorem dX3_takePart_40 : decode cX3_takePart 40 = .ok (.iconst 2, 1) := by decide +kernel
theorem dX3_takePart_41 : decode cX3_takePart 41 = .ok (.if_icmp .ne 11, 3) := by decide +kernel
theorem dX3_takePart_44 : decode cX3_takePart 44 = .ok (.aload_n 0, 1) := by decide +kernel
theorem dX3_takePart_45 : decode cX3_takePart 45 = .ok (.iconst 3, 1) := by decide +kernel
theorem dX3_takePart_46 : decode cX3_takePart 46 = .ok (.invokevirtual 90, 3) := by decide +kernel
theorem dX3_takePart_49 : decode cX3_takePart 49 = .ok (.goto 107, 3) := by decide +kernel
theorem dX3_takePart_52 : decode cX3_takePart 52 = .ok (.aload_n 0, 1) := by decide +kernel
theorem dX3_takePart_53 : decode cX3_takePart 53 = .ok (.getfield 28, 3) := by decide +kernel
theorem dX3_takePart_56 : decode cX3_takePart 56 = .ok (.iconst 3, 1) := by decide +kernel
theorem dX3_takePart_57 : decode cX3_takePart 57 = .ok (.if_icmp .ne 19, 3) := by decide +kernel
theorem dX3_takePart_60 : decode cX3_takePart 60 = .ok (.aload_n 0, 1) := by decide +kernel
theorem dX3_takePart_61 : decode cX3_takePart 61 = .ok (.getfield 37, 3) := by decide +kernel
theorem dX3_takePart_64 : decode cX3_takePart 64 = .ok (.iconst (-1), 1) := by decide +kernel
theorem dX3_takePart_65 : decode cX3_takePart 65 = .ok (.if_icmp .ne 11, 3) := by decide +kernel
theorem dX3_takePart_68 : decode cX3_takePart 68 = .ok (.aload_n 0, 1) := by decide +kernel
theorem dX3_takePart_69 : decode cX3_takePart 69 = .ok (.iconst 2, 1) := by decide +kernel
theorem dX3_takePart_70 : decode cX3_takePart 70 = .ok (.invokevirtual 90, 3) := by decide +kernel
theorem dX3_takePart_73 : decode cX3_takePart 73 = .ok (.goto 83, 3) := by decide +kernel
theorem dX3_takePart_76 : decode cX3_takePart 76 = .ok (.aload_n 0, 1) := by decide +kernel
theorem dX3_takePart_77 : decode cX3_takePart 77 = .ok (.getfield 28, 3) := by decide +kernel
theorem dX3_takePart_80 : decode cX3_takePart 80 = .ok (.iconst 3, 1) := by decide +kernel
theorem dX3_takePart_81 : decode cX3_takePart 81 = .ok (.if_icmp .ne 18, 3) := by decide +kernel
theorem dX3_takePart_84 : decode cX3_takePart 84 = .ok (.aload_n 0, 1) := by decide +kernel
theorem dX3_takePart_85 : decode cX3_takePart 85 = .ok (.aload_n 0, 1) := by decide +kernel
theorem dX3_takePart_86 : decode cX3_takePart 86 = .ok (.getfield 37, 3) := by decide +kernel
theorem dX3_takePart_89 : decode cX3_takePart 89 = .ok (.invokevirtual 194, 3) := by decide +kernel
theorem dX3_takePart_92 : decode cX3_takePart 92 = .ok (.aload_n 0, 1) := by decide +kernel
theorem dX3_takePart_93 : decode cX3_takePart 93 = .ok (.invokevirtual 62, 3) := by decide +kernel
theorem dX3_takePart_96 : decode cX3_takePart 96 = .ok (.goto 60, 3) := by decide +kernel
theorem dX3_takePart_99 : decode cX3_takePart 99 = .ok (.aload_n 0, 1) := by decide +kernel
theorem dX3_takePart_100 : decode cX3_takePart 100 = .ok (.bipush 40, 2) := by decide +kernel
theorem dX3_takePart_102 : decode cX3_takePart 102 = .ok (.invokevirtual 86, 3) := by decide +kernel
theorem dX3_takePart_105 : decode cX3_takePart 105 = .ok (.ifCond .eq 46, 3) := by decide +kernel
theorem dX3_takePart_108 : decode cX3_takePart 108 = .ok (.aload_n 0, 1) := by decide +kernel
theorem dX3_takePart_109 : decode cX3_takePart 109 = .ok (.invokevirtual 62, 3) := by decide +kernel
theorem dX3_takePart_112 : decode cX3_takePart 112 = .ok (.aload_n 0, 1) := by decide +kernel
theorem dX3_takePart_113 : decode cX3_takePart 113 = .ok (.iload_n 1, 1) := by decide +kernel
theorem dX3_takePart_114 : decode cX3_takePart 114 = .ok (.iconst 1, 1) := by decide +kernel
theorem dX3_takePart_115 : decode cX3_takePart 115 = .ok (.iadd, 1) := by decide +kernel
theorem dX3_takePart_116 : decode cX3_takePart 116 = .ok (.iconst 0, 1) := by decide +kernel
theorem dX3_takePart_117 : decode cX3_takePart 117 = .ok (.invokevirtual 170, 3) := by decide +kernel
theorem dX3_takePart_120 : decode cX3_takePart 120 = .ok (.aload_n 0, 1) := by decide +kernel
theorem dX3_takePart_121 : decode cX3_takePart 121 = .ok (.getfield 22, 3) := by decide +kernel
theorem dX3_takePart_124 : decode cX3_takePart 124 = .ok (.ifCond .ne 19, 3) := by decide +kernel
theorem dX3_takePart_127 : decode cX3_takePart 127 = .ok (.aload_n 0, 1) := by decide +kernel
theorem dX3_takePart_128 : decode cX3_takePart 128 = .ok (.bipush 41, 2) := by decide +kernel
theorem dX3_takePart_130 : decode cX3_takePart 130 = .ok (.invokevirtual 86, 3) := by decide +kernel
theorem dX3_takePart_133 : decode cX3_takePart 133 = .ok (.ifCond .eq 10, 3) := by decide +kernel
theorem dX3_takePart_136 : decode cX3_takePart 136 = .ok (.aload_n 0, 1) := by decide +kernel
theorem dX3_takePart_137 : decode cX3_takePart 137 = .ok (.invokevirtual 62, 3) := by decide +kernel
theorem dX3_takePart_140 : decode cX3_takePart 140 = .ok (.goto 16, 3) := by decide +kernel
theorem dX3_takePart_143 : decode cX3_takePart 143 = .ok (.aload_n 0, 1) := by decide +kernel
theorem dX3_takePart_144 : decode cX3_takePart 144 = .ok (.iconst 1, 1) := by decide +kernel
theorem dX3_takePart_145 : decode cX3_takePart 145 = .ok (.invokevirtual 90, 3) := by decide +kernel
theorem dX3_takePart_148 : decode cX3_takePart 148 = .ok (.goto 8, 3) := by decide +kernel
theorem dX3_takePart_151 : decode cX3_takePart 151 = .ok (.aload_n 0, 1) := by decide +kernel
theorem dX3_takePart_152 : decode cX3_takePart 152 = .ok (.iconst 1, 1) := by decide +kernel
theorem dX3_takePart_153 : decode cX3_takePart 153 = .ok (.invokevirtual 90, 3) := by decide +kernel
theorem dX3_takePart_156 : decode cX3_takePart 156 = .ok (.return_, 1) := by decide +kernel
theorem dX3_factHere_0 : decode cX3_factHere 0 = .ok (.aload_n 0, 1) := by decide +kernel
theorem dX3_factHere_1 : decode cX3_factHere 1 = .ok (.ldc 206, 2) := by decide +kernel
theorem dX3_factHere_3 : decode cX3_factHere 3 = .ok (.invokevirtual 96, 3) := by decide +kernel
theorem dX3_factHere_6 : decode cX3_factHere 6 = .ok (.ifCond .eq 5, 3) := by decide +kernel
theorem dX3_factHere_9 : decode cX3_factHere 9 = .ok (.iconst 0, 1) := by decide +kernel
theorem dX3_factHere_10 : decode cX3_factHere 10 = .ok (.ireturn, 1) := by decide +kernel
theorem dX3_factHere_11 : decode cX3_factHere 11 = .ok (.aload_n 0, 1) := by decide +kernel
theorem dX3_factHere_12 : decode cX3_factHere 12 = .ok (.ldc 207, 2) := by decide +kernel
theorem dX3_factHere_14 : decode cX3_factHere 14 = .ok (.invokevirtual 96, 3) := by decide +kernel
theorem dX3_factHere_17 : decode cX3_factHere 17 = .ok (.ifCond .eq 5, 3) := by decide +kernel
theorem dX3_factHere_20 : decode cX3_factHere 20 = .ok (.iconst 1, 1) := by decide +kernel
theorem dX3_factHere_21 : decode cX3_factHere 21 = .ok (.ireturn, 1) := by decide +kernel
theorem dX3_factHere_22 : decode cX3_factHere 22 = .ok (.aload_n 0, 1) := by decide +kernel
theorem dX3_factHere_23 : decode cX3_factHere 23 = .ok (.ldc 208, 2) := by decide +kernel
theorem dX3_factHere_25 : decode cX3_factHere 25 = .ok (.invokevirtual 96, 3) := by decide +kernel
theorem dX3_factHere_28 : decode cX3_factHere 28 = .ok (.ifCond .eq 5, 3) := by decide +kernel
theorem dX3_factHere_31 : decode cX3_factHere 31 = .ok (.iconst 2, 1) := by decide +kernel
theorem dX3_factHere_32 : decode cX3_factHere 32 = .ok (.ireturn, 1) := by decide +kernel
theorem dX3_factHere_33 : decode cX3_factHere 33 = .ok (.aload_n 0, 1) := by decide +kernel
theorem dX3_factHere_34 : decode cX3_factHere 34 = .ok (.ldc 209, 2) := by decide +kernel
theorem dX3_factHere_36 : decode cX3_factHere 36 = .ok (.invokevirtual 96, 3) := by decide +kernel
theorem dX3_factHere_39 : decode cX3_factHere 39 = .ok (.ifCond .eq 5, 3) := by decide +kernel
theorem dX3_factHere_42 : decode cX3_factHere 42 = .ok (.iconst 3, 1) := by decide +kernel
theorem dX3_factHere_43 : decode cX3_factHere 43 = .ok (.ireturn, 1) := by decide +kernel
theorem dX3_factHere_44 : decode cX3_factHere 44 = .ok (.aload_n 0, 1) := by decide +kernel
theorem dX3_factHere_45 : decode cX3_factHere 45 = .ok (.ldc 108, 2) := by decide +kernel
theorem dX3_factHere_47 : decode cX3_factHere 47 = .ok (.invokevirtual 96, 3) := by decide +kernel
theorem dX3_factHere_50 : decode cX3_factHere 50 = .ok (.ifCond .eq 5, 3) := by decide +kernel
theorem dX3_factHere_53 : decode cX3_factHere 53 = .ok (.iconst 4, 1) := by decide +kernel
theorem dX3_factHere_54 : decode cX3_factHere 54 = .ok (.ireturn, 1) := by decide +kernel
theorem dX3_factHere_55 : decode cX3_factHere 55 = .ok (.aload_n 0, 1) := by decide +kernel
theorem dX3_factHere_56 : decode cX3_factHere 56 = .ok (.ldc 211, 2) := by decide +kernel
theorem dX3_factHere_58 : decode cX3_factHere 58 = .ok (.invokevirtual 96, 3) := by decide +kernel
theorem dX3_factHere_61 : decode cX3_factHere 61 = .ok (.ifCond .eq 5, 3) := by decide +kernel
theorem dX3_factHere_64 : decode cX3_factHere 64 = .ok (.iconst 5, 1) := by decide +kernel
theorem dX3_factHere_65 : decode cX3_factHere 65 = .ok (.ireturn, 1) := by decide +kernel
theorem dX3_factHere_66 : decode cX3_factHere 66 = .ok (.aload_n 0, 1) := by decide +kernel
theorem dX3_factHere_67 : decode cX3_factHere 67 = .ok (.getfield 47, 3) := by decide +kernel
theorem dX3_factHere_70 : decode cX3_factHere 70 = .ok (.ifCond .eq 17, 3) := by decide +kernel
theorem dX3_factHere_73 : decode cX3_factHere 73 = .ok (.aload_n 0, 1) := by decide +kernel
theorem dX3_factHere_74 : decode cX3_factHere 74 = .ok (.ldc 213, 2) := by decide +kernel
theorem dX3_factHere_76 : decode cX3_factHere 76 = .ok (.invokevirtual 96, 3) := by decide +kernel
theorem dX3_factHere_79 : decode cX3_factHere 79 = .ok (.ifCond .eq 8, 3) := by decide +kernel
theorem dX3_factHere_82 : decode cX3_factHere 82 = .ok (.bipush 6, 2) := by decide +kernel
theorem dX3_factHere_84 : decode cX3_factHere 84 = .ok (.goto 4, 3) := by decide +kernel
theorem dX3_factHere_87 : decode cX3_factHere 87 = .ok (.iconst (-1), 1) := by decide +kernel
theorem dX3_factHere_88 : decode cX3_factHere 88 = .ok (.ireturn, 1) := by decide +kernel
theorem dX4_init_0 : decode cX4_init 0 = .ok (.aload_n 0, 1) := by decide +kernel
theorem dX4_init_1 : decode cX4_init 1 = .ok (.invokespecial 1, 3) := by decide +kernel
theorem dX4_init_4 : decode cX4_init 4 = .ok (.aload_n 0, 1) := by decide +kernel
theorem dX4_init_5 : decode cX4_init 5 = .ok (.aload_n 1, 1) := by decide +kernel
theorem dX4_init_6 : decode cX4_init 6 = .ok (.putfield 7, 3) := by decide +kernel
theorem dX4_init_9 : decode cX4_init 9 = .ok (.return_, 1) := by decide +kernel
theorem dX4_value_0 : decode cX4_value 0 = .ok (.iconst 0, 1) := by decide +kernel
theorem dX4_value_1 : decode cX4_value 1 = .ok (.istore_n 3, 1) := by decide +kernel
theorem dX4_value_2 : decode cX4_value 2 = .ok (.iconst 0, 1) := by decide +kernel
theorem dX4_value_3 : decode cX4_value 3 = .ok (.istore 4, 2) := by decide +kernel
theorem dX4_value_5 : decode cX4_value 5 = .ok (.iload 4, 2) := by decide +kernel
theorem dX4_value_7 : decode cX4_value 7 = .ok (.aload_n 0, 1) := by decide +kernel
theorem dX4_value_8 : decode cX4_value 8 = .ok (.getfield 7, 3) := by decide +kernel
theorem dX4_value_11 : decode cX4_value 11 = .ok (.arraylength, 1) := by decide +kernel
theorem dX4_value_12 : decode cX4_value 12 = .ok (.if_icmp .ge 114, 3) := by decide +kernel
theorem dX4_value_15 : decode cX4_value 15 = .ok (.aload_n 0, 1) := by decide +kernel
theorem dX4_value_16 : decode cX4_value 16 = .ok (.getfield 7, 3) := by decide +kernel
theorem dX4_value_19 : decode cX4_value 19 = .ok (.iload 4, 2) := by decide +kernel
theorem dX4_value_21 : decode cX4_value 21 = .ok (.iaload, 1) := by decide +kernel
theorem dX4_value_22 : decode cX4_value 22 = .ok (.istore 5, 2) := by decide +kernel
theorem dX4_value_24 : decode cX4_value 24 = .ok (.iload 5, 2) := by decide +kernel
theorem dX4_value_26 : decode cX4_value 26 = .ok (.bipush (-7), 2) := by decide +kernel
theorem dX4_value_28 : decode cX4_value 28 = .ok (.if_icmp .lt 34, 3) := by decide +kernel
theorem dX4_value_31 : decode cX4_value 31 = .ok (.iload_n 3, 1) := by decide +kernel
theorem dX4_value_32 : decode cX4_value 32 = .ok (.aload_n 2, 1) := by decide +kernel
theorem dX4_value_33 : decode cX4_value 33 = .ok (.arraylength, 1) := by decide +kernel
theorem dX4_value_34 : decode cX4_value 34 = .ok (.if_icmp .ge 86, 3) := by decide +kernel
theorem dX4_value_37 : decode cX4_value 37 = .ok (.aload_n 2, 1) := by decide +kernel
theorem dX4_value_38 : decode cX4_value 38 = .ok (.iload_n 3, 1) := by decide +kernel
theorem dX4_value_39 : decode cX4_value 39 = .ok (.iload 5, 2) := by decide +kernel
theorem dX4_value_41 : decode cX4_value 41 = .ok (.ifCond .lt 8, 3) := by decide +kernel
theorem dX4_value_44 : decode cX4_value 44 = .ok (.iload 5, 2) := by decide +kernel
theorem dX4_value_46 : decode cX4_value 46 = .ok (.goto 9, 3) := by decide +kernel
theorem dX4_value_49 : decode cX4_value 49 = .ok (.aload_n 1, 1) := by decide +kernel
theorem dX4_value_50 : decode cX4_value 50 = .ok (.iconst (-1), 1) := by decide +kernel
theorem dX4_value_51 : decode cX4_value 51 = .ok (.iload 5, 2) := by decide +kernel
theorem dX4_value_53 : decode cX4_value 53 = .ok (.isub, 1) := by decide +kernel
theorem dX4_value_54 : decode cX4_value 54 = .ok (.iaload, 1) := by decide +kernel
theorem dX4_value_55 : decode cX4_value 55 = .ok (.iastore, 1) := by decide +kernel
theorem dX4_value_56 : decode cX4_value 56 = .ok (.iinc 3 1, 3) := by decide +kernel
theorem dX4_value_59 : decode cX4_value 59 = .ok (.goto 61, 3) := by decide +kernel
theorem dX4_value_62 : decode cX4_value 62 = .ok (.iload 5, 2) := by decide +kernel
theorem dX4_value_64 : decode cX4_value 64 = .ok (.bipush (-8), 2) := by decide +kernel
theorem dX4_value_66 : decode cX4_value 66 = .ok (.if_icmp .ne 28, 3) := by decide +kernel
theorem dX4_value_69 : decode cX4_value 69 = .ok (.iload_n 3, 1) := by decide +kernel
theorem dX4_value_70 : decode cX4_value 70 = .ok (.ifCond .le 50, 3) := by decide +kernel
theorem dX4_value_73 : decode cX4_value 73 = .ok (.aload_n 2, 1) := by decide +kernel
theorem dX4_value_74 : decode cX4_value 74 = .ok (.iload_n 3, 1) := by decide +kernel
theorem dX4_value_75 : decode cX4_value 75 = .ok (.iconst 1, 1) := by decide +kernel
theorem dX4_value_76 : decode cX4_value 76 = .ok (.isub, 1) := by decide +kernel
theorem dX4_value_77 : decode cX4_value 77 = .ok (.aload_n 2, 1) := by decide +kernel
theorem dX4_value_78 : decode cX4_value 78 = .ok (.iload_n 3, 1) := by decide +kernel
theorem dX4_value_79 : decode cX4_value 79 = .ok (.iconst 1, 1) := by decide +kernel
theorem dX4_value_80 : decode cX4_value 80 = .ok (.isub, 1) := by decide +kernel
theorem dX4_value_81 : decode cX4_value 81 = .ok (.iaload, 1) := by decide +kernel
theorem dX4_value_82 : decode cX4_value 82 = .ok (.ifCond .ne 7, 3) := by decide +kernel
theorem dX4_value_85 : decode cX4_value 85 = .ok (.iconst 1, 1) := by decide +kernel
theorem dX4_value_86 : decode cX4_value 86 = .ok (.goto 4, 3) := by decide +kernel
theorem dX4_value_89 : decode cX4_value 89 = .ok (.iconst 0, 1) := by decide +kernel
theorem dX4_value_90 : decode cX4_value 90 = .ok (.iastore, 1) := by decide +kernel
theorem dX4_value_91 : decode cX4_value 91 = .ok (.goto 29, 3) := by decide +kernel
theorem dX4_value_94 : decode cX4_value 94 = .ok (.iload_n 3, 1) := by decide +kernel
theorem dX4_value_95 : decode cX4_value 95 = .ok (.iconst 1, 1) := by decide +kernel
theorem dX4_value_96 : decode cX4_value 96 = .ok (.if_icmp .le 24, 3) := by decide +kernel
theorem dX4_value_99 : decode cX4_value 99 = .ok (.iinc 3 (-1), 3) := by decide +kernel
theorem dX4_value_102 : decode cX4_value 102 = .ok (.aload_n 2, 1) := by decide +kernel
theorem dX4_value_103 : decode cX4_value 103 = .ok (.iload_n 3, 1) := by decide +kernel
theorem dX4_value_104 : decode cX4_value 104 = .ok (.iconst 1, 1) := by decide +kernel
theorem dX4_value_105 : decode cX4_value 105 = .ok (.isub, 1) := by decide +kernel
theorem dX4_value_106 : decode cX4_value 106 = .ok (.iload 5, 2) := by decide +kernel
theorem dX4_value_108 : decode cX4_value 108 = .ok (.aload_n 2, 1) := by decide +kernel
theorem dX4_value_109 : decode cX4_value 109 = .ok (.iload_n 3, 1) := by decide +kernel
theorem dX4_value_110 : decode cX4_value 110 = .ok (.iconst 1, 1) := by decide +kernel
theorem dX4_value_111 : decode cX4_value 111 = .ok (.isub, 1) := by decide +kernel
theorem dX4_value_112 : decode cX4_value 112 = .ok (.iaload, 1) := by decide +kernel
theorem dX4_value_113 : decode cX4_value 113 = .ok (.aload_n 2, 1) := by decide +kernel
theorem dX4_value_114 : decode cX4_value 114 = .ok (.iload_n 3, 1) := by decide +kernel
theorem dX4_value_115 : decode cX4_value 115 = .ok (.iaload, 1) := by decide +kernel
theorem dX4_value_116 : decode cX4_value 116 = .ok (.invokestatic 13, 3) := by decide +kernel
theorem dX4_value_119 : decode cX4_value 119 = .ok (.iastore, 1) := by decide +kernel
theorem dX4_value_120 : decode cX4_value 120 = .ok (.iinc 4 1, 3) := by decide +kernel
theorem dX4_value_123 : decode cX4_value 123 = .ok (.goto (-118), 3) := by decide +kernel
theorem dX4_value_126 : decode cX4_value 126 = .ok (.aload_n 2, 1) := by decide +kernel
theorem dX4_value_127 : decode cX4_value 127 = .ok (.iconst 0, 1) := by decide +kernel
theorem dX4_value_128 : decode cX4_value 128 = .ok (.iaload, 1) := by decide +kernel
theorem dX4_value_129 : decode cX4_value 129 = .ok (.ireturn, 1) := by decide +kernel
theorem dX4_join_0 : decode cX4_join 0 = .ok (.iload_n 0, 1) := by decide +kernel
theorem dX4_join_1 : decode cX4_join 1 = .ok (.tableswitch 106 (-15) (-9) #[95, 83, 79, 75, 71, 57, 43], 43) := by decide +kernel
theorem dX4_join_44 : decode cX4_join 44 = .ok (.iload_n 1, 1) := by decide +kernel
theorem dX4_join_45 : decode cX4_join 45 = .ok (.ifCond .eq 11, 3) := by decide +kernel
theorem dX4_join_48 : decode cX4_join 48 = .ok (.iload_n 2, 1) := by decide +kernel
theorem dX4_join_49 : decode cX4_join 49 = .ok (.ifCond .eq 7, 3) := by decide +kernel
theorem dX4_join_52 : decode cX4_join 52 = .ok (.iconst 1, 1) := by decide +kernel
theorem dX4_join_53 : decode cX4_join 53 = .ok (.goto 4, 3) := by decide +kernel
theorem dX4_join_56 : decode cX4_join 56 = .ok (.iconst 0, 1) := by decide +kernel
theorem dX4_join_57 : decode cX4_join 57 = .ok (.ireturn, 1) := by decide +kernel
theorem dX4_join_58 : decode cX4_join 58 = .ok (.iload_n 1, 1) := by decide +kernel
theorem dX4_join_59 : decode cX4_join 59 = .ok (.ifCond .ne 7, 3) := by decide +kernel
theorem dX4_join_62 : decode cX4_join 62 = .ok (.iload_n 2, 1) := by decide +kernel
theorem dX4_join_63 : decode cX4_join 63 = .ok (.ifCond .eq 7, 3) := by decide +kernel
theorem dX4_join_66 : decode cX4_join 66 = .ok (.iconst 1, 1) := by decide +kernel
theorem dX4_join_67 : decode cX4_join 67 = .ok (.goto 4, 3) := by decide +kernel
theorem dX4_join_70 : decode cX4_join 70 = .ok (.iconst 0, 1) := by decide +kernel
theorem dX4_join_71 : decode cX4_join 71 = .ok (.ireturn, 1) := by decide +kernel
theorem dX4_join_72 : decode cX4_join 72 = .ok (.iload_n 1, 1) := by decide +kernel
theorem dX4_join_73 : decode cX4_join 73 = .ok (.iload_n 2, 1) := by decide +kernel
theorem dX4_join_74 : decode cX4_join 74 = .ok (.iadd, 1) := by decide +kernel
theorem dX4_join_75 : decode cX4_join 75 = .ok (.ireturn, 1) := by decide +kernel
theorem dX4_join_76 : decode cX4_join 76 = .ok (.iload_n 1, 1) := by decide +kernel
theorem dX4_join_77 : decode cX4_join 77 = .ok (.iload_n 2, 1) := by decide +kernel
theorem dX4_join_78 : decode cX4_join 78 = .ok (.isub, 1) := by decide +kernel
theorem dX4_join_79 : decode cX4_join 79 = .ok (.ireturn, 1) := by decide +kernel
theorem dX4_join_80 : decode cX4_join 80 = .ok (.iload_n 1, 1) := by decide +kernel
theorem dX4_join_81 : decode cX4_join 81 = .ok (.iload_n 2, 1) := by decide +kernel
theorem dX4_join_82 : decode cX4_join 82 = .ok (.imul, 1) := by decide +kernel
theorem dX4_join_83 : decode cX4_join 83 = .ok (.ireturn, 1) := by decide +kernel
theorem dX4_join_84 : decode cX4_join 84 = .ok (.iload_n 2, 1) := by decide +kernel
theorem dX4_join_85 : decode cX4_join 85 = .ok (.ifCond .ne 7, 3) := by decide +kernel
theorem dX4_join_88 : decode cX4_join 88 = .ok (.iconst 0, 1) := by decide +kernel
theorem dX4_join_89 : decode cX4_join 89 = .ok (.goto 6, 3) := by decide +kernel
theorem dX4_join_92 : decode cX4_join 92 = .ok (.iload_n 1, 1) := by decide +kernel
theorem dX4_join_93 : decode cX4_join 93 = .ok (.iload_n 2, 1) := by decide +kernel
theorem dX4_join_94 : decode cX4_join 94 = .ok (.idiv, 1) := by decide +kernel
theorem dX4_join_95 : decode cX4_join 95 = .ok (.ireturn, 1) := by decide +kernel
theorem dX4_join_96 : decode cX4_join 96 = .ok (.iload_n 1, 1) := by decide +kernel
theorem dX4_join_97 : decode cX4_join 97 = .ok (.iload_n 2, 1) := by decide +kernel
theorem dX4_join_98 : decode cX4_join 98 = .ok (.if_icmp .ge 7, 3) := by decide +kernel
theorem dX4_join_101 : decode cX4_join 101 = .ok (.iconst 1, 1) := by decide +kernel
theorem dX4_join_102 : decode cX4_join 102 = .ok (.goto 4, 3) := by decide +kernel
theorem dX4_join_105 : decode cX4_join 105 = .ok (.iconst 0, 1) := by decide +kernel
theorem dX4_join_106 : decode cX4_join 106 = .ok (.ireturn, 1) := by decide +kernel
theorem dX4_join_107 : decode cX4_join 107 = .ok (.iload_n 1, 1) := by decide +kernel
theorem dX4_join_108 : decode cX4_join 108 = .ok (.iload_n 2, 1) := by decide +kernel
theorem dX4_join_109 : decode cX4_join 109 = .ok (.if_icmp .ne 7, 3) := by decide +kernel
theorem dX4_join_112 : decode cX4_join 112 = .ok (.iconst 1, 1) := by decide +kernel
theorem dX4_join_113 : decode cX4_join 113 = .ok (.goto 4, 3) := by decide +kernel
theorem dX4_join_116 : decode cX4_join 116 = .ok (.iconst 0, 1) := by decide +kernel
theorem dX4_join_117 : decode cX4_join 117 = .ok (.ireturn, 1) := by decide +kernel
theorem dX5_init_0 : decode cX5_init 0 = .ok (.aload_n 0, 1) := by decide +kernel
theorem dX5_init_1 : decode cX5_init 1 = .ok (.invokespecial 3, 3) := by decide +kernel
theorem dX5_init_4 : decode cX5_init 4 = .ok (.aload_n 0, 1) := by decide +kernel
theorem dX5_init_5 : decode cX5_init 5 = .ok (.bipush 8, 2) := by decide +kernel
theorem dX5_init_7 : decode cX5_init 7 = .ok (.newarray .int, 2) := by decide +kernel
theorem dX5_init_9 : decode cX5_init 9 = .ok (.putfield 9, 3) := by decide +kernel
theorem dX5_init_12 : decode cX5_init 12 = .ok (.aload_n 0, 1) := by decide +kernel
theorem dX5_init_13 : decode cX5_init 13 = .ok (.bipush 8, 2) := by decide +kernel
theorem dX5_init_15 : decode cX5_init 15 = .ok (.newarray .int, 2) := by decide +kernel
theorem dX5_init_17 : decode cX5_init 17 = .ok (.putfield 15, 3) := by decide +kernel
theorem dX5_init_20 : decode cX5_init 20 = .ok (.aload_n 0, 1) := by decide +kernel
theorem dX5_init_21 : decode cX5_init 21 = .ok (.bipush 8, 2) := by decide +kernel
theorem dX5_init_23 : decode cX5_init 23 = .ok (.newarray .int, 2) := by decide +kernel
theorem dX5_init_25 : decode cX5_init 25 = .ok (.putfield 18, 3) := by decide +kernel
theorem dX5_init_28 : decode cX5_init 28 = .ok (.aload_n 0, 1) := by decide +kernel
theorem dX5_init_29 : decode cX5_init 29 = .ok (.iconst 0, 1) := by decide +kernel
theorem dX5_init_30 : decode cX5_init 30 = .ok (.putfield 21, 3) := by decide +kernel
theorem dX5_init_33 : decode cX5_init 33 = .ok (.return_, 1) := by decide +kernel
theorem dX5_many_0 : decode cX5_many 0 = .ok (.aload_n 0, 1) := by decide +kernel
theorem dX5_many_1 : decode cX5_many 1 = .ok (.getfield 21, 3) := by decide +kernel
theorem dX5_many_4 : decode cX5_many 4 = .ok (.ireturn, 1) := by decide +kernel
theorem dX5_clear_0 : decode cX5_clear 0 = .ok (.aload_n 0, 1) := by decide +kernel
theorem dX5_clear_1 : decode cX5_clear 1 = .ok (.iconst 0, 1) := by decide +kernel
theorem dX5_clear_2 : decode cX5_clear 2 = .ok (.putfield 21, 3) := by decide +kernel
theorem dX5_clear_5 : decode cX5_clear 5 = .ok (.return_, 1) := by decide +kernel
theorem dX5_add_0 : decode cX5_add 0 = .ok (.aload_n 0, 1) := by decide +kernel
theorem dX5_add_1 : decode cX5_add 1 = .ok (.getfield 21, 3) := by decide +kernel
theorem dX5_add_4 : decode cX5_add 4 = .ok (.bipush 8, 2) := by decide +kernel
theorem dX5_add_6 : decode cX5_add 6 = .ok (.if_icmp .ge 43, 3) := by decide +kernel
theorem dX5_add_9 : decode cX5_add 9 = .ok (.aload_n 0, 1) := by decide +kernel
theorem dX5_add_10 : decode cX5_add 10 = .ok (.getfield 9, 3) := by decide +kernel
theorem dX5_add_13 : decode cX5_add 13 = .ok (.aload_n 0, 1) := by decide +kernel
theorem dX5_add_14 : decode cX5_add 14 = .ok (.getfield 21, 3) := by decide +kernel
theorem dX5_add_17 : decode cX5_add 17 = .ok (.iload_n 1, 1) := by decide +kernel
theorem dX5_add_18 : decode cX5_add 18 = .ok (.iastore, 1) := by decide +kernel
theorem dX5_add_19 : decode cX5_add 19 = .ok (.aload_n 0, 1) := by decide +kernel
theorem dX5_add_20 : decode cX5_add 20 = .ok (.getfield 15, 3) := by decide +kernel
theorem dX5_add_23 : decode cX5_add 23 = .ok (.aload_n 0, 1) := by decide +kernel
theorem dX5_add_24 : decode cX5_add 24 = .ok (.getfield 21, 3) := by decide +kernel
theorem dX5_add_27 : decode cX5_add 27 = .ok (.iload_n 2, 1) := by decide +kernel
theorem dX5_add_28 : decode cX5_add 28 = .ok (.iastore, 1) := by decide +kernel
theorem dX5_add_29 : decode cX5_add 29 = .ok (.aload_n 0, 1) := by decide +kernel
theorem dX5_add_30 : decode cX5_add 30 = .ok (.getfield 18, 3) := by decide +kernel
theorem dX5_add_33 : decode cX5_add 33 = .ok (.aload_n 0, 1) := by decide +kernel
theorem dX5_add_34 : decode cX5_add 34 = .ok (.getfield 21, 3) := by decide +kernel
theorem dX5_add_37 : decode cX5_add 37 = .ok (.iload_n 3, 1) := by decide +kernel
theorem dX5_add_38 : decode cX5_add 38 = .ok (.iastore, 1) := by decide +kernel
theorem dX5_add_39 : decode cX5_add 39 = .ok (.aload_n 0, 1) := by decide +kernel
theorem dX5_add_40 : decode cX5_add 40 = .ok (.dup, 1) := by decide +kernel
theorem dX5_add_41 : decode cX5_add 41 = .ok (.getfield 21, 3) := by decide +kernel
theorem dX5_add_44 : decode cX5_add 44 = .ok (.iconst 1, 1) := by decide +kernel
theorem dX5_add_45 : decode cX5_add 45 = .ok (.iadd, 1) := by decide +kernel
theorem dX5_add_46 : decode cX5_add 46 = .ok (.putfield 21, 3) := by decide +kernel
theorem dX5_add_49 : decode cX5_add 49 = .ok (.return_, 1) := by decide +kernel
theorem dX5_copy_0 : decode cX5_copy 0 = .ok (.aload_n 0, 1) := by decide +kernel
theorem dX5_copy_1 : decode cX5_copy 1 = .ok (.aload_n 1, 1) := by decide +kernel
theorem dX5_copy_2 : decode cX5_copy 2 = .ok (.getfield 21, 3) := by decide +kernel
theorem dX5_copy_5 : decode cX5_copy 5 = .ok (.putfield 21, 3) := by decide +kernel
theorem dX5_copy_8 : decode cX5_copy 8 = .ok (.aload_n 1, 1) := by decide +kernel
theorem dX5_copy_9 : decode cX5_copy 9 = .ok (.getfield 9, 3) := by decide +kernel
theorem dX5_copy_12 : decode cX5_copy 12 = .ok (.iconst 0, 1) := by decide +kernel
theorem dX5_copy_13 : decode cX5_copy 13 = .ok (.aload_n 0, 1) := by decide +kernel
theorem dX5_copy_14 : decode cX5_copy 14 = .ok (.getfield 9, 3) := by decide +kernel
theorem dX5_copy_17 : decode cX5_copy 17 = .ok (.iconst 0, 1) := by decide +kernel
theorem dX5_copy_18 : decode cX5_copy 18 = .ok (.bipush 8, 2) := by decide +kernel
theorem dX5_copy_20 : decode cX5_copy 20 = .ok (.invokestatic 25, 3) := by decide +kernel
theorem dX5_copy_23 : decode cX5_copy 23 = .ok (.aload_n 1, 1) := by decide +kernel
theorem dX5_copy_24 : decode cX5_copy 24 = .ok (.getfield 15, 3) := by decide +kernel
theorem dX5_copy_27 : decode cX5_copy 27 = .ok (.iconst 0, 1) := by decide +kernel
theorem dX5_copy_28 : decode cX5_copy 28 = .ok (.aload_n 0, 1) := by decide +kernel
theorem dX5_copy_29 : decode cX5_copy 29 = .ok (.getfield 15, 3) := by decide +kernel
theorem dX5_copy_32 : decode cX5_copy 32 = .ok (.iconst 0, 1) := by decide +kernel
theorem dX5_copy_33 : decode cX5_copy 33 = .ok (.bipush 8, 2) := by decide +kernel
theorem dX5_copy_35 : decode cX5_copy 35 = .ok (.invokestatic 25, 3) := by decide +kernel
theorem dX5_copy_38 : decode cX5_copy 38 = .ok (.aload_n 1, 1) := by decide +kernel
theorem dX5_copy_39 : decode cX5_copy 39 = .ok (.getfield 18, 3) := by decide +kernel
theorem dX5_copy_42 : decode cX5_copy 42 = .ok (.iconst 0, 1) := by decide +kernel
theorem dX5_copy_43 : decode cX5_copy 43 = .ok (.aload_n 0, 1) := by decide +kernel
theorem dX5_copy_44 : decode cX5_copy 44 = .ok (.getfield 18, 3) := by decide +kernel
theorem dX5_copy_47 : decode cX5_copy 47 = .ok (.iconst 0, 1) := by decide +kernel
theorem dX5_copy_48 : decode cX5_copy 48 = .ok (.bipush 8, 2) := by decide +kernel
theorem dX5_copy_50 : decode cX5_copy 50 = .ok (.invokestatic 25, 3) := by decide +kernel
theorem dX5_copy_53 : decode cX5_copy 53 = .ok (.return_, 1) := by decide +kernel
theorem dX5_longest_0 : decode cX5_longest 0 = .ok (.iconst (-1), 1) := by decide +kernel
theorem dX5_longest_1 : decode cX5_longest 1 = .ok (.istore_n 2, 1) := by decide +kernel
theorem dX5_longest_2 : decode cX5_longest 2 = .ok (.iconst 0, 1) := by decide +kernel
theorem dX5_longest_3 : decode cX5_longest 3 = .ok (.istore_n 3, 1) := by decide +kernel
theorem dX5_longest_4 : decode cX5_longest 4 = .ok (.iload_n 3, 1) := by decide +kernel
theorem dX5_longest_5 : decode cX5_longest 5 = .ok (.aload_n 0, 1) := by decide +kernel
theorem dX5_longest_6 : decode cX5_longest 6 = .ok (.getfield 21, 3) := by decide +kernel
theorem dX5_longest_9 : decode cX5_longest 9 = .ok (.if_icmp .ge 30, 3) := by decide +kernel
theorem dX5_longest_12 : decode cX5_longest 12 = .ok (.aload_n 0, 1) := by decide +kernel
theorem dX5_longest_13 : decode cX5_longest 13 = .ok (.getfield 9, 3) := by decide +kernel
theorem dX5_longest_16 : decode cX5_longest 16 = .ok (.iload_n 3, 1) := by decide +kernel
theorem dX5_longest_17 : decode cX5_longest 17 = .ok (.iaload, 1) := by decide +kernel
theorem dX5_longest_18 : decode cX5_longest 18 = .ok (.iload_n 1, 1) := by decide +kernel
theorem dX5_longest_19 : decode cX5_longest 19 = .ok (.if_icmp .ne 14, 3) := by decide +kernel
theorem dX5_longest_22 : decode cX5_longest 22 = .ok (.iload_n 2, 1) := by decide +kernel
theorem dX5_longest_23 : decode cX5_longest 23 = .ok (.aload_n 0, 1) := by decide +kernel
theorem dX5_longest_24 : decode cX5_longest 24 = .ok (.getfield 15, 3) := by decide +kernel
theorem dX5_longest_27 : decode cX5_longest 27 = .ok (.iload_n 3, 1) := by decide +kernel
theorem dX5_longest_28 : decode cX5_longest 28 = .ok (.iaload, 1) := by decide +kernel
theorem dX5_longest_29 : decode cX5_longest 29 = .ok (.invokestatic 31, 3) := by decide +kernel
theorem dX5_longest_32 : decode cX5_longest 32 = .ok (.istore_n 2, 1) := by decide +kernel
theorem dX5_longest_33 : decode cX5_longest 33 = .ok (.iinc 3 1, 3) := by decide +kernel
theorem dX5_longest_36 : decode cX5_longest 36 = .ok (.goto (-32), 3) := by decide +kernel
theorem dX5_longest_39 : decode cX5_longest 39 = .ok (.iload_n 2, 1) := by decide +kernel
theorem dX5_longest_40 : decode cX5_longest 40 = .ok (.ireturn, 1) := by decide +kernel
theorem dX5_agrees_0 : decode cX5_agrees 0 = .ok (.iconst 0, 1) := by decide +kernel
theorem dX5_agrees_1 : decode cX5_agrees 1 = .ok (.istore 4, 2) := by decide +kernel
theorem dX5_agrees_3 : decode cX5_agrees 3 = .ok (.iload 4, 2) := by decide +kernel
theorem dX5_agrees_5 : decode cX5_agrees 5 = .ok (.aload_n 0, 1) := by decide +kernel
theorem dX5_agrees_6 : decode cX5_agrees 6 = .ok (.getfield 21, 3) := by decide +kernel
theorem dX5_agrees_9 : decode cX5_agrees 9 = .ok (.if_icmp .ge 44, 3) := by decide +kernel
theorem dX5_agrees_12 : decode cX5_agrees 12 = .ok (.aload_n 0, 1) := by decide +kernel
theorem dX5_agrees_13 : decode cX5_agrees 13 = .ok (.getfield 9, 3) := by decide +kernel
theorem dX5_agrees_16 : decode cX5_agrees 16 = .ok (.iload 4, 2) := by decide +kernel
theorem dX5_agrees_18 : decode cX5_agrees 18 = .ok (.iaload, 1) := by decide +kernel
theorem dX5_agrees_19 : decode cX5_agrees 19 = .ok (.iload_n 1, 1) := by decide +kernel
theorem dX5_agrees_20 : decode cX5_agrees 20 = .ok (.if_icmp .ne 27, 3) := by decide +kernel
theorem dX5_agrees_23 : decode cX5_agrees 23 = .ok (.aload_n 0, 1) := by decide +kernel
theorem dX5_agrees_24 : decode cX5_agrees 24 = .ok (.getfield 15, 3) := by decide +kernel
theorem dX5_agrees_27 : decode cX5_agrees 27 = .ok (.iload 4, 2) := by decide +kernel
theorem dX5_agrees_29 : decode cX5_agrees 29 = .ok (.iaload, 1) := by decide +kernel
theorem dX5_agrees_30 : decode cX5_agrees 30 = .ok (.iload_n 2, 1) := by decide +kernel
theorem dX5_agrees_31 : decode cX5_agrees 31 = .ok (.if_icmp .ne 16, 3) := by decide +kernel
theorem dX5_agrees_34 : decode cX5_agrees 34 = .ok (.aload_n 0, 1) := by decide +kernel
theorem dX5_agrees_35 : decode cX5_agrees 35 = .ok (.getfield 18, 3) := by decide +kernel
theorem dX5_agrees_38 : decode cX5_agrees 38 = .ok (.iload 4, 2) := by decide +kernel
theorem dX5_agrees_40 : decode cX5_agrees 40 = .ok (.iaload, 1) := by decide +kernel
theorem dX5_agrees_41 : decode cX5_agrees 41 = .ok (.iload_n 3, 1) := by decide +kernel
theorem dX5_agrees_42 : decode cX5_agrees 42 = .ok (.if_icmp .eq 5, 3) := by decide +kernel
theorem dX5_agrees_45 : decode cX5_agrees 45 = .ok (.iconst 0, 1) := by decide +kernel
theorem dX5_agrees_46 : decode cX5_agrees 46 = .ok (.ireturn, 1) := by decide +kernel
theorem dX5_agrees_47 : decode cX5_agrees 47 = .ok (.iinc 4 1, 3) := by decide +kernel
theorem dX5_agrees_50 : decode cX5_agrees 50 = .ok (.goto (-47), 3) := by decide +kernel
theorem dX5_agrees_53 : decode cX5_agrees 53 = .ok (.iconst 1, 1) := by decide +kernel
theorem dX5_agrees_54 : decode cX5_agrees 54 = .ok (.ireturn, 1) := by decide +kernel
theorem dX6_init_0 : decode cX6_init 0 = .ok (.aload_n 0, 1) := by decide +kernel
theorem dX6_init_1 : decode cX6_init 1 = .ok (.invokespecial 3, 3) := by decide +kernel
theorem dX6_init_4 : decode cX6_init 4 = .ok (.aload_n 0, 1) := by decide +kernel
theorem dX6_init_5 : decode cX6_init 5 = .ok (.iconst 0, 1) := by decide +kernel
theorem dX6_init_6 : decode cX6_init 6 = .ok (.putfield 9, 3) := by decide +kernel
theorem dX6_init_9 : decode cX6_init 9 = .ok (.aload_n 0, 1) := by decide +kernel
theorem dX6_init_10 : decode cX6_init 10 = .ok (.iconst 0, 1) := by decide +kernel
theorem dX6_init_11 : decode cX6_init 11 = .ok (.putfield 15, 3) := by decide +kernel
theorem dX6_init_14 : decode cX6_init 14 = .ok (.aload_n 0, 1) := by decide +kernel
theorem dX6_init_15 : decode cX6_init 15 = .ok (.iconst 0, 1) := by decide +kernel
theorem dX6_init_16 : decode cX6_init 16 = .ok (.putfield 19, 3) := by decide +kernel
theorem dX6_init_19 : decode cX6_init 19 = .ok (.aload_n 0, 1) := by decide +kernel
theorem dX6_init_20 : decode cX6_init 20 = .ok (.bipush 8, 2) := by decide +kernel
theorem dX6_init_22 : decode cX6_init 22 = .ok (.newarray .int, 2) := by decide +kernel
theorem dX6_init_24 : decode cX6_init 24 = .ok (.putfield 22, 3) := by decide +kernel
theorem dX6_init_27 : decode cX6_init 27 = .ok (.aload_n 0, 1) := by decide +kernel
theorem dX6_init_28 : decode cX6_init 28 = .ok (.bipush 8, 2) := by decide +kernel
theorem dX6_init_30 : decode cX6_init 30 = .ok (.newarray .int, 2) := by decide +kernel
theorem dX6_init_32 : decode cX6_init 32 = .ok (.putfield 26, 3) := by decide +kernel
theorem dX6_init_35 : decode cX6_init 35 = .ok (.aload_n 0, 1) := by decide +kernel
theorem dX6_init_36 : decode cX6_init 36 = .ok (.bipush 8, 2) := by decide +kernel
theorem dX6_init_38 : decode cX6_init 38 = .ok (.newarray .int, 2) := by decide +kernel
theorem dX6_init_40 : decode cX6_init 40 = .ok (.putfield 29, 3) := by decide +kernel
theorem dX6_init_43 : decode cX6_init 43 = .ok (.aload_n 0, 1) := by decide +kernel
theorem dX6_init_44 : decode cX6_init 44 = .ok (.bipush 8, 2) := by decide +kernel
theorem dX6_init_46 : decode cX6_init 46 = .ok (.newarray .int, 2) := by decide +kernel
theorem dX6_init_48 : decode cX6_init 48 = .ok (.putfield 32, 3) := by decide +kernel
theorem dX6_init_51 : decode cX6_init 51 = .ok (.aload_n 0, 1) := by decide +kernel
theorem dX6_init_52 : decode cX6_init 52 = .ok (.bipush 8, 2) := by decide +kernel
theorem dX6_init_54 : decode cX6_init 54 = .ok (.newarray .int, 2) := by decide +kernel
theorem dX6_init_56 : decode cX6_init 56 = .ok (.putfield 35, 3) := by decide +kernel
theorem dX6_init_59 : decode cX6_init 59 = .ok (.aload_n 0, 1) := by decide +kernel
theorem dX6_init_60 : decode cX6_init 60 = .ok (.bipush 8, 2) := by decide +kernel
theorem dX6_init_62 : decode cX6_init 62 = .ok (.newarray .int, 2) := by decide +kernel
theorem dX6_init_64 : decode cX6_init 64 = .ok (.putfield 38, 3) := by decide +kernel
theorem dX6_init_67 : decode cX6_init 67 = .ok (.aload_n 0, 1) := by decide +kernel
theorem dX6_init_68 : decode cX6_init 68 = .ok (.getfield 29, 3) := by decide +kernel
theorem dX6_init_71 : decode cX6_init 71 = .ok (.iconst (-1), 1) := by decide +kernel
theorem dX6_init_72 : decode cX6_init 72 = .ok (.invokestatic 41, 3) := by decide +kernel
theorem dX6_init_75 : decode cX6_init 75 = .ok (.aload_n 0, 1) := by decide +kernel
theorem dX6_init_76 : decode cX6_init 76 = .ok (.getfield 35, 3) := by decide +kernel
theorem dX6_init_79 : decode cX6_init 79 = .ok (.iconst (-1), 1) := by decide +kernel
theorem dX6_init_80 : decode cX6_init 80 = .ok (.invokestatic 41, 3) := by decide +kernel
theorem dX6_init_83 : decode cX6_init 83 = .ok (.return_, 1) := by decide +kernel
theorem dX6_copy_0 : decode cX6_copy 0 = .ok (.aload_n 0, 1) := by decide +kernel
theorem dX6_copy_1 : decode cX6_copy 1 = .ok (.aload_n 1, 1) := by decide +kernel
theorem dX6_copy_2 : decode cX6_copy 2 = .ok (.getfield 9, 3) := by decide +kernel
theorem dX6_copy_5 : decode cX6_copy 5 = .ok (.putfield 9, 3) := by decide +kernel
theorem dX6_copy_8 : decode cX6_copy 8 = .ok (.aload_n 0, 1) := by decide +kernel
theorem dX6_copy_9 : decode cX6_copy 9 = .ok (.aload_n 1, 1) := by decide +kernel
theorem dX6_copy_10 : decode cX6_copy 10 = .ok (.getfield 15, 3) := by decide +kernel
theorem dX6_copy_13 : decode cX6_copy 13 = .ok (.putfield 15, 3) := by decide +kernel
theorem dX6_copy_16 : decode cX6_copy 16 = .ok (.aload_n 0, 1) := by decide +kernel
theorem dX6_copy_17 : decode cX6_copy 17 = .ok (.aload_n 1, 1) := by decide +kernel
theorem dX6_copy_18 : decode cX6_copy 18 = .ok (.getfield 19, 3) := by decide +kernel
theorem dX6_copy_21 : decode cX6_copy 21 = .ok (.putfield 19, 3) := by decide +kernel
theorem dX6_copy_24 : decode cX6_copy 24 = .ok (.aload_n 1, 1) := by decide +kernel
theorem dX6_copy_25 : decode cX6_copy 25 = .ok (.getfield 22, 3) := by decide +kernel
theorem dX6_copy_28 : decode cX6_copy 28 = .ok (.iconst 0, 1) := by decide +kernel
theorem dX6_copy_29 : decode cX6_copy 29 = .ok (.aload_n 0, 1) := by decide +kernel
theorem dX6_copy_30 : decode cX6_copy 30 = .ok (.getfield 22, 3) := by decide +kernel
theorem dX6_copy_33 : decode cX6_copy 33 = .ok (.iconst 0, 1) := by decide +kernel
theorem dX6_copy_34 : decode cX6_copy 34 = .ok (.bipush 8, 2) := by decide +kernel
theorem dX6_copy_36 : decode cX6_copy 36 = .ok (.invokestatic 47, 3) := by decide +kernel
theorem dX6_copy_39 : decode cX6_copy 39 = .ok (.aload_n 1, 1) := by decide +kernel
theorem dX6_copy_40 : decode cX6_copy 40 = .ok (.getfield 26, 3) := by decide +kernel
theorem dX6_copy_43 : decode cX6_copy 43 = .ok (.iconst 0, 1) := by decide +kernel
theorem dX6_copy_44 : decode cX6_copy 44 = .ok (.aload_n 0, 1) := by decide +kernel
theorem dX6_copy_45 : decode cX6_copy 45 = .ok (.getfield 26, 3) := by decide +kernel
theorem dX6_copy_48 : decode cX6_copy 48 = .ok (.iconst 0, 1) := by decide +kernel
theorem dX6_copy_49 : decode cX6_copy 49 = .ok (.bipush 8, 2) := by decide +kernel
theorem dX6_copy_51 : decode cX6_copy 51 = .ok (.invokestatic 47, 3) := by decide +kernel
theorem dX6_copy_54 : decode cX6_copy 54 = .ok (.aload_n 1, 1) := by decide +kernel
theorem dX6_copy_55 : decode cX6_copy 55 = .ok (.getfield 29, 3) := by decide +kernel
theorem dX6_copy_58 : decode cX6_copy 58 = .ok (.iconst 0, 1) := by decide +kernel
theorem dX6_copy_59 : decode cX6_copy 59 = .ok (.aload_n 0, 1) := by decide +kernel
theorem dX6_copy_60 : decode cX6_copy 60 = .ok (.getfield 29, 3) := by decide +kernel
theorem dX6_copy_63 : decode cX6_copy 63 = .ok (.iconst 0, 1) := by decide +kernel
theorem dX6_copy_64 : decode cX6_copy 64 = .ok (.bipush 8, 2) := by decide +kernel
theorem dX6_copy_66 : decode cX6_copy 66 = .ok (.invokestatic 47, 3) := by decide +kernel
theorem dX6_copy_69 : decode cX6_copy 69 = .ok (.aload_n 1, 1) := by decide +kernel
theorem dX6_copy_70 : decode cX6_copy 70 = .ok (.getfield 32, 3) := by decide +kernel
theorem dX6_copy_73 : decode cX6_copy 73 = .ok (.iconst 0, 1) := by decide +kernel
theorem dX6_copy_74 : decode cX6_copy 74 = .ok (.aload_n 0, 1) := by decide +kernel
theorem dX6_copy_75 : decode cX6_copy 75 = .ok (.getfield 32, 3) := by decide +kernel
theorem dX6_copy_78 : decode cX6_copy 78 = .ok (.iconst 0, 1) := by decide +kernel
theorem dX6_copy_79 : decode cX6_copy 79 = .ok (.bipush 8, 2) := by decide +kernel
theorem dX6_copy_81 : decode cX6_copy 81 = .ok (.invokestatic 47, 3) := by decide +kernel
theorem dX6_copy_84 : decode cX6_copy 84 = .ok (.aload_n 1, 1) := by decide +kernel
theorem dX6_copy_85 : decode cX6_copy 85 = .ok (.getfield 35, 3) := by decide +kernel
theorem dX6_copy_88 : decode cX6_copy 88 = .ok (.iconst 0, 1) := by decide +kernel
theorem dX6_copy_89 : decode cX6_copy 89 = .ok (.aload_n 0, 1) := by decide +kernel
theorem dX6_copy_90 : decode cX6_copy 90 = .ok (.getfield 35, 3) := by decide +kernel
theorem dX6_copy_93 : decode cX6_copy 93 = .ok (.iconst 0, 1) := by decide +kernel
theorem dX6_copy_94 : decode cX6_copy 94 = .ok (.bipush 8, 2) := by decide +kernel
theorem dX6_copy_96 : decode cX6_copy 96 = .ok (.invokestatic 47, 3) := by decide +kernel
theorem dX6_copy_99 : decode cX6_copy 99 = .ok (.aload_n 1, 1) := by decide +kernel
theorem dX6_copy_100 : decode cX6_copy 100 = .ok (.getfield 38, 3) := by decide +kernel
theorem dX6_copy_103 : decode cX6_copy 103 = .ok (.iconst 0, 1) := by decide +kernel
theorem dX6_copy_104 : decode cX6_copy 104 = .ok (.aload_n 0, 1) := by decide +kernel
theorem dX6_copy_105 : decode cX6_copy 105 = .ok (.getfield 38, 3) := by decide +kernel
theorem dX6_copy_108 : decode cX6_copy 108 = .ok (.iconst 0, 1) := by decide +kernel
theorem dX6_copy_109 : decode cX6_copy 109 = .ok (.bipush 8, 2) := by decide +kernel
theorem dX6_copy_111 : decode cX6_copy 111 = .ok (.invokestatic 47, 3) := by decide +kernel
theorem dX6_copy_114 : decode cX6_copy 114 = .ok (.return_, 1) := by decide +kernel
theorem dX6_isBurst_0 : decode cX6_isBurst 0 = .ok (.aload_n 0, 1) := by decide +kernel
theorem dX6_isBurst_1 : decode cX6_isBurst 1 = .ok (.getfield 19, 3) := by decide +kernel
theorem dX6_isBurst_4 : decode cX6_isBurst 4 = .ok (.iload_n 1, 1) := by decide +kernel
theorem dX6_isBurst_5 : decode cX6_isBurst 5 = .ok (.ishr, 1) := by decide +kernel
theorem dX6_isBurst_6 : decode cX6_isBurst 6 = .ok (.iconst 1, 1) := by decide +kernel
theorem dX6_isBurst_7 : decode cX6_isBurst 7 = .ok (.iand, 1) := by decide +kernel
theorem dX6_isBurst_8 : decode cX6_isBurst 8 = .ok (.iconst 1, 1) := by decide +kernel
theorem dX6_isBurst_9 : decode cX6_isBurst 9 = .ok (.if_icmp .ne 7, 3) := by decide +kernel
theorem dX6_isBurst_12 : decode cX6_isBurst 12 = .ok (.iconst 1, 1) := by decide +kernel
theorem dX6_isBurst_13 : decode cX6_isBurst 13 = .ok (.goto 4, 3) := by decide +kernel
theorem dX6_isBurst_16 : decode cX6_isBurst 16 = .ok (.iconst 0, 1) := by decide +kernel
theorem dX6_isBurst_17 : decode cX6_isBurst 17 = .ok (.ireturn, 1) := by decide +kernel
theorem dX6_tight_0 : decode cX6_tight 0 = .ok (.iconst 0, 1) := by decide +kernel
theorem dX6_tight_1 : decode cX6_tight 1 = .ok (.aload_n 0, 1) := by decide +kernel
theorem dX6_tight_2 : decode cX6_tight 2 = .ok (.getfield 32, 3) := by decide +kernel
theorem dX6_tight_5 : decode cX6_tight 5 = .ok (.iload_n 1, 1) := by decide +kernel
theorem dX6_tight_6 : decode cX6_tight 6 = .ok (.iaload, 1) := by decide +kernel
theorem dX6_tight_7 : decode cX6_tight 7 = .ok (.aload_n 0, 1) := by decide +kernel
theorem dX6_tight_8 : decode cX6_tight 8 = .ok (.getfield 22, 3) := by decide +kernel
theorem dX6_tight_11 : decode cX6_tight 11 = .ok (.iload_n 2, 1) := by decide +kernel
theorem dX6_tight_12 : decode cX6_tight 12 = .ok (.iaload, 1) := by decide +kernel
theorem dX6_tight_13 : decode cX6_tight 13 = .ok (.isub, 1) := by decide +kernel
theorem dX6_tight_14 : decode cX6_tight 14 = .ok (.invokestatic 53, 3) := by decide +kernel
theorem dX6_tight_17 : decode cX6_tight 17 = .ok (.ireturn, 1) := by decide +kernel
theorem dX6_settle_0 : decode cX6_settle 0 = .ok (.aload_n 0, 1) := by decide +kernel
theorem dX6_settle_1 : decode cX6_settle 1 = .ok (.getfield 35, 3) := by decide +kernel
theorem dX6_settle_4 : decode cX6_settle 4 = .ok (.iload_n 1, 1) := by decide +kernel
theorem dX6_settle_5 : decode cX6_settle 5 = .ok (.iload_n 2, 1) := by decide +kernel
theorem dX6_settle_6 : decode cX6_settle 6 = .ok (.iastore, 1) := by decide +kernel
theorem dX6_settle_7 : decode cX6_settle 7 = .ok (.aload_n 0, 1) := by decide +kernel
theorem dX6_settle_8 : decode cX6_settle 8 = .ok (.getfield 29, 3) := by decide +kernel
theorem dX6_settle_11 : decode cX6_settle 11 = .ok (.iload_n 2, 1) := by decide +kernel
theorem dX6_settle_12 : decode cX6_settle 12 = .ok (.iload_n 1, 1) := by decide +kernel
theorem dX6_settle_13 : decode cX6_settle 13 = .ok (.iastore, 1) := by decide +kernel
theorem dX6_settle_14 : decode cX6_settle 14 = .ok (.return_, 1) := by decide +kernel
theorem dX6_leave_0 : decode cX6_leave 0 = .ok (.aload_n 0, 1) := by decide +kernel
theorem dX6_leave_1 : decode cX6_leave 1 = .ok (.getfield 35, 3) := by decide +kernel
theorem dX6_leave_4 : decode cX6_leave 4 = .ok (.iload_n 1, 1) := by decide +kernel
theorem dX6_leave_5 : decode cX6_leave 5 = .ok (.iaload, 1) := by decide +kernel
theorem dX6_leave_6 : decode cX6_leave 6 = .ok (.istore_n 2, 1) := by decide +kernel
theorem dX6_leave_7 : decode cX6_leave 7 = .ok (.iload_n 2, 1) := by decide +kernel
theorem dX6_leave_8 : decode cX6_leave 8 = .ok (.iconst (-1), 1) := by decide +kernel
theorem dX6_leave_9 : decode cX6_leave 9 = .ok (.if_icmp .eq 17, 3) := by decide +kernel
theorem dX6_leave_12 : decode cX6_leave 12 = .ok (.aload_n 0, 1) := by decide +kernel
theorem dX6_leave_13 : decode cX6_leave 13 = .ok (.getfield 29, 3) := by decide +kernel
theorem dX6_leave_16 : decode cX6_leave 16 = .ok (.iload_n 2, 1) := by decide +kernel
theorem dX6_leave_17 : decode cX6_leave 17 = .ok (.iconst (-1), 1) := by decide +kernel
theorem dX6_leave_18 : decode cX6_leave 18 = .ok (.iastore, 1) := by decide +kernel
theorem dX6_leave_19 : decode cX6_leave 19 = .ok (.aload_n 0, 1) := by decide +kernel
theorem dX6_leave_20 : decode cX6_leave 20 = .ok (.getfield 35, 3) := by decide +kernel
theorem dX6_leave_23 : decode cX6_leave 23 = .ok (.iload_n 1, 1) := by decide +kernel
theorem dX6_leave_24 : decode cX6_leave 24 = .ok (.iconst (-1), 1) := by decide +kernel
theorem dX6_leave_25 : decode cX6_leave 25 = .ok (.iastore, 1) := by decide +kernel
theorem dX6_leave_26 : decode cX6_leave 26 = .ok (.return_, 1) := by decide +kernel
theorem dX7_init_0 : decode cX7_init 0 = .ok (.aload_n 0, 1) := by decide +kernel
theorem dX7_init_1 : decode cX7_init 1 = .ok (.invokespecial 3, 3) := by decide +kernel
theorem dX7_init_4 : decode cX7_init 4 = .ok (.aload_n 0, 1) := by decide +kernel
theorem dX7_init_5 : decode cX7_init 5 = .ok (.bipush 8, 2) := by decide +kernel
theorem dX7_init_7 : decode cX7_init 7 = .ok (.newarray .int, 2) := by decide +kernel
theorem dX7_init_9 : decode cX7_init 9 = .ok (.putfield 9, 3) := by decide +kernel
theorem dX7_init_12 : decode cX7_init 12 = .ok (.aload_n 0, 1) := by decide +kernel
theorem dX7_init_13 : decode cX7_init 13 = .ok (.bipush 8, 2) := by decide +kernel
theorem dX7_init_15 : decode cX7_init 15 = .ok (.newarray .int, 2) := by decide +kernel
theorem dX7_init_17 : decode cX7_init 17 = .ok (.putfield 15, 3) := by decide +kernel
theorem dX7_init_20 : decode cX7_init 20 = .ok (.aload_n 0, 1) := by decide +kernel
theorem dX7_init_21 : decode cX7_init 21 = .ok (.bipush 8, 2) := by decide +kernel
theorem dX7_init_23 : decode cX7_init 23 = .ok (.newarray .int, 2) := by decide +kernel
theorem dX7_init_25 : decode cX7_init 25 = .ok (.putfield 18, 3) := by decide +kernel
theorem dX7_init_28 : decode cX7_init 28 = .ok (.return_, 1) := by decide +kernel
theorem dX7_solve_0 : decode cX7_solve 0 = .ok (.aload_n 0, 1) := by decide +kernel
theorem dX7_solve_1 : decode cX7_solve 1 = .ok (.getfield 9, 3) := by decide +kernel
theorem dX7_solve_4 : decode cX7_solve 4 = .ok (.iconst (-1), 1) := by decide +kernel
theorem dX7_solve_5 : decode cX7_solve 5 = .ok (.invokestatic 21, 3) := by decide +kernel
theorem dX7_solve_8 : decode cX7_solve 8 = .ok (.aload_n 0, 1) := by decide +kernel
theorem dX7_solve_9 : decode cX7_solve 9 = .ok (.getfield 15, 3) := by decide +kernel
theorem dX7_solve_12 : decode cX7_solve 12 = .ok (.iconst 0, 1) := by decide +kernel
theorem dX7_solve_13 : decode cX7_solve 13 = .ok (.invokestatic 21, 3) := by decide +kernel
theorem dX7_solve_16 : decode cX7_solve 16 = .ok (.iconst 0, 1) := by decide +kernel
theorem dX7_solve_17 : decode cX7_solve 17 = .ok (.istore_n 3, 1) := by decide +kernel
theorem dX7_solve_18 : decode cX7_solve 18 = .ok (.iconst 0, 1) := by decide +kernel
theorem dX7_solve_19 : decode cX7_solve 19 = .ok (.istore 4, 2) := by decide +kernel
theorem dX7_solve_21 : decode cX7_solve 21 = .ok (.iload 4, 2) := by decide +kernel
theorem dX7_solve_23 : decode cX7_solve 23 = .ok (.aload_n 1, 1) := by decide +kernel
theorem dX7_solve_24 : decode cX7_solve 24 = .ok (.getfield 27, 3) := by decide +kernel
theorem dX7_solve_27 : decode cX7_solve 27 = .ok (.if_icmp .ge 27, 3) := by decide +kernel
theorem dX7_solve_30 : decode cX7_solve 30 = .ok (.aload_n 2, 1) := by decide +kernel
theorem dX7_solve_31 : decode cX7_solve 31 = .ok (.getfield 33, 3) := by decide +kernel
theorem dX7_solve_34 : decode cX7_solve 34 = .ok (.iload 4, 2) := by decide +kernel
theorem dX7_solve_36 : decode cX7_solve 36 = .ok (.iaload, 1) := by decide +kernel
theorem dX7_solve_37 : decode cX7_solve 37 = .ok (.iconst (-1), 1) := by decide +kernel
theorem dX7_solve_38 : decode cX7_solve 38 = .ok (.if_icmp .eq 10, 3) := by decide +kernel
theorem dX7_solve_41 : decode cX7_solve 41 = .ok (.iload_n 3, 1) := by decide +kernel
theorem dX7_solve_42 : decode cX7_solve 42 = .ok (.iconst 1, 1) := by decide +kernel
theorem dX7_solve_43 : decode cX7_solve 43 = .ok (.iload 4, 2) := by decide +kernel
theorem dX7_solve_45 : decode cX7_solve 45 = .ok (.ishl, 1) := by decide +kernel
theorem dX7_solve_46 : decode cX7_solve 46 = .ok (.ior, 1) := by decide +kernel
theorem dX7_solve_47 : decode cX7_solve 47 = .ok (.istore_n 3, 1) := by decide +kernel
theorem dX7_solve_48 : decode cX7_solve 48 = .ok (.iinc 4 1, 3) := by decide +kernel
theorem dX7_solve_51 : decode cX7_solve 51 = .ok (.goto (-30), 3) := by decide +kernel
theorem dX7_solve_54 : decode cX7_solve 54 = .ok (.iconst 0, 1) := by decide +kernel
theorem dX7_solve_55 : decode cX7_solve 55 = .ok (.istore 4, 2) := by decide +kernel
theorem dX7_solve_57 : decode cX7_solve 57 = .ok (.iload 4, 2) := by decide +kernel
theorem dX7_solve_59 : decode cX7_solve 59 = .ok (.bipush 8, 2) := by decide +kernel
theorem dX7_solve_61 : decode cX7_solve 61 = .ok (.if_icmp .ge 32, 3) := by decide +kernel
theorem dX7_solve_64 : decode cX7_solve 64 = .ok (.iload_n 3, 1) := by decide +kernel
theorem dX7_solve_65 : decode cX7_solve 65 = .ok (.ifCond .eq 28, 3) := by decide +kernel
theorem dX7_solve_68 : decode cX7_solve 68 = .ok (.aload_n 0, 1) := by decide +kernel
theorem dX7_solve_69 : decode cX7_solve 69 = .ok (.aload_n 1, 1) := by decide +kernel
theorem dX7_solve_70 : decode cX7_solve 70 = .ok (.aload_n 2, 1) := by decide +kernel
theorem dX7_solve_71 : decode cX7_solve 71 = .ok (.iload_n 3, 1) := by decide +kernel
theorem dX7_solve_72 : decode cX7_solve 72 = .ok (.invokevirtual 38, 3) := by decide +kernel
theorem dX7_solve_75 : decode cX7_solve 75 = .ok (.iload_n 3, 1) := by decide +kernel
theorem dX7_solve_76 : decode cX7_solve 76 = .ok (.aload_n 0, 1) := by decide +kernel
theorem dX7_solve_77 : decode cX7_solve 77 = .ok (.aload_n 1, 1) := by decide +kernel
theorem dX7_solve_78 : decode cX7_solve 78 = .ok (.aload_n 2, 1) := by decide +kernel
theorem dX7_solve_79 : decode cX7_solve 79 = .ok (.iload_n 3, 1) := by decide +kernel
theorem dX7_solve_80 : decode cX7_solve 80 = .ok (.invokevirtual 42, 3) := by decide +kernel
theorem dX7_solve_83 : decode cX7_solve 83 = .ok (.iconst (-1), 1) := by decide +kernel
theorem dX7_solve_84 : decode cX7_solve 84 = .ok (.ixor, 1) := by decide +kernel
theorem dX7_solve_85 : decode cX7_solve 85 = .ok (.iand, 1) := by decide +kernel
theorem dX7_solve_86 : decode cX7_solve 86 = .ok (.istore_n 3, 1) := by decide +kernel
theorem dX7_solve_87 : decode cX7_solve 87 = .ok (.iinc 4 1, 3) := by decide +kernel
theorem dX7_solve_90 : decode cX7_solve 90 = .ok (.goto (-33), 3) := by decide +kernel
theorem dX7_solve_93 : decode cX7_solve 93 = .ok (.return_, 1) := by decide +kernel
theorem dX7_wish_0 : decode cX7_wish 0 = .ok (.iconst 0, 1) := by decide +kernel
theorem dX7_wish_1 : decode cX7_wish 1 = .ok (.istore 4, 2) := by decide +kernel
theorem dX7_wish_3 : decode cX7_wish 3 = .ok (.iload 4, 2) := by decide +kernel
theorem dX7_wish_5 : decode cX7_wish 5 = .ok (.aload_n 1, 1) := by decide +kernel
theorem dX7_wish_6 : decode cX7_wish 6 = .ok (.getfield 27, 3) := by decide +kernel
theorem dX7_wish_9 : decode cX7_wish 9 = .ok (.if_icmp .ge 38, 3) := by decide +kernel
theorem dX7_wish_12 : decode cX7_wish 12 = .ok (.aload_n 0, 1) := by decide +kernel
theorem dX7_wish_13 : decode cX7_wish 13 = .ok (.getfield 18, 3) := by decide +kernel
theorem dX7_wish_16 : decode cX7_wish 16 = .ok (.iload 4, 2) := by decide +kernel
theorem dX7_wish_18 : decode cX7_wish 18 = .ok (.iload_n 3, 1) := by decide +kernel
theorem dX7_wish_19 : decode cX7_wish 19 = .ok (.iload 4, 2) := by decide +kernel
theorem dX7_wish_21 : decode cX7_wish 21 = .ok (.ishr, 1) := by decide +kernel
theorem dX7_wish_22 : decode cX7_wish 22 = .ok (.iconst 1, 1) := by decide +kernel
theorem dX7_wish_23 : decode cX7_wish 23 = .ok (.iand, 1) := by decide +kernel
theorem dX7_wish_24 : decode cX7_wish 24 = .ok (.iconst 1, 1) := by decide +kernel
theorem dX7_wish_25 : decode cX7_wish 25 = .ok (.if_icmp .ne 14, 3) := by decide +kernel
theorem dX7_wish_28 : decode cX7_wish 28 = .ok (.aload_n 1, 1) := by decide +kernel
theorem dX7_wish_29 : decode cX7_wish 29 = .ok (.aload_n 2, 1) := by decide +kernel
theorem dX7_wish_30 : decode cX7_wish 30 = .ok (.iload_n 3, 1) := by decide +kernel
theorem dX7_wish_31 : decode cX7_wish 31 = .ok (.iload 4, 2) := by decide +kernel
theorem dX7_wish_33 : decode cX7_wish 33 = .ok (.invokestatic 46, 3) := by decide +kernel
theorem dX7_wish_36 : decode cX7_wish 36 = .ok (.goto 4, 3) := by decide +kernel
theorem dX7_wish_39 : decode cX7_wish 39 = .ok (.iconst (-1), 1) := by decide +kernel
theorem dX7_wish_40 : decode cX7_wish 40 = .ok (.iastore, 1) := by decide +kernel
theorem dX7_wish_41 : decode cX7_wish 41 = .ok (.iinc 4 1, 3) := by decide +kernel
theorem dX7_wish_44 : decode cX7_wish 44 = .ok (.goto (-41), 3) := by decide +kernel
theorem dX7_wish_47 : decode cX7_wish 47 = .ok (.return_, 1) := by decide +kernel
theorem dX7_wanted_0 : decode cX7_wanted 0 = .ok (.iconst (-1), 1) := by decide +kernel
theorem dX7_wanted_1 : decode cX7_wanted 1 = .ok (.istore 4, 2) := by decide +kernel
theorem dX7_wanted_3 : decode cX7_wanted 3 = .ok (.bipush 100, 2) := by decide +kernel
theorem dX7_wanted_5 : decode cX7_wanted 5 = .ok (.istore 5, 2) := by decide +kernel
theorem dX7_wanted_7 : decode cX7_wanted 7 = .ok (.iconst 0, 1) := by decide +kernel
theorem dX7_wanted_8 : decode cX7_wanted 8 = .ok (.istore 6, 2) := by decide +kernel
theorem dX7_wanted_10 : decode cX7_wanted 10 = .ok (.iload 6, 2) := by decide +kernel
theorem dX7_wanted_12 : decode cX7_wanted 12 = .ok (.aload_n 0, 1) := by decide +kernel
theorem dX7_wanted_13 : decode cX7_wanted 13 = .ok (.getfield 50, 3) := by decide +kernel
theorem dX7_wanted_16 : decode cX7_wanted 16 = .ok (.if_icmp .ge 68, 3) := by decide +kernel
theorem dX7_wanted_19 : decode cX7_wanted 19 = .ok (.aload_n 1, 1) := by decide +kernel
theorem dX7_wanted_20 : decode cX7_wanted 20 = .ok (.getfield 53, 3) := by decide +kernel
theorem dX7_wanted_23 : decode cX7_wanted 23 = .ok (.iload 6, 2) := by decide +kernel
theorem dX7_wanted_25 : decode cX7_wanted 25 = .ok (.iaload, 1) := by decide +kernel
theorem dX7_wanted_26 : decode cX7_wanted 26 = .ok (.istore 7, 2) := by decide +kernel
theorem dX7_wanted_28 : decode cX7_wanted 28 = .ok (.aload_n 1, 1) := by decide +kernel
theorem dX7_wanted_29 : decode cX7_wanted 29 = .ok (.getfield 56, 3) := by decide +kernel
theorem dX7_wanted_32 : decode cX7_wanted 32 = .ok (.iload 6, 2) := by decide +kernel
theorem dX7_wanted_34 : decode cX7_wanted 34 = .ok (.iaload, 1) := by decide +kernel
theorem dX7_wanted_35 : decode cX7_wanted 35 = .ok (.aload_n 1, 1) := by decide +kernel
theorem dX7_wanted_36 : decode cX7_wanted 36 = .ok (.getfield 59, 3) := by decide +kernel
theorem dX7_wanted_39 : decode cX7_wanted 39 = .ok (.iload_n 3, 1) := by decide +kernel
theorem dX7_wanted_40 : decode cX7_wanted 40 = .ok (.iaload, 1) := by decide +kernel
theorem dX7_wanted_41 : decode cX7_wanted 41 = .ok (.isub, 1) := by decide +kernel
theorem dX7_wanted_42 : decode cX7_wanted 42 = .ok (.invokestatic 62, 3) := by decide +kernel
theorem dX7_wanted_45 : decode cX7_wanted 45 = .ok (.istore 8, 2) := by decide +kernel
theorem dX7_wanted_47 : decode cX7_wanted 47 = .ok (.iload 7, 2) := by decide +kernel
theorem dX7_wanted_49 : decode cX7_wanted 49 = .ok (.iconst (-1), 1) := by decide +kernel
theorem dX7_wanted_50 : decode cX7_wanted 50 = .ok (.if_icmp .eq 28, 3) := by decide +kernel
theorem dX7_wanted_53 : decode cX7_wanted 53 = .ok (.iload_n 2, 1) := by decide +kernel
theorem dX7_wanted_54 : decode cX7_wanted 54 = .ok (.iload 7, 2) := by decide +kernel
theorem dX7_wanted_56 : decode cX7_wanted 56 = .ok (.ishr, 1) := by decide +kernel
theorem dX7_wanted_57 : decode cX7_wanted 57 = .ok (.iconst 1, 1) := by decide +kernel
theorem dX7_wanted_58 : decode cX7_wanted 58 = .ok (.iand, 1) := by decide +kernel
theorem dX7_wanted_59 : decode cX7_wanted 59 = .ok (.iconst 1, 1) := by decide +kernel
theorem dX7_wanted_60 : decode cX7_wanted 60 = .ok (.if_icmp .ne 18, 3) := by decide +kernel
theorem dX7_wanted_63 : decode cX7_wanted 63 = .ok (.iload 8, 2) := by decide +kernel
theorem dX7_wanted_65 : decode cX7_wanted 65 = .ok (.iload 5, 2) := by decide +kernel
theorem dX7_wanted_67 : decode cX7_wanted 67 = .ok (.if_icmp .ge 11, 3) := by decide +kernel
theorem dX7_wanted_70 : decode cX7_wanted 70 = .ok (.iload 8, 2) := by decide +kernel
theorem dX7_wanted_72 : decode cX7_wanted 72 = .ok (.istore 5, 2) := by decide +kernel
theorem dX7_wanted_74 : decode cX7_wanted 74 = .ok (.iload 6, 2) := by decide +kernel
theorem dX7_wanted_76 : decode cX7_wanted 76 = .ok (.istore 4, 2) := by decide +kernel
theorem dX7_wanted_78 : decode cX7_wanted 78 = .ok (.iinc 6 1, 3) := by decide +kernel
theorem dX7_wanted_81 : decode cX7_wanted 81 = .ok (.goto (-71), 3) := by decide +kernel
theorem dX7_wanted_84 : decode cX7_wanted 84 = .ok (.iload 4, 2) := by decide +kernel
theorem dX7_wanted_86 : decode cX7_wanted 86 = .ok (.ireturn, 1) := by decide +kernel
theorem dX7_closeRings_0 : decode cX7_closeRings 0 = .ok (.iconst 0, 1) := by decide +kernel
theorem dX7_closeRings_1 : decode cX7_closeRings 1 = .ok (.istore 4, 2) := by decide +kernel
theorem dX7_closeRings_3 : decode cX7_closeRings 3 = .ok (.iconst 0, 1) := by decide +kernel
theorem dX7_closeRings_4 : decode cX7_closeRings 4 = .ok (.istore 5, 2) := by decide +kernel
theorem dX7_closeRings_6 : decode cX7_closeRings 6 = .ok (.iload 5, 2) := by decide +kernel
theorem dX7_closeRings_8 : decode cX7_closeRings 8 = .ok (.aload_n 1, 1) := by decide +kernel
theorem dX7_closeRings_9 : decode cX7_closeRings 9 = .ok (.getfield 27, 3) := by decide +kernel
theorem dX7_closeRings_12 : decode cX7_closeRings 12 = .ok (.if_icmp .ge 69, 3) := by decide +kernel
theorem dX7_closeRings_15 : decode cX7_closeRings 15 = .ok (.iload_n 3, 1) := by decide +kernel
theorem dX7_closeRings_16 : decode cX7_closeRings 16 = .ok (.iload 5, 2) := by decide +kernel
theorem dX7_closeRings_18 : decode cX7_closeRings 18 = .ok (.ishr, 1) := by decide +kernel
theorem dX7_closeRings_19 : decode cX7_closeRings 19 = .ok (.iconst 1, 1) := by decide +kernel
theorem dX7_closeRings_20 : decode cX7_closeRings 20 = .ok (.iand, 1) := by decide +kernel
theorem dX7_closeRings_21 : decode cX7_closeRings 21 = .ok (.iconst 1, 1) := by decide +kernel
theorem dX7_closeRings_22 : decode cX7_closeRings 22 = .ok (.if_icmp .ne 13, 3) := by decide +kernel
theorem dX7_closeRings_25 : decode cX7_closeRings 25 = .ok (.aload_n 0, 1) := by decide +kernel
theorem dX7_closeRings_26 : decode cX7_closeRings 26 = .ok (.aload_n 2, 1) := by decide +kernel
theorem dX7_closeRings_27 : decode cX7_closeRings 27 = .ok (.iload 5, 2) := by decide +kernel
theorem dX7_closeRings_29 : decode cX7_closeRings 29 = .ok (.invokevirtual 68, 3) := by decide +kernel
theorem dX7_closeRings_32 : decode cX7_closeRings 32 = .ok (.goto 4, 3) := by decide +kernel
theorem dX7_closeRings_35 : decode cX7_closeRings 35 = .ok (.iconst 0, 1) := by decide +kernel
theorem dX7_closeRings_36 : decode cX7_closeRings 36 = .ok (.istore 6, 2) := by decide +kernel
theorem dX7_closeRings_38 : decode cX7_closeRings 38 = .ok (.iload 6, 2) := by decide +kernel
theorem dX7_closeRings_40 : decode cX7_closeRings 40 = .ok (.ifCond .le 35, 3) := by decide +kernel
theorem dX7_closeRings_43 : decode cX7_closeRings 43 = .ok (.aload_n 0, 1) := by decide +kernel
theorem dX7_closeRings_44 : decode cX7_closeRings 44 = .ok (.getfield 9, 3) := by decide +kernel
theorem dX7_closeRings_47 : decode cX7_closeRings 47 = .ok (.iload 5, 2) := by decide +kernel
theorem dX7_closeRings_49 : decode cX7_closeRings 49 = .ok (.aload_n 0, 1) := by decide +kernel
theorem dX7_closeRings_50 : decode cX7_closeRings 50 = .ok (.getfield 18, 3) := by decide +kernel
theorem dX7_closeRings_53 : decode cX7_closeRings 53 = .ok (.iload 5, 2) := by decide +kernel
theorem dX7_closeRings_55 : decode cX7_closeRings 55 = .ok (.iaload, 1) := by decide +kernel
theorem dX7_closeRings_56 : decode cX7_closeRings 56 = .ok (.iastore, 1) := by decide +kernel
theorem dX7_closeRings_57 : decode cX7_closeRings 57 = .ok (.aload_n 0, 1) := by decide +kernel
theorem dX7_closeRings_58 : decode cX7_closeRings 58 = .ok (.getfield 15, 3) := by decide +kernel
theorem dX7_closeRings_61 : decode cX7_closeRings 61 = .ok (.iload 5, 2) := by decide +kernel
theorem dX7_closeRings_63 : decode cX7_closeRings 63 = .ok (.iload 6, 2) := by decide +kernel
theorem dX7_closeRings_65 : decode cX7_closeRings 65 = .ok (.iastore, 1) := by decide +kernel
theorem dX7_closeRings_66 : decode cX7_closeRings 66 = .ok (.iload 4, 2) := by decide +kernel
theorem dX7_closeRings_68 : decode cX7_closeRings 68 = .ok (.iconst 1, 1) := by decide +kernel
theorem dX7_closeRings_69 : decode cX7_closeRings 69 = .ok (.iload 5, 2) := by decide +kernel
theorem dX7_closeRings_71 : decode cX7_closeRings 71 = .ok (.ishl, 1) := by decide +kernel
theorem dX7_closeRings_72 : decode cX7_closeRings 72 = .ok (.ior, 1) := by decide +kernel
theorem dX7_closeRings_73 : decode cX7_closeRings 73 = .ok (.istore 4, 2) := by decide +kernel
theorem dX7_closeRings_75 : decode cX7_closeRings 75 = .ok (.iinc 5 1, 3) := by decide +kernel
theorem dX7_closeRings_78 : decode cX7_closeRings 78 = .ok (.goto (-72), 3) := by decide +kernel
theorem dX7_closeRings_81 : decode cX7_closeRings 81 = .ok (.iload 4, 2) := by decide +kernel
theorem dX7_closeRings_83 : decode cX7_closeRings 83 = .ok (.ireturn, 1) := by decide +kernel
theorem dX7_ringSteps_0 : decode cX7_ringSteps 0 = .ok (.iload_n 2, 1) := by decide +kernel
theorem dX7_ringSteps_1 : decode cX7_ringSteps 1 = .ok (.istore_n 3, 1) := by decide +kernel
theorem dX7_ringSteps_2 : decode cX7_ringSteps 2 = .ok (.iconst 1, 1) := by decide +kernel
theorem dX7_ringSteps_3 : decode cX7_ringSteps 3 = .ok (.istore 4, 2) := by decide +kernel
theorem dX7_ringSteps_5 : decode cX7_ringSteps 5 = .ok (.iload 4, 2) := by decide +kernel
theorem dX7_ringSteps_7 : decode cX7_ringSteps 7 = .ok (.bipush 8, 2) := by decide +kernel
theorem dX7_ringSteps_9 : decode cX7_ringSteps 9 = .ok (.if_icmp .gt 44, 3) := by decide +kernel
theorem dX7_ringSteps_12 : decode cX7_ringSteps 12 = .ok (.iload_n 3, 1) := by decide +kernel
theorem dX7_ringSteps_13 : decode cX7_ringSteps 13 = .ok (.iconst (-1), 1) := by decide +kernel
theorem dX7_ringSteps_14 : decode cX7_ringSteps 14 = .ok (.if_icmp .eq 39, 3) := by decide +kernel
theorem dX7_ringSteps_17 : decode cX7_ringSteps 17 = .ok (.aload_n 0, 1) := by decide +kernel
theorem dX7_ringSteps_18 : decode cX7_ringSteps 18 = .ok (.getfield 18, 3) := by decide +kernel
theorem dX7_ringSteps_21 : decode cX7_ringSteps 21 = .ok (.iload_n 3, 1) := by decide +kernel
theorem dX7_ringSteps_22 : decode cX7_ringSteps 22 = .ok (.iaload, 1) := by decide +kernel
theorem dX7_ringSteps_23 : decode cX7_ringSteps 23 = .ok (.iconst (-1), 1) := by decide +kernel
theorem dX7_ringSteps_24 : decode cX7_ringSteps 24 = .ok (.if_icmp .eq 29, 3) := by decide +kernel
theorem dX7_ringSteps_27 : decode cX7_ringSteps 27 = .ok (.aload_n 1, 1) := by decide +kernel
theorem dX7_ringSteps_28 : decode cX7_ringSteps 28 = .ok (.getfield 53, 3) := by decide +kernel
theorem dX7_ringSteps_31 : decode cX7_ringSteps 31 = .ok (.aload_n 0, 1) := by decide +kernel
theorem dX7_ringSteps_32 : decode cX7_ringSteps 32 = .ok (.getfield 18, 3) := by decide +kernel
theorem dX7_ringSteps_35 : decode cX7_ringSteps 35 = .ok (.iload_n 3, 1) := by decide +kernel
theorem dX7_ringSteps_36 : decode cX7_ringSteps 36 = .ok (.iaload, 1) := by decide +kernel
theorem dX7_ringSteps_37 : decode cX7_ringSteps 37 = .ok (.iaload, 1) := by decide +kernel
theorem dX7_ringSteps_38 : decode cX7_ringSteps 38 = .ok (.istore_n 3, 1) := by decide +kernel
theorem dX7_ringSteps_39 : decode cX7_ringSteps 39 = .ok (.iload_n 3, 1) := by decide +kernel
theorem dX7_ringSteps_40 : decode cX7_ringSteps 40 = .ok (.iload_n 2, 1) := by decide +kernel
theorem dX7_ringSteps_41 : decode cX7_ringSteps 41 = .ok (.if_icmp .ne 6, 3) := by decide +kernel
theorem dX7_ringSteps_44 : decode cX7_ringSteps 44 = .ok (.iload 4, 2) := by decide +kernel
theorem dX7_ringSteps_46 : decode cX7_ringSteps 46 = .ok (.ireturn, 1) := by decide +kernel
theorem dX7_ringSteps_47 : decode cX7_ringSteps 47 = .ok (.iinc 4 1, 3) := by decide +kernel
theorem dX7_ringSteps_50 : decode cX7_ringSteps 50 = .ok (.goto (-45), 3) := by decide +kernel
theorem dX7_ringSteps_53 : decode cX7_ringSteps 53 = .ok (.iconst 0, 1) := by decide +kernel
theorem dX7_ringSteps_54 : decode cX7_ringSteps 54 = .ok (.ireturn, 1) := by decide +kernel
theorem dX8_init_0 : decode cX8_init 0 = .ok (.aload_n 0, 1) := by decide +kernel
theorem dX8_init_1 : decode cX8_init 1 = .ok (.invokespecial 1, 3) := by decide +kernel
theorem dX8_init_4 : decode cX8_init 4 = .ok (.aload_n 0, 1) := by decide +kernel
theorem dX8_init_5 : decode cX8_init 5 = .ok (.new 7, 3) := by decide +kernel
theorem dX8_init_8 : decode cX8_init 8 = .ok (.dup, 1) := by decide +kernel
theorem dX8_init_9 : decode cX8_init 9 = .ok (.invokespecial 9, 3) := by decide +kernel
theorem dX8_init_12 : decode cX8_init 12 = .ok (.putfield 10, 3) := by decide +kernel
theorem dX8_init_15 : decode cX8_init 15 = .ok (.aload_n 0, 1) := by decide +kernel
theorem dX8_init_16 : decode cX8_init 16 = .ok (.iconst (-1), 1) := by decide +kernel
theorem dX8_init_17 : decode cX8_init 17 = .ok (.putfield 16, 3) := by decide +kernel
theorem dX8_init_20 : decode cX8_init 20 = .ok (.aload_n 0, 1) := by decide +kernel
theorem dX8_init_21 : decode cX8_init 21 = .ok (.new 20, 3) := by decide +kernel
theorem dX8_init_24 : decode cX8_init 24 = .ok (.dup, 1) := by decide +kernel
theorem dX8_init_25 : decode cX8_init 25 = .ok (.invokespecial 22, 3) := by decide +kernel
theorem dX8_init_28 : decode cX8_init 28 = .ok (.putfield 23, 3) := by decide +kernel
theorem dX8_init_31 : decode cX8_init 31 = .ok (.aload_n 0, 1) := by decide +kernel
theorem dX8_init_32 : decode cX8_init 32 = .ok (.new 20, 3) := by decide +kernel
theorem dX8_init_35 : decode cX8_init 35 = .ok (.dup, 1) := by decide +kernel
theorem dX8_init_36 : decode cX8_init 36 = .ok (.invokespecial 22, 3) := by decide +kernel
theorem dX8_init_39 : decode cX8_init 39 = .ok (.putfield 27, 3) := by decide +kernel
theorem dX8_init_42 : decode cX8_init 42 = .ok (.aload_n 0, 1) := by decide +kernel
theorem dX8_init_43 : decode cX8_init 43 = .ok (.new 30, 3) := by decide +kernel
theorem dX8_init_46 : decode cX8_init 46 = .ok (.dup, 1) := by decide +kernel
theorem dX8_init_47 : decode cX8_init 47 = .ok (.invokespecial 32, 3) := by decide +kernel
theorem dX8_init_50 : decode cX8_init 50 = .ok (.putfield 33, 3) := by decide +kernel
theorem dX8_init_53 : decode cX8_init 53 = .ok (.aload_n 0, 1) := by decide +kernel
theorem dX8_init_54 : decode cX8_init 54 = .ok (.new 30, 3) := by decide +kernel
theorem dX8_init_57 : decode cX8_init 57 = .ok (.dup, 1) := by decide +kernel
theorem dX8_init_58 : decode cX8_init 58 = .ok (.invokespecial 32, 3) := by decide +kernel
theorem dX8_init_61 : decode cX8_init 61 = .ok (.putfield 37, 3) := by decide +kernel
theorem dX8_init_64 : decode cX8_init 64 = .ok (.aload_n 0, 1) := by decide +kernel
theorem dX8_init_65 : decode cX8_init 65 = .ok (.new 40, 3) := by decide +kernel
theorem dX8_init_68 : decode cX8_init 68 = .ok (.dup, 1) := by decide +kernel
theorem dX8_init_69 : decode cX8_init 69 = .ok (.invokespecial 42, 3) := by decide +kernel
theorem dX8_init_72 : decode cX8_init 72 = .ok (.putfield 43, 3) := by decide +kernel
theorem dX8_init_75 : decode cX8_init 75 = .ok (.aload_n 0, 1) := by decide +kernel
theorem dX8_init_76 : decode cX8_init 76 = .ok (.new 47, 3) := by decide +kernel
theorem dX8_init_79 : decode cX8_init 79 = .ok (.dup, 1) := by decide +kernel
theorem dX8_init_80 : decode cX8_init 80 = .ok (.invokespecial 49, 3) := by decide +kernel
theorem dX8_init_83 : decode cX8_init 83 = .ok (.putfield 50, 3) := by decide +kernel
theorem dX8_init_86 : decode cX8_init 86 = .ok (.aload_n 0, 1) := by decide +kernel
theorem dX8_init_87 : decode cX8_init 87 = .ok (.iconst 0, 1) := by decide +kernel
theorem dX8_init_88 : decode cX8_init 88 = .ok (.putfield 54, 3) := by decide +kernel
theorem dX8_init_91 : decode cX8_init 91 = .ok (.aload_n 0, 1) := by decide +kernel
theorem dX8_init_92 : decode cX8_init 92 = .ok (.new 30, 3) := by decide +kernel
theorem dX8_init_95 : decode cX8_init 95 = .ok (.dup, 1) := by decide +kernel
theorem dX8_init_96 : decode cX8_init 96 = .ok (.invokespecial 32, 3) := by decide +kernel
theorem dX8_init_99 : decode cX8_init 99 = .ok (.putfield 58, 3) := by decide +kernel
theorem dX8_init_102 : decode cX8_init 102 = .ok (.aload_n 0, 1) := by decide +kernel
theorem dX8_init_103 : decode cX8_init 103 = .ok (.new 40, 3) := by decide +kernel
theorem dX8_init_106 : decode cX8_init 106 = .ok (.dup, 1) := by decide +kernel
theorem dX8_init_107 : decode cX8_init 107 = .ok (.invokespecial 42, 3) := by decide +kernel
theorem dX8_init_110 : decode cX8_init 110 = .ok (.putfield 61, 3) := by decide +kernel
theorem dX8_init_113 : decode cX8_init 113 = .ok (.aload_n 0, 1) := by decide +kernel
theorem dX8_init_114 : decode cX8_init 114 = .ok (.new 47, 3) := by decide +kernel
theorem dX8_init_117 : decode cX8_init 117 = .ok (.dup, 1) := by decide +kernel
theorem dX8_init_118 : decode cX8_init 118 = .ok (.invokespecial 49, 3) := by decide +kernel
theorem dX8_init_121 : decode cX8_init 121 = .ok (.putfield 64, 3) := by decide +kernel
theorem dX8_init_124 : decode cX8_init 124 = .ok (.aload_n 0, 1) := by decide +kernel
theorem dX8_init_125 : decode cX8_init 125 = .ok (.iconst 3, 1) := by decide +kernel
theorem dX8_init_126 : decode cX8_init 126 = .ok (.newarray .int, 2) := by decide +kernel
theorem dX8_init_128 : decode cX8_init 128 = .ok (.putfield 67, 3) := by decide +kernel
theorem dX8_init_131 : decode cX8_init 131 = .ok (.aload_n 0, 1) := by decide +kernel
theorem dX8_init_132 : decode cX8_init 132 = .ok (.new 71, 3) := by decide +kernel
theorem dX8_init_135 : decode cX8_init 135 = .ok (.dup, 1) := by decide +kernel
theorem dX8_init_136 : decode cX8_init 136 = .ok (.invokespecial 73, 3) := by decide +kernel
theorem dX8_init_139 : decode cX8_init 139 = .ok (.putfield 74, 3) := by decide +kernel
theorem dX8_init_142 : decode cX8_init 142 = .ok (.aload_n 0, 1) := by decide +kernel
theorem dX8_init_143 : decode cX8_init 143 = .ok (.new 78, 3) := by decide +kernel
theorem dX8_init_146 : decode cX8_init 146 = .ok (.dup, 1) := by decide +kernel
theorem dX8_init_147 : decode cX8_init 147 = .ok (.invokespecial 80, 3) := by decide +kernel
theorem dX8_init_150 : decode cX8_init 150 = .ok (.putfield 81, 3) := by decide +kernel
theorem dX8_init_153 : decode cX8_init 153 = .ok (.aload_n 0, 1) := by decide +kernel
theorem dX8_init_154 : decode cX8_init 154 = .ok (.bipush 8, 2) := by decide +kernel
theorem dX8_init_156 : decode cX8_init 156 = .ok (.newarray .long, 2) := by decide +kernel
theorem dX8_init_158 : decode cX8_init 158 = .ok (.putfield 85, 3) := by decide +kernel
theorem dX8_init_161 : decode cX8_init 161 = .ok (.return_, 1) := by decide +kernel
theorem dX8_feed_0 : decode cX8_feed 0 = .ok (.aload_n 0, 1) := by decide +kernel
theorem dX8_feed_1 : decode cX8_feed 1 = .ok (.getfield 10, 3) := by decide +kernel
theorem dX8_feed_4 : decode cX8_feed 4 = .ok (.invokevirtual 89, 3) := by decide +kernel
theorem dX8_feed_7 : decode cX8_feed 7 = .ok (.bipush 20, 2) := by decide +kernel
theorem dX8_feed_9 : decode cX8_feed 9 = .ok (.iadd, 1) := by decide +kernel
theorem dX8_feed_10 : decode cX8_feed 10 = .ok (.sipush 700, 3) := by decide +kernel
theorem dX8_feed_13 : decode cX8_feed 13 = .ok (.if_icmp .le 5, 3) := by decide +kernel
theorem dX8_feed_16 : decode cX8_feed 16 = .ok (.iconst (-1), 1) := by decide +kernel
theorem dX8_feed_17 : decode cX8_feed 17 = .ok (.ireturn, 1) := by decide +kernel
theorem dX8_feed_18 : decode cX8_feed 18 = .ok (.aload_n 0, 1) := by decide +kernel
theorem dX8_feed_19 : decode cX8_feed 19 = .ok (.getfield 10, 3) := by decide +kernel
theorem dX8_feed_22 : decode cX8_feed 22 = .ok (.iload_n 1, 1) := by decide +kernel
theorem dX8_feed_23 : decode cX8_feed 23 = .ok (.invokevirtual 93, 3) := by decide +kernel
theorem dX8_feed_26 : decode cX8_feed 26 = .ok (.aload_n 0, 1) := by decide +kernel
theorem dX8_feed_27 : decode cX8_feed 27 = .ok (.getfield 10, 3) := by decide +kernel
theorem dX8_feed_30 : decode cX8_feed 30 = .ok (.iload_n 2, 1) := by decide +kernel
theorem dX8_feed_31 : decode cX8_feed 31 = .ok (.invokevirtual 93, 3) := by decide +kernel
theorem dX8_feed_34 : decode cX8_feed 34 = .ok (.aload_n 0, 1) := by decide +kernel
theorem dX8_feed_35 : decode cX8_feed 35 = .ok (.getfield 10, 3) := by decide +kernel
theorem dX8_feed_38 : decode cX8_feed 38 = .ok (.iload_n 3, 1) := by decide +kernel
theorem dX8_feed_39 : decode cX8_feed 39 = .ok (.invokevirtual 93, 3) := by decide +kernel
theorem dX8_feed_42 : decode cX8_feed 42 = .ok (.aload_n 0, 1) := by decide +kernel
theorem dX8_feed_43 : decode cX8_feed 43 = .ok (.getfield 10, 3) := by decide +kernel
theorem dX8_feed_46 : decode cX8_feed 46 = .ok (.iload 4, 2) := by decide +kernel
theorem dX8_feed_48 : decode cX8_feed 48 = .ok (.invokevirtual 93, 3) := by decide +kernel
theorem dX8_feed_51 : decode cX8_feed 51 = .ok (.aload_n 0, 1) := by decide +kernel
theorem dX8_feed_52 : decode cX8_feed 52 = .ok (.getfield 10, 3) := by decide +kernel
theorem dX8_feed_55 : decode cX8_feed 55 = .ok (.iload 5, 2) := by decide +kernel
theorem dX8_feed_57 : decode cX8_feed 57 = .ok (.invokevirtual 93, 3) := by decide +kernel
theorem dX8_feed_60 : decode cX8_feed 60 = .ok (.aload_n 0, 1) := by decide +kernel
theorem dX8_feed_61 : decode cX8_feed 61 = .ok (.getfield 10, 3) := by decide +kernel
theorem dX8_feed_64 : decode cX8_feed 64 = .ok (.invokevirtual 89, 3) := by decide +kernel
theorem dX8_feed_67 : decode cX8_feed 67 = .ok (.ireturn, 1) := by decide +kernel
theorem dX8_town_0 : decode cX8_town 0 = .ok (.iload_n 1, 1) := by decide +kernel
theorem dX8_town_1 : decode cX8_town 1 = .ok (.ifCond .lt 14, 3) := by decide +kernel
theorem dX8_town_4 : decode cX8_town 4 = .ok (.iload_n 1, 1) := by decide +kernel
theorem dX8_town_5 : decode cX8_town 5 = .ok (.aload_n 0, 1) := by decide +kernel
theorem dX8_town_6 : decode cX8_town 6 = .ok (.getfield 10, 3) := by decide +kernel
theorem dX8_town_9 : decode cX8_town 9 = .ok (.invokevirtual 89, 3) := by decide +kernel
theorem dX8_town_12 : decode cX8_town 12 = .ok (.if_icmp .le 13, 3) := by decide +kernel
theorem dX8_town_15 : decode cX8_town 15 = .ok (.new 97, 3) := by decide +kernel
theorem dX8_town_18 : decode cX8_town 18 = .ok (.dup, 1) := by decide +kernel
theorem dX8_town_19 : decode cX8_town 19 = .ok (.ldc 99, 2) := by decide +kernel
theorem dX8_town_21 : decode cX8_town 21 = .ok (.invokespecial 101, 3) := by decide +kernel
theorem dX8_town_24 : decode cX8_town 24 = .ok (.athrow, 1) := by decide +kernel
theorem dX8_town_25 : decode cX8_town 25 = .ok (.aload_n 0, 1) := by decide +kernel
theorem dX8_town_26 : decode cX8_town 26 = .ok (.getfield 10, 3) := by decide +kernel
theorem dX8_town_29 : decode cX8_town 29 = .ok (.iload_n 1, 1) := by decide +kernel
theorem dX8_town_30 : decode cX8_town 30 = .ok (.aload_n 0, 1) := by decide +kernel
theorem dX8_town_31 : decode cX8_town 31 = .ok (.getfield 27, 3) := by decide +kernel
theorem dX8_town_34 : decode cX8_town 34 = .ok (.invokevirtual 104, 3) := by decide +kernel
theorem dX8_town_37 : decode cX8_town 37 = .ok (.istore_n 2, 1) := by decide +kernel
theorem dX8_town_38 : decode cX8_town 38 = .ok (.aload_n 0, 1) := by decide +kernel
theorem dX8_town_39 : decode cX8_town 39 = .ok (.iload_n 2, 1) := by decide +kernel
theorem dX8_town_40 : decode cX8_town 40 = .ok (.ifCond .ne 7, 3) := by decide +kernel
theorem dX8_town_43 : decode cX8_town 43 = .ok (.iconst (-1), 1) := by decide +kernel
theorem dX8_town_44 : decode cX8_town 44 = .ok (.goto 10, 3) := by decide +kernel
theorem dX8_town_47 : decode cX8_town 47 = .ok (.aload_n 0, 1) := by decide +kernel
theorem dX8_town_48 : decode cX8_town 48 = .ok (.getfield 10, 3) := by decide +kernel
theorem dX8_town_51 : decode cX8_town 51 = .ok (.invokevirtual 108, 3) := by decide +kernel
theorem dX8_town_54 : decode cX8_town 54 = .ok (.putfield 16, 3) := by decide +kernel
theorem dX8_town_57 : decode cX8_town 57 = .ok (.iload_n 2, 1) := by decide +kernel
theorem dX8_town_58 : decode cX8_town 58 = .ok (.ifCond .eq 15, 3) := by decide +kernel
theorem dX8_town_61 : decode cX8_town 61 = .ok (.aload_n 0, 1) := by decide +kernel
theorem dX8_town_62 : decode cX8_town 62 = .ok (.getfield 67, 3) := by decide +kernel
theorem dX8_town_65 : decode cX8_town 65 = .ok (.iconst 0, 1) := by decide +kernel
theorem dX8_town_66 : decode cX8_town 66 = .ok (.dup2, 1) := by decide +kernel
theorem dX8_town_67 : decode cX8_town 67 = .ok (.iaload, 1) := by decide +kernel
theorem dX8_town_68 : decode cX8_town 68 = .ok (.iconst 1, 1) := by decide +kernel
theorem dX8_town_69 : decode cX8_town 69 = .ok (.iadd, 1) := by decide +kernel
theorem dX8_town_70 : decode cX8_town 70 = .ok (.iastore, 1) := by decide +kernel
theorem dX8_town_71 : decode cX8_town 71 = .ok (.iload_n 2, 1) := by decide +kernel
theorem dX8_town_72 : decode cX8_town 72 = .ok (.ireturn, 1) := by decide +kernel
theorem dX8_town_73 : decode cX8_town 73 = .ok (.aload_n 0, 1) := by decide +kernel
theorem dX8_town_74 : decode cX8_town 74 = .ok (.getfield 23, 3) := by decide +kernel
theorem dX8_town_77 : decode cX8_town 77 = .ok (.astore_n 3, 1) := by decide +kernel
theorem dX8_town_78 : decode cX8_town 78 = .ok (.aload_n 0, 1) := by decide +kernel
theorem dX8_town_79 : decode cX8_town 79 = .ok (.aload_n 0, 1) := by decide +kernel
