theorem dX9_endures_60 : decode cX9_endures 60 = .ok (.aload_n 0, 1) := by decide +kernel
theorem dX9_endures_61 : decode cX9_endures 61 = .ok (.getfield 66, 3) := by decide +kernel
theorem dX9_endures_64 : decode cX9_endures 64 = .ok (.bipush 62, 2) := by decide +kernel
theorem dX9_endures_66 : decode cX9_endures 66 = .ok (.iload_n 2, 1) := by decide +kernel
theorem dX9_endures_67 : decode cX9_endures 67 = .ok (.iadd, 1) := by decide +kernel
theorem dX9_endures_68 : decode cX9_endures 68 = .ok (.iload_n 1, 1) := by decide +kernel
theorem dX9_endures_69 : decode cX9_endures 69 = .ok (.iastore, 1) := by decide +kernel
theorem dX9_endures_70 : decode cX9_endures 70 = .ok (.iconst 1, 1) := by decide +kernel
theorem dX9_endures_71 : decode cX9_endures 71 = .ok (.istore 4, 2) := by decide +kernel
theorem dX9_endures_73 : decode cX9_endures 73 = .ok (.iload 4, 2) := by decide +kernel
theorem dX9_endures_75 : decode cX9_endures 75 = .ok (.bipush 40, 2) := by decide +kernel
theorem dX9_endures_77 : decode cX9_endures 77 = .ok (.if_icmp .gt 28, 3) := by decide +kernel
theorem dX9_endures_80 : decode cX9_endures 80 = .ok (.aload_n 0, 1) := by decide +kernel
theorem dX9_endures_81 : decode cX9_endures 81 = .ok (.bipush 43, 2) := by decide +kernel
theorem dX9_endures_83 : decode cX9_endures 83 = .ok (.invokevirtual 336, 3) := by decide +kernel
theorem dX9_endures_86 : decode cX9_endures 86 = .ok (.aload_n 0, 1) := by decide +kernel
theorem dX9_endures_87 : decode cX9_endures 87 = .ok (.bipush 43, 2) := by decide +kernel
theorem dX9_endures_89 : decode cX9_endures 89 = .ok (.iload_n 2, 1) := by decide +kernel
theorem dX9_endures_90 : decode cX9_endures 90 = .ok (.invokevirtual 322, 3) := by decide +kernel
theorem dX9_endures_93 : decode cX9_endures 93 = .ok (.ifCond .eq 6, 3) := by decide +kernel
theorem dX9_endures_96 : decode cX9_endures 96 = .ok (.iload 4, 2) := by decide +kernel
theorem dX9_endures_98 : decode cX9_endures 98 = .ok (.ireturn, 1) := by decide +kernel
theorem dX9_endures_99 : decode cX9_endures 99 = .ok (.iinc 4 1, 3) := by decide +kernel
theorem dX9_endures_102 : decode cX9_endures 102 = .ok (.goto (-29), 3) := by decide +kernel
theorem dX9_endures_105 : decode cX9_endures 105 = .ok (.iconst (-1), 1) := by decide +kernel
theorem dX9_endures_106 : decode cX9_endures 106 = .ok (.ireturn, 1) := by decide +kernel
theorem dX9_image_0 : decode cX9_image 0 = .ok (.aload_n 0, 1) := by decide +kernel
theorem dX9_image_1 : decode cX9_image 1 = .ok (.iconst 0, 1) := by decide +kernel
theorem dX9_image_2 : decode cX9_image 2 = .ok (.putfield 111, 3) := by decide +kernel
theorem dX9_image_5 : decode cX9_image 5 = .ok (.aload_n 0, 1) := by decide +kernel
theorem dX9_image_6 : decode cX9_image 6 = .ok (.iconst 1, 1) := by decide +kernel
theorem dX9_image_7 : decode cX9_image 7 = .ok (.putfield 294, 3) := by decide +kernel
theorem dX9_image_10 : decode cX9_image 10 = .ok (.aload_n 0, 1) := by decide +kernel
theorem dX9_image_11 : decode cX9_image 11 = .ok (.aload_n 0, 1) := by decide +kernel
theorem dX9_image_12 : decode cX9_image 12 = .ok (.getfield 288, 3) := by decide +kernel
theorem dX9_image_15 : decode cX9_image 15 = .ok (.putfield 447, 3) := by decide +kernel
theorem dX9_image_18 : decode cX9_image 18 = .ok (.aload_n 0, 1) := by decide +kernel
theorem dX9_image_19 : decode cX9_image 19 = .ok (.aload_n 0, 1) := by decide +kernel
theorem dX9_image_20 : decode cX9_image 20 = .ok (.getfield 291, 3) := by decide +kernel
theorem dX9_image_23 : decode cX9_image 23 = .ok (.putfield 450, 3) := by decide +kernel
theorem dX9_image_26 : decode cX9_image 26 = .ok (.iconst 0, 1) := by decide +kernel
theorem dX9_image_27 : decode cX9_image 27 = .ok (.istore_n 1, 1) := by decide +kernel
theorem dX9_image_28 : decode cX9_image 28 = .ok (.iload_n 1, 1) := by decide +kernel
theorem dX9_image_29 : decode cX9_image 29 = .ok (.bipush 43, 2) := by decide +kernel
theorem dX9_image_31 : decode cX9_image 31 = .ok (.if_icmp .ge 21, 3) := by decide +kernel
theorem dX9_image_34 : decode cX9_image 34 = .ok (.aload_n 0, 1) := by decide +kernel
theorem dX9_image_35 : decode cX9_image 35 = .ok (.getfield 102, 3) := by decide +kernel
theorem dX9_image_38 : decode cX9_image 38 = .ok (.iload_n 1, 1) := by decide +kernel
theorem dX9_image_39 : decode cX9_image 39 = .ok (.aload_n 0, 1) := by decide +kernel
theorem dX9_image_40 : decode cX9_image 40 = .ok (.getfield 66, 3) := by decide +kernel
theorem dX9_image_43 : decode cX9_image 43 = .ok (.iload_n 1, 1) := by decide +kernel
theorem dX9_image_44 : decode cX9_image 44 = .ok (.iaload, 1) := by decide +kernel
theorem dX9_image_45 : decode cX9_image 45 = .ok (.iastore, 1) := by decide +kernel
theorem dX9_image_46 : decode cX9_image 46 = .ok (.iinc 1 1, 3) := by decide +kernel
theorem dX9_image_49 : decode cX9_image 49 = .ok (.goto (-21), 3) := by decide +kernel
theorem dX9_image_52 : decode cX9_image 52 = .ok (.aload_n 0, 1) := by decide +kernel
theorem dX9_image_53 : decode cX9_image 53 = .ok (.aload_n 0, 1) := by decide +kernel
theorem dX9_image_54 : decode cX9_image 54 = .ok (.getfield 69, 3) := by decide +kernel
theorem dX9_image_57 : decode cX9_image 57 = .ok (.aload_n 0, 1) := by decide +kernel
theorem dX9_image_58 : decode cX9_image 58 = .ok (.getfield 105, 3) := by decide +kernel
theorem dX9_image_61 : decode cX9_image 61 = .ok (.invokevirtual 284, 3) := by decide +kernel
theorem dX9_image_64 : decode cX9_image 64 = .ok (.aload_n 0, 1) := by decide +kernel
theorem dX9_image_65 : decode cX9_image 65 = .ok (.aload_n 0, 1) := by decide +kernel
theorem dX9_image_66 : decode cX9_image 66 = .ok (.getfield 93, 3) := by decide +kernel
theorem dX9_image_69 : decode cX9_image 69 = .ok (.aload_n 0, 1) := by decide +kernel
theorem dX9_image_70 : decode cX9_image 70 = .ok (.getfield 108, 3) := by decide +kernel
theorem dX9_image_73 : decode cX9_image 73 = .ok (.invokevirtual 284, 3) := by decide +kernel
theorem dX9_image_76 : decode cX9_image 76 = .ok (.return_, 1) := by decide +kernel
theorem dX9_restore_0 : decode cX9_restore 0 = .ok (.aload_n 0, 1) := by decide +kernel
theorem dX9_restore_1 : decode cX9_restore 1 = .ok (.iconst 0, 1) := by decide +kernel
theorem dX9_restore_2 : decode cX9_restore 2 = .ok (.putfield 111, 3) := by decide +kernel
theorem dX9_restore_5 : decode cX9_restore 5 = .ok (.aload_n 0, 1) := by decide +kernel
theorem dX9_restore_6 : decode cX9_restore 6 = .ok (.getfield 294, 3) := by decide +kernel
theorem dX9_restore_9 : decode cX9_restore 9 = .ok (.ifCond .ne 5, 3) := by decide +kernel
theorem dX9_restore_12 : decode cX9_restore 12 = .ok (.iconst 0, 1) := by decide +kernel
theorem dX9_restore_13 : decode cX9_restore 13 = .ok (.ireturn, 1) := by decide +kernel
theorem dX9_restore_14 : decode cX9_restore 14 = .ok (.aload_n 0, 1) := by decide +kernel
theorem dX9_restore_15 : decode cX9_restore 15 = .ok (.aload_n 0, 1) := by decide +kernel
theorem dX9_restore_16 : decode cX9_restore 16 = .ok (.getfield 447, 3) := by decide +kernel
theorem dX9_restore_19 : decode cX9_restore 19 = .ok (.putfield 288, 3) := by decide +kernel
theorem dX9_restore_22 : decode cX9_restore 22 = .ok (.aload_n 0, 1) := by decide +kernel
theorem dX9_restore_23 : decode cX9_restore 23 = .ok (.aload_n 0, 1) := by decide +kernel
theorem dX9_restore_24 : decode cX9_restore 24 = .ok (.getfield 450, 3) := by decide +kernel
theorem dX9_restore_27 : decode cX9_restore 27 = .ok (.putfield 291, 3) := by decide +kernel
theorem dX9_restore_30 : decode cX9_restore 30 = .ok (.iconst 0, 1) := by decide +kernel
theorem dX9_restore_31 : decode cX9_restore 31 = .ok (.istore_n 1, 1) := by decide +kernel
theorem dX9_restore_32 : decode cX9_restore 32 = .ok (.iload_n 1, 1) := by decide +kernel
theorem dX9_restore_33 : decode cX9_restore 33 = .ok (.bipush 43, 2) := by decide +kernel
theorem dX9_restore_35 : decode cX9_restore 35 = .ok (.if_icmp .ge 21, 3) := by decide +kernel
theorem dX9_restore_38 : decode cX9_restore 38 = .ok (.aload_n 0, 1) := by decide +kernel
theorem dX9_restore_39 : decode cX9_restore 39 = .ok (.getfield 66, 3) := by decide +kernel
theorem dX9_restore_42 : decode cX9_restore 42 = .ok (.iload_n 1, 1) := by decide +kernel
theorem dX9_restore_43 : decode cX9_restore 43 = .ok (.aload_n 0, 1) := by decide +kernel
theorem dX9_restore_44 : decode cX9_restore 44 = .ok (.getfield 102, 3) := by decide +kernel
theorem dX9_restore_47 : decode cX9_restore 47 = .ok (.iload_n 1, 1) := by decide +kernel
theorem dX9_restore_48 : decode cX9_restore 48 = .ok (.iaload, 1) := by decide +kernel
theorem dX9_restore_49 : decode cX9_restore 49 = .ok (.iastore, 1) := by decide +kernel
theorem dX9_restore_50 : decode cX9_restore 50 = .ok (.iinc 1 1, 3) := by decide +kernel
theorem dX9_restore_53 : decode cX9_restore 53 = .ok (.goto (-21), 3) := by decide +kernel
theorem dX9_restore_56 : decode cX9_restore 56 = .ok (.aload_n 0, 1) := by decide +kernel
theorem dX9_restore_57 : decode cX9_restore 57 = .ok (.aload_n 0, 1) := by decide +kernel
theorem dX9_restore_58 : decode cX9_restore 58 = .ok (.getfield 105, 3) := by decide +kernel
theorem dX9_restore_61 : decode cX9_restore 61 = .ok (.aload_n 0, 1) := by decide +kernel
theorem dX9_restore_62 : decode cX9_restore 62 = .ok (.getfield 69, 3) := by decide +kernel
theorem dX9_restore_65 : decode cX9_restore 65 = .ok (.invokevirtual 284, 3) := by decide +kernel
theorem dX9_restore_68 : decode cX9_restore 68 = .ok (.aload_n 0, 1) := by decide +kernel
theorem dX9_restore_69 : decode cX9_restore 69 = .ok (.aload_n 0, 1) := by decide +kernel
theorem dX9_restore_70 : decode cX9_restore 70 = .ok (.getfield 108, 3) := by decide +kernel
theorem dX9_restore_73 : decode cX9_restore 73 = .ok (.aload_n 0, 1) := by decide +kernel
theorem dX9_restore_74 : decode cX9_restore 74 = .ok (.getfield 93, 3) := by decide +kernel
theorem dX9_restore_77 : decode cX9_restore 77 = .ok (.invokevirtual 284, 3) := by decide +kernel
theorem dX9_restore_80 : decode cX9_restore 80 = .ok (.iconst 1, 1) := by decide +kernel
theorem dX9_restore_81 : decode cX9_restore 81 = .ok (.ireturn, 1) := by decide +kernel
theorem dJ6_bitCount_0f7a4_0 : decode cJ6_bitCount_0f7a4 0 = .ok (.iload_n 0, 1) := by decide +kernel
theorem dJ6_bitCount_0f7a4_1 : decode cJ6_bitCount_0f7a4 1 = .ok (.iload_n 0, 1) := by decide +kernel
theorem dJ6_bitCount_0f7a4_2 : decode cJ6_bitCount_0f7a4 2 = .ok (.iconst 1, 1) := by decide +kernel
theorem dJ6_bitCount_0f7a4_3 : decode cJ6_bitCount_0f7a4 3 = .ok (.iushr, 1) := by decide +kernel
theorem dJ6_bitCount_0f7a4_4 : decode cJ6_bitCount_0f7a4 4 = .ok (.ldc_w 265, 3) := by decide +kernel
theorem dJ6_bitCount_0f7a4_7 : decode cJ6_bitCount_0f7a4 7 = .ok (.iand, 1) := by decide +kernel
theorem dJ6_bitCount_0f7a4_8 : decode cJ6_bitCount_0f7a4 8 = .ok (.isub, 1) := by decide +kernel
theorem dJ6_bitCount_0f7a4_9 : decode cJ6_bitCount_0f7a4 9 = .ok (.istore_n 0, 1) := by decide +kernel
theorem dJ6_bitCount_0f7a4_10 : decode cJ6_bitCount_0f7a4 10 = .ok (.iload_n 0, 1) := by decide +kernel
theorem dJ6_bitCount_0f7a4_11 : decode cJ6_bitCount_0f7a4 11 = .ok (.ldc_w 266, 3) := by decide +kernel
theorem dJ6_bitCount_0f7a4_14 : decode cJ6_bitCount_0f7a4 14 = .ok (.iand, 1) := by decide +kernel
theorem dJ6_bitCount_0f7a4_15 : decode cJ6_bitCount_0f7a4 15 = .ok (.iload_n 0, 1) := by decide +kernel
theorem dJ6_bitCount_0f7a4_16 : decode cJ6_bitCount_0f7a4 16 = .ok (.iconst 2, 1) := by decide +kernel
theorem dJ6_bitCount_0f7a4_17 : decode cJ6_bitCount_0f7a4 17 = .ok (.iushr, 1) := by decide +kernel
theorem dJ6_bitCount_0f7a4_18 : decode cJ6_bitCount_0f7a4 18 = .ok (.ldc_w 266, 3) := by decide +kernel
theorem dJ6_bitCount_0f7a4_21 : decode cJ6_bitCount_0f7a4 21 = .ok (.iand, 1) := by decide +kernel
theorem dJ6_bitCount_0f7a4_22 : decode cJ6_bitCount_0f7a4 22 = .ok (.iadd, 1) := by decide +kernel
theorem dJ6_bitCount_0f7a4_23 : decode cJ6_bitCount_0f7a4 23 = .ok (.istore_n 0, 1) := by decide +kernel
theorem dJ6_bitCount_0f7a4_24 : decode cJ6_bitCount_0f7a4 24 = .ok (.iload_n 0, 1) := by decide +kernel
theorem dJ6_bitCount_0f7a4_25 : decode cJ6_bitCount_0f7a4 25 = .ok (.iload_n 0, 1) := by decide +kernel
theorem dJ6_bitCount_0f7a4_26 : decode cJ6_bitCount_0f7a4 26 = .ok (.iconst 4, 1) := by decide +kernel
theorem dJ6_bitCount_0f7a4_27 : decode cJ6_bitCount_0f7a4 27 = .ok (.iushr, 1) := by decide +kernel
theorem dJ6_bitCount_0f7a4_28 : decode cJ6_bitCount_0f7a4 28 = .ok (.iadd, 1) := by decide +kernel
theorem dJ6_bitCount_0f7a4_29 : decode cJ6_bitCount_0f7a4 29 = .ok (.ldc_w 267, 3) := by decide +kernel
theorem dJ6_bitCount_0f7a4_32 : decode cJ6_bitCount_0f7a4 32 = .ok (.iand, 1) := by decide +kernel
theorem dJ6_bitCount_0f7a4_33 : decode cJ6_bitCount_0f7a4 33 = .ok (.istore_n 0, 1) := by decide +kernel
theorem dJ6_bitCount_0f7a4_34 : decode cJ6_bitCount_0f7a4 34 = .ok (.iload_n 0, 1) := by decide +kernel
theorem dJ6_bitCount_0f7a4_35 : decode cJ6_bitCount_0f7a4 35 = .ok (.iload_n 0, 1) := by decide +kernel
theorem dJ6_bitCount_0f7a4_36 : decode cJ6_bitCount_0f7a4 36 = .ok (.bipush 8, 2) := by decide +kernel
theorem dJ6_bitCount_0f7a4_38 : decode cJ6_bitCount_0f7a4 38 = .ok (.iushr, 1) := by decide +kernel
theorem dJ6_bitCount_0f7a4_39 : decode cJ6_bitCount_0f7a4 39 = .ok (.iadd, 1) := by decide +kernel
theorem dJ6_bitCount_0f7a4_40 : decode cJ6_bitCount_0f7a4 40 = .ok (.istore_n 0, 1) := by decide +kernel
theorem dJ6_bitCount_0f7a4_41 : decode cJ6_bitCount_0f7a4 41 = .ok (.iload_n 0, 1) := by decide +kernel
theorem dJ6_bitCount_0f7a4_42 : decode cJ6_bitCount_0f7a4 42 = .ok (.iload_n 0, 1) := by decide +kernel
theorem dJ6_bitCount_0f7a4_43 : decode cJ6_bitCount_0f7a4 43 = .ok (.bipush 16, 2) := by decide +kernel
theorem dJ6_bitCount_0f7a4_45 : decode cJ6_bitCount_0f7a4 45 = .ok (.iushr, 1) := by decide +kernel
theorem dJ6_bitCount_0f7a4_46 : decode cJ6_bitCount_0f7a4 46 = .ok (.iadd, 1) := by decide +kernel
theorem dJ6_bitCount_0f7a4_47 : decode cJ6_bitCount_0f7a4 47 = .ok (.istore_n 0, 1) := by decide +kernel
theorem dJ6_bitCount_0f7a4_48 : decode cJ6_bitCount_0f7a4 48 = .ok (.iload_n 0, 1) := by decide +kernel
theorem dJ6_bitCount_0f7a4_49 : decode cJ6_bitCount_0f7a4 49 = .ok (.bipush 63, 2) := by decide +kernel
theorem dJ6_bitCount_0f7a4_51 : decode cJ6_bitCount_0f7a4 51 = .ok (.iand, 1) := by decide +kernel
theorem dJ6_bitCount_0f7a4_52 : decode cJ6_bitCount_0f7a4 52 = .ok (.ireturn, 1) := by decide +kernel
theorem dJ13_bitCount_95d88_0 : decode cJ13_bitCount_95d88 0 = .ok (.lload_n 0, 1) := by decide +kernel
theorem dJ13_bitCount_95d88_1 : decode cJ13_bitCount_95d88 1 = .ok (.lload_n 0, 1) := by decide +kernel
theorem dJ13_bitCount_95d88_2 : decode cJ13_bitCount_95d88 2 = .ok (.iconst 1, 1) := by decide +kernel
theorem dJ13_bitCount_95d88_3 : decode cJ13_bitCount_95d88 3 = .ok (.lushr, 1) := by decide +kernel
theorem dJ13_bitCount_95d88_4 : decode cJ13_bitCount_95d88 4 = .ok (.ldc2_w 314, 3) := by decide +kernel
theorem dJ13_bitCount_95d88_7 : decode cJ13_bitCount_95d88 7 = .ok (.land, 1) := by decide +kernel
theorem dJ13_bitCount_95d88_8 : decode cJ13_bitCount_95d88 8 = .ok (.lsub, 1) := by decide +kernel
theorem dJ13_bitCount_95d88_9 : decode cJ13_bitCount_95d88 9 = .ok (.lstore_n 0, 1) := by decide +kernel
theorem dJ13_bitCount_95d88_10 : decode cJ13_bitCount_95d88 10 = .ok (.lload_n 0, 1) := by decide +kernel
theorem dJ13_bitCount_95d88_11 : decode cJ13_bitCount_95d88 11 = .ok (.ldc2_w 316, 3) := by decide +kernel
theorem dJ13_bitCount_95d88_14 : decode cJ13_bitCount_95d88 14 = .ok (.land, 1) := by decide +kernel
theorem dJ13_bitCount_95d88_15 : decode cJ13_bitCount_95d88 15 = .ok (.lload_n 0, 1) := by decide +kernel
theorem dJ13_bitCount_95d88_16 : decode cJ13_bitCount_95d88 16 = .ok (.iconst 2, 1) := by decide +kernel
theorem dJ13_bitCount_95d88_17 : decode cJ13_bitCount_95d88 17 = .ok (.lushr, 1) := by decide +kernel
theorem dJ13_bitCount_95d88_18 : decode cJ13_bitCount_95d88 18 = .ok (.ldc2_w 316, 3) := by decide +kernel
theorem dJ13_bitCount_95d88_21 : decode cJ13_bitCount_95d88 21 = .ok (.land, 1) := by decide +kernel
theorem dJ13_bitCount_95d88_22 : decode cJ13_bitCount_95d88 22 = .ok (.ladd, 1) := by decide +kernel
theorem dJ13_bitCount_95d88_23 : decode cJ13_bitCount_95d88 23 = .ok (.lstore_n 0, 1) := by decide +kernel
theorem dJ13_bitCount_95d88_24 : decode cJ13_bitCount_95d88 24 = .ok (.lload_n 0, 1) := by decide +kernel
theorem dJ13_bitCount_95d88_25 : decode cJ13_bitCount_95d88 25 = .ok (.lload_n 0, 1) := by decide +kernel
theorem dJ13_bitCount_95d88_26 : decode cJ13_bitCount_95d88 26 = .ok (.iconst 4, 1) := by decide +kernel
theorem dJ13_bitCount_95d88_27 : decode cJ13_bitCount_95d88 27 = .ok (.lushr, 1) := by decide +kernel
theorem dJ13_bitCount_95d88_28 : decode cJ13_bitCount_95d88 28 = .ok (.ladd, 1) := by decide +kernel
theorem dJ13_bitCount_95d88_29 : decode cJ13_bitCount_95d88 29 = .ok (.ldc2_w 318, 3) := by decide +kernel
theorem dJ13_bitCount_95d88_32 : decode cJ13_bitCount_95d88 32 = .ok (.land, 1) := by decide +kernel
theorem dJ13_bitCount_95d88_33 : decode cJ13_bitCount_95d88 33 = .ok (.lstore_n 0, 1) := by decide +kernel
theorem dJ13_bitCount_95d88_34 : decode cJ13_bitCount_95d88 34 = .ok (.lload_n 0, 1) := by decide +kernel
theorem dJ13_bitCount_95d88_35 : decode cJ13_bitCount_95d88 35 = .ok (.lload_n 0, 1) := by decide +kernel
theorem dJ13_bitCount_95d88_36 : decode cJ13_bitCount_95d88 36 = .ok (.bipush 8, 2) := by decide +kernel
theorem dJ13_bitCount_95d88_38 : decode cJ13_bitCount_95d88 38 = .ok (.lushr, 1) := by decide +kernel
theorem dJ13_bitCount_95d88_39 : decode cJ13_bitCount_95d88 39 = .ok (.ladd, 1) := by decide +kernel
theorem dJ13_bitCount_95d88_40 : decode cJ13_bitCount_95d88 40 = .ok (.lstore_n 0, 1) := by decide +kernel
theorem dJ13_bitCount_95d88_41 : decode cJ13_bitCount_95d88 41 = .ok (.lload_n 0, 1) := by decide +kernel
theorem dJ13_bitCount_95d88_42 : decode cJ13_bitCount_95d88 42 = .ok (.lload_n 0, 1) := by decide +kernel
theorem dJ13_bitCount_95d88_43 : decode cJ13_bitCount_95d88 43 = .ok (.bipush 16, 2) := by decide +kernel
theorem dJ13_bitCount_95d88_45 : decode cJ13_bitCount_95d88 45 = .ok (.lushr, 1) := by decide +kernel
theorem dJ13_bitCount_95d88_46 : decode cJ13_bitCount_95d88 46 = .ok (.ladd, 1) := by decide +kernel
theorem dJ13_bitCount_95d88_47 : decode cJ13_bitCount_95d88 47 = .ok (.lstore_n 0, 1) := by decide +kernel
theorem dJ13_bitCount_95d88_48 : decode cJ13_bitCount_95d88 48 = .ok (.lload_n 0, 1) := by decide +kernel
theorem dJ13_bitCount_95d88_49 : decode cJ13_bitCount_95d88 49 = .ok (.lload_n 0, 1) := by decide +kernel
theorem dJ13_bitCount_95d88_50 : decode cJ13_bitCount_95d88 50 = .ok (.bipush 32, 2) := by decide +kernel
theorem dJ13_bitCount_95d88_52 : decode cJ13_bitCount_95d88 52 = .ok (.lushr, 1) := by decide +kernel
theorem dJ13_bitCount_95d88_53 : decode cJ13_bitCount_95d88 53 = .ok (.ladd, 1) := by decide +kernel
theorem dJ13_bitCount_95d88_54 : decode cJ13_bitCount_95d88 54 = .ok (.lstore_n 0, 1) := by decide +kernel
theorem dJ13_bitCount_95d88_55 : decode cJ13_bitCount_95d88 55 = .ok (.lload_n 0, 1) := by decide +kernel
theorem dJ13_bitCount_95d88_56 : decode cJ13_bitCount_95d88 56 = .ok (.l2i, 1) := by decide +kernel
theorem dJ13_bitCount_95d88_57 : decode cJ13_bitCount_95d88 57 = .ok (.bipush 127, 2) := by decide +kernel
theorem dJ13_bitCount_95d88_59 : decode cJ13_bitCount_95d88 59 = .ok (.iand, 1) := by decide +kernel
theorem dJ13_bitCount_95d88_60 : decode cJ13_bitCount_95d88 60 = .ok (.ireturn, 1) := by decide +kernel
theorem dJ9_floorMod_7cf53_0 : decode cJ9_floorMod_7cf53 0 = .ok (.iload_n 0, 1) := by decide +kernel
theorem dJ9_floorMod_7cf53_1 : decode cJ9_floorMod_7cf53 1 = .ok (.iload_n 1, 1) := by decide +kernel
theorem dJ9_floorMod_7cf53_2 : decode cJ9_floorMod_7cf53 2 = .ok (.irem, 1) := by decide +kernel
theorem dJ9_floorMod_7cf53_3 : decode cJ9_floorMod_7cf53 3 = .ok (.istore_n 2, 1) := by decide +kernel
theorem dJ9_floorMod_7cf53_4 : decode cJ9_floorMod_7cf53 4 = .ok (.iload_n 0, 1) := by decide +kernel
theorem dJ9_floorMod_7cf53_5 : decode cJ9_floorMod_7cf53 5 = .ok (.iload_n 1, 1) := by decide +kernel
theorem dJ9_floorMod_7cf53_6 : decode cJ9_floorMod_7cf53 6 = .ok (.ixor, 1) := by decide +kernel
theorem dJ9_floorMod_7cf53_7 : decode cJ9_floorMod_7cf53 7 = .ok (.ifCond .ge 11, 3) := by decide +kernel
theorem dJ9_floorMod_7cf53_10 : decode cJ9_floorMod_7cf53 10 = .ok (.iload_n 2, 1) := by decide +kernel
theorem dJ9_floorMod_7cf53_11 : decode cJ9_floorMod_7cf53 11 = .ok (.ifCond .eq 7, 3) := by decide +kernel
theorem dJ9_floorMod_7cf53_14 : decode cJ9_floorMod_7cf53 14 = .ok (.iload_n 2, 1) := by decide +kernel
theorem dJ9_floorMod_7cf53_15 : decode cJ9_floorMod_7cf53 15 = .ok (.iload_n 1, 1) := by decide +kernel
theorem dJ9_floorMod_7cf53_16 : decode cJ9_floorMod_7cf53 16 = .ok (.iadd, 1) := by decide +kernel
theorem dJ9_floorMod_7cf53_17 : decode cJ9_floorMod_7cf53 17 = .ok (.ireturn, 1) := by decide +kernel
theorem dJ9_floorMod_7cf53_18 : decode cJ9_floorMod_7cf53 18 = .ok (.iload_n 2, 1) := by decide +kernel
theorem dJ9_floorMod_7cf53_19 : decode cJ9_floorMod_7cf53 19 = .ok (.ireturn, 1) := by decide +kernel
theorem dJ9_abs_0f7a4_0 : decode cJ9_abs_0f7a4 0 = .ok (.iload_n 0, 1) := by decide +kernel
theorem dJ9_abs_0f7a4_1 : decode cJ9_abs_0f7a4 1 = .ok (.ifCond .ge 8, 3) := by decide +kernel
theorem dJ9_abs_0f7a4_4 : decode cJ9_abs_0f7a4 4 = .ok (.iload_n 0, 1) := by decide +kernel
theorem dJ9_abs_0f7a4_5 : decode cJ9_abs_0f7a4 5 = .ok (.ineg, 1) := by decide +kernel
theorem dJ9_abs_0f7a4_6 : decode cJ9_abs_0f7a4 6 = .ok (.goto 4, 3) := by decide +kernel
theorem dJ9_abs_0f7a4_9 : decode cJ9_abs_0f7a4 9 = .ok (.iload_n 0, 1) := by decide +kernel
theorem dJ9_abs_0f7a4_10 : decode cJ9_abs_0f7a4 10 = .ok (.ireturn, 1) := by decide +kernel
theorem dJ9_max_7cf53_0 : decode cJ9_max_7cf53 0 = .ok (.iload_n 0, 1) := by decide +kernel
theorem dJ9_max_7cf53_1 : decode cJ9_max_7cf53 1 = .ok (.iload_n 1, 1) := by decide +kernel
theorem dJ9_max_7cf53_2 : decode cJ9_max_7cf53 2 = .ok (.if_icmp .lt 7, 3) := by decide +kernel
theorem dJ9_max_7cf53_5 : decode cJ9_max_7cf53 5 = .ok (.iload_n 0, 1) := by decide +kernel
theorem dJ9_max_7cf53_6 : decode cJ9_max_7cf53 6 = .ok (.goto 4, 3) := by decide +kernel
theorem dJ9_max_7cf53_9 : decode cJ9_max_7cf53 9 = .ok (.iload_n 1, 1) := by decide +kernel
theorem dJ9_max_7cf53_10 : decode cJ9_max_7cf53 10 = .ok (.ireturn, 1) := by decide +kernel
theorem dJ9_min_7cf53_0 : decode cJ9_min_7cf53 0 = .ok (.iload_n 0, 1) := by decide +kernel
theorem dJ9_min_7cf53_1 : decode cJ9_min_7cf53 1 = .ok (.iload_n 1, 1) := by decide +kernel
theorem dJ9_min_7cf53_2 : decode cJ9_min_7cf53 2 = .ok (.if_icmp .gt 7, 3) := by decide +kernel
theorem dJ9_min_7cf53_5 : decode cJ9_min_7cf53 5 = .ok (.iload_n 0, 1) := by decide +kernel
theorem dJ9_min_7cf53_6 : decode cJ9_min_7cf53 6 = .ok (.goto 4, 3) := by decide +kernel
theorem dJ9_min_7cf53_9 : decode cJ9_min_7cf53 9 = .ok (.iload_n 1, 1) := by decide +kernel
theorem dJ9_min_7cf53_10 : decode cJ9_min_7cf53 10 = .ok (.ireturn, 1) := by decide +kernel
theorem dJ0_length_8abf5_0 : decode cJ0_length_8abf5 0 = .ok (.aload_n 0, 1) := by decide +kernel
theorem dJ0_length_8abf5_1 : decode cJ0_length_8abf5 1 = .ok (.getfield 9, 3) := by decide +kernel
theorem dJ0_length_8abf5_4 : decode cJ0_length_8abf5 4 = .ok (.arraylength, 1) := by decide +kernel
theorem dJ0_length_8abf5_5 : decode cJ0_length_8abf5 5 = .ok (.aload_n 0, 1) := by decide +kernel
theorem dJ0_length_8abf5_6 : decode cJ0_length_8abf5 6 = .ok (.invokevirtual 335, 3) := by decide +kernel
theorem dJ0_length_8abf5_9 : decode cJ0_length_8abf5 9 = .ok (.ishr, 1) := by decide +kernel
theorem dJ0_length_8abf5_10 : decode cJ0_length_8abf5 10 = .ok (.ireturn, 1) := by decide +kernel
theorem dJ0_charAt_5068e_0 : decode cJ0_charAt_5068e 0 = .ok (.aload_n 0, 1) := by decide +kernel
theorem dJ0_charAt_5068e_1 : decode cJ0_charAt_5068e 1 = .ok (.invokevirtual 492, 3) := by decide +kernel
theorem dJ0_charAt_5068e_4 : decode cJ0_charAt_5068e 4 = .ok (.ifCond .eq 12, 3) := by decide +kernel
theorem dJ0_charAt_5068e_7 : decode cJ0_charAt_5068e 7 = .ok (.aload_n 0, 1) := by decide +kernel
theorem dJ0_charAt_5068e_8 : decode cJ0_charAt_5068e 8 = .ok (.getfield 9, 3) := by decide +kernel
theorem dJ0_charAt_5068e_11 : decode cJ0_charAt_5068e 11 = .ok (.iload_n 1, 1) := by decide +kernel
theorem dJ0_charAt_5068e_12 : decode cJ0_charAt_5068e 12 = .ok (.invokestatic 495, 3) := by decide +kernel
theorem dJ0_charAt_5068e_15 : decode cJ0_charAt_5068e 15 = .ok (.ireturn, 1) := by decide +kernel
theorem dJ0_charAt_5068e_16 : decode cJ0_charAt_5068e 16 = .ok (.aload_n 0, 1) := by decide +kernel
theorem dJ0_charAt_5068e_17 : decode cJ0_charAt_5068e 17 = .ok (.getfield 9, 3) := by decide +kernel
theorem dJ0_charAt_5068e_20 : decode cJ0_charAt_5068e 20 = .ok (.iload_n 1, 1) := by decide +kernel
theorem dJ0_charAt_5068e_21 : decode cJ0_charAt_5068e 21 = .ok (.invokestatic 498, 3) := by decide +kernel
theorem dJ0_charAt_5068e_24 : decode cJ0_charAt_5068e 24 = .ok (.ireturn, 1) := by decide +kernel
theorem dJ0_coder_7d493_0 : decode cJ0_coder_7d493 0 = .ok (.getstatic 38, 3) := by decide +kernel
theorem dJ0_coder_7d493_3 : decode cJ0_coder_7d493 3 = .ok (.ifCond .eq 10, 3) := by decide +kernel
theorem dJ0_coder_7d493_6 : decode cJ0_coder_7d493 6 = .ok (.aload_n 0, 1) := by decide +kernel
theorem dJ0_coder_7d493_7 : decode cJ0_coder_7d493 7 = .ok (.getfield 15, 3) := by decide +kernel
theorem dJ0_coder_7d493_10 : decode cJ0_coder_7d493 10 = .ok (.goto 4, 3) := by decide +kernel
theorem dJ0_coder_7d493_13 : decode cJ0_coder_7d493 13 = .ok (.iconst 1, 1) := by decide +kernel
theorem dJ0_coder_7d493_14 : decode cJ0_coder_7d493 14 = .ok (.ireturn, 1) := by decide +kernel
theorem dJ0_isLatin1_aae02_0 : decode cJ0_isLatin1_aae02 0 = .ok (.getstatic 38, 3) := by decide +kernel
theorem dJ0_isLatin1_aae02_3 : decode cJ0_isLatin1_aae02 3 = .ok (.ifCond .eq 14, 3) := by decide +kernel
theorem dJ0_isLatin1_aae02_6 : decode cJ0_isLatin1_aae02 6 = .ok (.aload_n 0, 1) := by decide +kernel
theorem dJ0_isLatin1_aae02_7 : decode cJ0_isLatin1_aae02 7 = .ok (.getfield 15, 3) := by decide +kernel
theorem dJ0_isLatin1_aae02_10 : decode cJ0_isLatin1_aae02 10 = .ok (.ifCond .ne 7, 3) := by decide +kernel
theorem dJ0_isLatin1_aae02_13 : decode cJ0_isLatin1_aae02 13 = .ok (.iconst 1, 1) := by decide +kernel
theorem dJ0_isLatin1_aae02_14 : decode cJ0_isLatin1_aae02 14 = .ok (.goto 4, 3) := by decide +kernel
theorem dJ0_isLatin1_aae02_17 : decode cJ0_isLatin1_aae02 17 = .ok (.iconst 0, 1) := by decide +kernel
theorem dJ0_isLatin1_aae02_18 : decode cJ0_isLatin1_aae02 18 = .ok (.ireturn, 1) := by decide +kernel
theorem dJ0_checkIndex_df160_0 : decode cJ0_checkIndex_df160 0 = .ok (.iload_n 0, 1) := by decide +kernel
theorem dJ0_checkIndex_df160_1 : decode cJ0_checkIndex_df160 1 = .ok (.iload_n 1, 1) := by decide +kernel
theorem dJ0_checkIndex_df160_2 : decode cJ0_checkIndex_df160 2 = .ok (.getstatic 1053, 3) := by decide +kernel
theorem dJ0_checkIndex_df160_5 : decode cJ0_checkIndex_df160 5 = .ok (.invokestatic 1059, 3) := by decide +kernel
theorem dJ0_checkIndex_df160_8 : decode cJ0_checkIndex_df160 8 = .ok (.pop, 1) := by decide +kernel
theorem dJ0_checkIndex_df160_9 : decode cJ0_checkIndex_df160 9 = .ok (.return_, 1) := by decide +kernel
theorem dJ1_charAt_3b067_0 : decode cJ1_charAt_3b067 0 = .ok (.iload_n 1, 1) := by decide +kernel
theorem dJ1_charAt_3b067_1 : decode cJ1_charAt_3b067 1 = .ok (.aload_n 0, 1) := by decide +kernel
theorem dJ1_charAt_3b067_2 : decode cJ1_charAt_3b067 2 = .ok (.arraylength, 1) := by decide +kernel
theorem dJ1_charAt_3b067_3 : decode cJ1_charAt_3b067 3 = .ok (.invokestatic 9, 3) := by decide +kernel
theorem dJ1_charAt_3b067_6 : decode cJ1_charAt_3b067 6 = .ok (.aload_n 0, 1) := by decide +kernel
theorem dJ1_charAt_3b067_7 : decode cJ1_charAt_3b067 7 = .ok (.iload_n 1, 1) := by decide +kernel
theorem dJ1_charAt_3b067_8 : decode cJ1_charAt_3b067 8 = .ok (.baload, 1) := by decide +kernel
theorem dJ1_charAt_3b067_9 : decode cJ1_charAt_3b067 9 = .ok (.sipush 255, 3) := by decide +kernel
theorem dJ1_charAt_3b067_12 : decode cJ1_charAt_3b067 12 = .ok (.iand, 1) := by decide +kernel
theorem dJ1_charAt_3b067_13 : decode cJ1_charAt_3b067 13 = .ok (.i2c, 1) := by decide +kernel
theorem dJ1_charAt_3b067_14 : decode cJ1_charAt_3b067 14 = .ok (.ireturn, 1) := by decide +kernel
theorem dJ2_getChar_3b067_0 : decode cJ2_getChar_3b067 0 = .ok (.getstatic 44, 3) := by decide +kernel
theorem dJ2_getChar_3b067_3 : decode cJ2_getChar_3b067 3 = .ok (.ifCond .ne 25, 3) := by decide +kernel
theorem dJ2_getChar_3b067_6 : decode cJ2_getChar_3b067 6 = .ok (.iload_n 1, 1) := by decide +kernel
theorem dJ2_getChar_3b067_7 : decode cJ2_getChar_3b067 7 = .ok (.ifCond .lt 11, 3) := by decide +kernel
theorem dJ2_getChar_3b067_10 : decode cJ2_getChar_3b067 10 = .ok (.iload_n 1, 1) := by decide +kernel
theorem dJ2_getChar_3b067_11 : decode cJ2_getChar_3b067 11 = .ok (.aload_n 0, 1) := by decide +kernel
theorem dJ2_getChar_3b067_12 : decode cJ2_getChar_3b067 12 = .ok (.invokestatic 48, 3) := by decide +kernel
theorem dJ2_getChar_3b067_15 : decode cJ2_getChar_3b067 15 = .ok (.if_icmp .lt 13, 3) := by decide +kernel
theorem dJ2_getChar_3b067_18 : decode cJ2_getChar_3b067 18 = .ok (.new 52, 3) := by decide +kernel
theorem dJ2_getChar_3b067_21 : decode cJ2_getChar_3b067 21 = .ok (.dup, 1) := by decide +kernel
theorem dJ2_getChar_3b067_22 : decode cJ2_getChar_3b067 22 = .ok (.ldc 54, 2) := by decide +kernel
theorem dJ2_getChar_3b067_24 : decode cJ2_getChar_3b067 24 = .ok (.invokespecial 56, 3) := by decide +kernel
theorem dJ2_getChar_3b067_27 : decode cJ2_getChar_3b067 27 = .ok (.athrow, 1) := by decide +kernel
theorem dJ2_getChar_3b067_28 : decode cJ2_getChar_3b067 28 = .ok (.iload_n 1, 1) := by decide +kernel
theorem dJ2_getChar_3b067_29 : decode cJ2_getChar_3b067 29 = .ok (.iconst 1, 1) := by decide +kernel
theorem dJ2_getChar_3b067_30 : decode cJ2_getChar_3b067 30 = .ok (.ishl, 1) := by decide +kernel
theorem dJ2_getChar_3b067_31 : decode cJ2_getChar_3b067 31 = .ok (.istore_n 1, 1) := by decide +kernel
theorem dJ2_getChar_3b067_32 : decode cJ2_getChar_3b067 32 = .ok (.aload_n 0, 1) := by decide +kernel
theorem dJ2_getChar_3b067_33 : decode cJ2_getChar_3b067 33 = .ok (.iload_n 1, 1) := by decide +kernel
theorem dJ2_getChar_3b067_34 : decode cJ2_getChar_3b067 34 = .ok (.iinc 1 1, 3) := by decide +kernel
theorem dJ2_getChar_3b067_37 : decode cJ2_getChar_3b067 37 = .ok (.baload, 1) := by decide +kernel
theorem dJ2_getChar_3b067_38 : decode cJ2_getChar_3b067 38 = .ok (.sipush 255, 3) := by decide +kernel
theorem dJ2_getChar_3b067_41 : decode cJ2_getChar_3b067 41 = .ok (.iand, 1) := by decide +kernel
theorem dJ2_getChar_3b067_42 : decode cJ2_getChar_3b067 42 = .ok (.getstatic 59, 3) := by decide +kernel
theorem dJ2_getChar_3b067_45 : decode cJ2_getChar_3b067 45 = .ok (.ishl, 1) := by decide +kernel
theorem dJ2_getChar_3b067_46 : decode cJ2_getChar_3b067 46 = .ok (.aload_n 0, 1) := by decide +kernel
theorem dJ2_getChar_3b067_47 : decode cJ2_getChar_3b067 47 = .ok (.iload_n 1, 1) := by decide +kernel
theorem dJ2_getChar_3b067_48 : decode cJ2_getChar_3b067 48 = .ok (.baload, 1) := by decide +kernel
theorem dJ2_getChar_3b067_49 : decode cJ2_getChar_3b067 49 = .ok (.sipush 255, 3) := by decide +kernel
theorem dJ2_getChar_3b067_52 : decode cJ2_getChar_3b067 52 = .ok (.iand, 1) := by decide +kernel
theorem dJ2_getChar_3b067_53 : decode cJ2_getChar_3b067 53 = .ok (.getstatic 63, 3) := by decide +kernel
theorem dJ2_getChar_3b067_56 : decode cJ2_getChar_3b067 56 = .ok (.ishl, 1) := by decide +kernel
theorem dJ2_getChar_3b067_57 : decode cJ2_getChar_3b067 57 = .ok (.ior, 1) := by decide +kernel
theorem dJ2_getChar_3b067_58 : decode cJ2_getChar_3b067 58 = .ok (.i2c, 1) := by decide +kernel
theorem dJ2_getChar_3b067_59 : decode cJ2_getChar_3b067 59 = .ok (.ireturn, 1) := by decide +kernel
theorem dJ2_length_9d52b_0 : decode cJ2_length_9d52b 0 = .ok (.aload_n 0, 1) := by decide +kernel
theorem dJ2_length_9d52b_1 : decode cJ2_length_9d52b 1 = .ok (.arraylength, 1) := by decide +kernel
theorem dJ2_length_9d52b_2 : decode cJ2_length_9d52b 2 = .ok (.iconst 1, 1) := by decide +kernel
theorem dJ2_length_9d52b_3 : decode cJ2_length_9d52b 3 = .ok (.ishr, 1) := by decide +kernel
theorem dJ2_length_9d52b_4 : decode cJ2_length_9d52b 4 = .ok (.ireturn, 1) := by decide +kernel
theorem dJ2_charAt_3b067_0 : decode cJ2_charAt_3b067 0 = .ok (.iload_n 1, 1) := by decide +kernel
theorem dJ2_charAt_3b067_1 : decode cJ2_charAt_3b067 1 = .ok (.aload_n 0, 1) := by decide +kernel
theorem dJ2_charAt_3b067_2 : decode cJ2_charAt_3b067 2 = .ok (.invokestatic 67, 3) := by decide +kernel
theorem dJ2_charAt_3b067_5 : decode cJ2_charAt_3b067 5 = .ok (.aload_n 0, 1) := by decide +kernel
theorem dJ2_charAt_3b067_6 : decode cJ2_charAt_3b067 6 = .ok (.iload_n 1, 1) := by decide +kernel
theorem dJ2_charAt_3b067_7 : decode cJ2_charAt_3b067 7 = .ok (.invokestatic 71, 3) := by decide +kernel
theorem dJ2_charAt_3b067_10 : decode cJ2_charAt_3b067 10 = .ok (.ireturn, 1) := by decide +kernel
theorem dJ2_checkIndex_2214a_0 : decode cJ2_checkIndex_2214a 0 = .ok (.iload_n 0, 1) := by decide +kernel
theorem dJ2_checkIndex_2214a_1 : decode cJ2_checkIndex_2214a 1 = .ok (.aload_n 1, 1) := by decide +kernel
theorem dJ2_checkIndex_2214a_2 : decode cJ2_checkIndex_2214a 2 = .ok (.invokestatic 48, 3) := by decide +kernel
theorem dJ2_checkIndex_2214a_5 : decode cJ2_checkIndex_2214a 5 = .ok (.invokestatic 414, 3) := by decide +kernel
theorem dJ2_checkIndex_2214a_8 : decode cJ2_checkIndex_2214a 8 = .ok (.return_, 1) := by decide +kernel
theorem dJ7_fill_53178_0 : decode cJ7_fill_53178 0 = .ok (.iconst 0, 1) := by decide +kernel
theorem dJ7_fill_53178_1 : decode cJ7_fill_53178 1 = .ok (.istore_n 2, 1) := by decide +kernel
theorem dJ7_fill_53178_2 : decode cJ7_fill_53178 2 = .ok (.aload_n 0, 1) := by decide +kernel
theorem dJ7_fill_53178_3 : decode cJ7_fill_53178 3 = .ok (.arraylength, 1) := by decide +kernel
theorem dJ7_fill_53178_4 : decode cJ7_fill_53178 4 = .ok (.istore_n 3, 1) := by decide +kernel
theorem dJ7_fill_53178_5 : decode cJ7_fill_53178 5 = .ok (.iload_n 2, 1) := by decide +kernel
theorem dJ7_fill_53178_6 : decode cJ7_fill_53178 6 = .ok (.iload_n 3, 1) := by decide +kernel
theorem dJ7_fill_53178_7 : decode cJ7_fill_53178 7 = .ok (.if_icmp .ge 13, 3) := by decide +kernel
theorem dJ7_fill_53178_10 : decode cJ7_fill_53178 10 = .ok (.aload_n 0, 1) := by decide +kernel
theorem dJ7_fill_53178_11 : decode cJ7_fill_53178 11 = .ok (.iload_n 2, 1) := by decide +kernel
theorem dJ7_fill_53178_12 : decode cJ7_fill_53178 12 = .ok (.iload_n 1, 1) := by decide +kernel
theorem dJ7_fill_53178_13 : decode cJ7_fill_53178 13 = .ok (.iastore, 1) := by decide +kernel
theorem dJ7_fill_53178_14 : decode cJ7_fill_53178 14 = .ok (.iinc 2 1, 3) := by decide +kernel
theorem dJ7_fill_53178_17 : decode cJ7_fill_53178 17 = .ok (.goto (-12), 3) := by decide +kernel
theorem dJ7_fill_53178_20 : decode cJ7_fill_53178 20 = .ok (.return_, 1) := by decide +kernel
theorem dJ7_copyOf_59c91_0 : decode cJ7_copyOf_59c91 0 = .ok (.iload_n 1, 1) := by decide +kernel
theorem dJ7_copyOf_59c91_1 : decode cJ7_copyOf_59c91 1 = .ok (.aload_n 0, 1) := by decide +kernel
theorem dJ7_copyOf_59c91_2 : decode cJ7_copyOf_59c91 2 = .ok (.arraylength, 1) := by decide +kernel
theorem dJ7_copyOf_59c91_3 : decode cJ7_copyOf_59c91 3 = .ok (.if_icmp .ne 11, 3) := by decide +kernel
theorem dJ7_copyOf_59c91_6 : decode cJ7_copyOf_59c91 6 = .ok (.aload_n 0, 1) := by decide +kernel
theorem dJ7_copyOf_59c91_7 : decode cJ7_copyOf_59c91 7 = .ok (.invokevirtual 316, 3) := by decide +kernel
theorem dJ7_copyOf_59c91_10 : decode cJ7_copyOf_59c91 10 = .ok (.checkcast 317, 3) := by decide +kernel
theorem dJ7_copyOf_59c91_13 : decode cJ7_copyOf_59c91 13 = .ok (.areturn, 1) := by decide +kernel
theorem dJ7_copyOf_59c91_14 : decode cJ7_copyOf_59c91 14 = .ok (.iload_n 1, 1) := by decide +kernel
theorem dJ7_copyOf_59c91_15 : decode cJ7_copyOf_59c91 15 = .ok (.newarray .int, 2) := by decide +kernel
theorem dJ7_copyOf_59c91_17 : decode cJ7_copyOf_59c91 17 = .ok (.astore_n 2, 1) := by decide +kernel
theorem dJ7_copyOf_59c91_18 : decode cJ7_copyOf_59c91 18 = .ok (.aload_n 0, 1) := by decide +kernel
theorem dJ7_copyOf_59c91_19 : decode cJ7_copyOf_59c91 19 = .ok (.iconst 0, 1) := by decide +kernel
theorem dJ7_copyOf_59c91_20 : decode cJ7_copyOf_59c91 20 = .ok (.aload_n 2, 1) := by decide +kernel
theorem dJ7_copyOf_59c91_21 : decode cJ7_copyOf_59c91 21 = .ok (.iconst 0, 1) := by decide +kernel
theorem dJ7_copyOf_59c91_22 : decode cJ7_copyOf_59c91 22 = .ok (.aload_n 0, 1) := by decide +kernel
theorem dJ7_copyOf_59c91_23 : decode cJ7_copyOf_59c91 23 = .ok (.arraylength, 1) := by decide +kernel
theorem dJ7_copyOf_59c91_24 : decode cJ7_copyOf_59c91 24 = .ok (.iload_n 1, 1) := by decide +kernel
theorem dJ7_copyOf_59c91_25 : decode cJ7_copyOf_59c91 25 = .ok (.invokestatic 304, 3) := by decide +kernel
theorem dJ7_copyOf_59c91_28 : decode cJ7_copyOf_59c91 28 = .ok (.invokestatic 150, 3) := by decide +kernel
theorem dJ7_copyOf_59c91_31 : decode cJ7_copyOf_59c91 31 = .ok (.aload_n 2, 1) := by decide +kernel
theorem dJ7_copyOf_59c91_32 : decode cJ7_copyOf_59c91 32 = .ok (.areturn, 1) := by decide +kernel
theorem dJ3_checkIndex_8e157_0 : decode cJ3_checkIndex_8e157 0 = .ok (.iload_n 0, 1) := by decide +kernel
theorem dJ3_checkIndex_8e157_1 : decode cJ3_checkIndex_8e157 1 = .ok (.ifCond .lt 8, 3) := by decide +kernel
theorem dJ3_checkIndex_8e157_4 : decode cJ3_checkIndex_8e157 4 = .ok (.iload_n 0, 1) := by decide +kernel
theorem dJ3_checkIndex_8e157_5 : decode cJ3_checkIndex_8e157 5 = .ok (.iload_n 1, 1) := by decide +kernel
theorem dJ3_checkIndex_8e157_6 : decode cJ3_checkIndex_8e157 6 = .ok (.if_icmp .lt 10, 3) := by decide +kernel
theorem dJ3_checkIndex_8e157_9 : decode cJ3_checkIndex_8e157 9 = .ok (.aload_n 2, 1) := by decide +kernel
theorem dJ3_checkIndex_8e157_10 : decode cJ3_checkIndex_8e157 10 = .ok (.iload_n 0, 1) := by decide +kernel
theorem dJ3_checkIndex_8e157_11 : decode cJ3_checkIndex_8e157 11 = .ok (.iload_n 1, 1) := by decide +kernel
theorem dJ3_checkIndex_8e157_12 : decode cJ3_checkIndex_8e157 12 = .ok (.invokestatic 95, 3) := by decide +kernel
theorem dJ3_checkIndex_8e157_15 : decode cJ3_checkIndex_8e157 15 = .ok (.athrow, 1) := by decide +kernel
theorem dJ3_checkIndex_8e157_16 : decode cJ3_checkIndex_8e157 16 = .ok (.iload_n 0, 1) := by decide +kernel
theorem dJ3_checkIndex_8e157_17 : decode cJ3_checkIndex_8e157 17 = .ok (.ireturn, 1) := by decide +kernel
theorem dL_town_0 : decode cL_town 0 = .ok (.aload_n 2, 1) := by decide +kernel
theorem dL_town_1 : decode cL_town 1 = .ok (.iconst 0, 1) := by decide +kernel
theorem dL_town_2 : decode cL_town 2 = .ok (.aload_n 0, 1) := by decide +kernel
theorem dL_town_3 : decode cL_town 3 = .ok (.iload_n 1, 1) := by decide +kernel
theorem dL_town_4 : decode cL_town 4 = .ok (.invokevirtual 7, 3) := by decide +kernel
theorem dL_town_7 : decode cL_town 7 = .ok (.i2l, 1) := by decide +kernel
theorem dL_town_8 : decode cL_town 8 = .ok (.lastore, 1) := by decide +kernel
theorem dL_town_9 : decode cL_town 9 = .ok (.goto 6, 3) := by decide +kernel
theorem dL_town_12 : decode cL_town 12 = .ok (.astore_n 3, 1) := by decide +kernel
theorem dL_town_13 : decode cL_town 13 = .ok (.iconst 1, 1) := by decide +kernel
theorem dL_town_14 : decode cL_town 14 = .ok (.ireturn, 1) := by decide +kernel
theorem dL_town_15 : decode cL_town 15 = .ok (.iconst 0, 1) := by decide +kernel
theorem dL_town_16 : decode cL_town 16 = .ok (.ireturn, 1) := by decide +kernel
theorem dL_count_0 : decode cL_count 0 = .ok (.aload_n 2, 1) := by decide +kernel
theorem dL_count_1 : decode cL_count 1 = .ok (.iconst 0, 1) := by decide +kernel
theorem dL_count_2 : decode cL_count 2 = .ok (.aload_n 0, 1) := by decide +kernel
theorem dL_count_3 : decode cL_count 3 = .ok (.iload_n 1, 1) := by decide +kernel
theorem dL_count_4 : decode cL_count 4 = .ok (.invokevirtual 15, 3) := by decide +kernel
theorem dL_count_7 : decode cL_count 7 = .ok (.i2l, 1) := by decide +kernel
theorem dL_count_8 : decode cL_count 8 = .ok (.lastore, 1) := by decide +kernel
theorem dL_count_9 : decode cL_count 9 = .ok (.goto 6, 3) := by decide +kernel
theorem dL_count_12 : decode cL_count 12 = .ok (.astore_n 3, 1) := by decide +kernel
theorem dL_count_13 : decode cL_count 13 = .ok (.iconst 1, 1) := by decide +kernel
theorem dL_count_14 : decode cL_count 14 = .ok (.ireturn, 1) := by decide +kernel
theorem dL_count_15 : decode cL_count 15 = .ok (.iconst 0, 1) := by decide +kernel
theorem dL_count_16 : decode cL_count 16 = .ok (.ireturn, 1) := by decide +kernel
theorem dL_house_0 : decode cL_house 0 = .ok (.aload_n 3, 1) := by decide +kernel
theorem dL_house_1 : decode cL_house 1 = .ok (.iconst 0, 1) := by decide +kernel
theorem dL_house_2 : decode cL_house 2 = .ok (.aload_n 0, 1) := by decide +kernel
theorem dL_house_3 : decode cL_house 3 = .ok (.iload_n 1, 1) := by decide +kernel
theorem dL_house_4 : decode cL_house 4 = .ok (.iload_n 2, 1) := by decide +kernel
theorem dL_house_5 : decode cL_house 5 = .ok (.invokevirtual 20, 3) := by decide +kernel
theorem dL_house_8 : decode cL_house 8 = .ok (.i2l, 1) := by decide +kernel
theorem dL_house_9 : decode cL_house 9 = .ok (.lastore, 1) := by decide +kernel
theorem dL_house_10 : decode cL_house 10 = .ok (.goto 7, 3) := by decide +kernel
theorem dL_house_13 : decode cL_house 13 = .ok (.astore 4, 2) := by decide +kernel
theorem dL_house_15 : decode cL_house 15 = .ok (.iconst 1, 1) := by decide +kernel
theorem dL_house_16 : decode cL_house 16 = .ok (.ireturn, 1) := by decide +kernel
theorem dL_house_17 : decode cL_house 17 = .ok (.iconst 0, 1) := by decide +kernel
theorem dL_house_18 : decode cL_house 18 = .ok (.ireturn, 1) := by decide +kernel
theorem dL_person_0 : decode cL_person 0 = .ok (.aload_n 3, 1) := by decide +kernel
theorem dL_person_1 : decode cL_person 1 = .ok (.iconst 0, 1) := by decide +kernel
theorem dL_person_2 : decode cL_person 2 = .ok (.aload_n 0, 1) := by decide +kernel
theorem dL_person_3 : decode cL_person 3 = .ok (.iload_n 1, 1) := by decide +kernel
theorem dL_person_4 : decode cL_person 4 = .ok (.iload_n 2, 1) := by decide +kernel
theorem dL_person_5 : decode cL_person 5 = .ok (.invokevirtual 24, 3) := by decide +kernel
theorem dL_person_8 : decode cL_person 8 = .ok (.i2l, 1) := by decide +kernel
theorem dL_person_9 : decode cL_person 9 = .ok (.lastore, 1) := by decide +kernel
theorem dL_person_10 : decode cL_person 10 = .ok (.goto 7, 3) := by decide +kernel
theorem dL_person_13 : decode cL_person 13 = .ok (.astore 4, 2) := by decide +kernel
theorem dL_person_15 : decode cL_person 15 = .ok (.iconst 1, 1) := by decide +kernel
theorem dL_person_16 : decode cL_person 16 = .ok (.ireturn, 1) := by decide +kernel
theorem dL_person_17 : decode cL_person 17 = .ok (.iconst 0, 1) := by decide +kernel
theorem dL_person_18 : decode cL_person 18 = .ok (.ireturn, 1) := by decide +kernel
theorem dL_eases_0 : decode cL_eases 0 = .ok (.aload_n 3, 1) := by decide +kernel
theorem dL_eases_1 : decode cL_eases 1 = .ok (.iconst 0, 1) := by decide +kernel
theorem dL_eases_2 : decode cL_eases 2 = .ok (.aload_n 0, 1) := by decide +kernel
theorem dL_eases_3 : decode cL_eases 3 = .ok (.iload_n 1, 1) := by decide +kernel
theorem dL_eases_4 : decode cL_eases 4 = .ok (.iload_n 2, 1) := by decide +kernel
theorem dL_eases_5 : decode cL_eases 5 = .ok (.invokevirtual 27, 3) := by decide +kernel
theorem dL_eases_8 : decode cL_eases 8 = .ok (.i2l, 1) := by decide +kernel
theorem dL_eases_9 : decode cL_eases 9 = .ok (.lastore, 1) := by decide +kernel
theorem dL_eases_10 : decode cL_eases 10 = .ok (.goto 7, 3) := by decide +kernel
theorem dL_eases_13 : decode cL_eases 13 = .ok (.astore 4, 2) := by decide +kernel
theorem dL_eases_15 : decode cL_eases 15 = .ok (.iconst 1, 1) := by decide +kernel
theorem dL_eases_16 : decode cL_eases 16 = .ok (.ireturn, 1) := by decide +kernel
theorem dL_eases_17 : decode cL_eases 17 = .ok (.iconst 0, 1) := by decide +kernel
theorem dL_eases_18 : decode cL_eases 18 = .ok (.ireturn, 1) := by decide +kernel
theorem dL_putIn_0 : decode cL_putIn 0 = .ok (.aload_n 3, 1) := by decide +kernel
theorem dL_putIn_1 : decode cL_putIn 1 = .ok (.iconst 0, 1) := by decide +kernel
theorem dL_putIn_2 : decode cL_putIn 2 = .ok (.aload_n 0, 1) := by decide +kernel
theorem dL_putIn_3 : decode cL_putIn 3 = .ok (.iload_n 1, 1) := by decide +kernel
theorem dL_putIn_4 : decode cL_putIn 4 = .ok (.iload_n 2, 1) := by decide +kernel
theorem dL_putIn_5 : decode cL_putIn 5 = .ok (.invokevirtual 30, 3) := by decide +kernel
theorem dL_putIn_8 : decode cL_putIn 8 = .ok (.i2l, 1) := by decide +kernel
theorem dL_putIn_9 : decode cL_putIn 9 = .ok (.lastore, 1) := by decide +kernel
theorem dL_putIn_10 : decode cL_putIn 10 = .ok (.goto 7, 3) := by decide +kernel
theorem dL_putIn_13 : decode cL_putIn 13 = .ok (.astore 4, 2) := by decide +kernel
theorem dL_putIn_15 : decode cL_putIn 15 = .ok (.iconst 1, 1) := by decide +kernel
theorem dL_putIn_16 : decode cL_putIn 16 = .ok (.ireturn, 1) := by decide +kernel
theorem dL_putIn_17 : decode cL_putIn 17 = .ok (.iconst 0, 1) := by decide +kernel
theorem dL_putIn_18 : decode cL_putIn 18 = .ok (.ireturn, 1) := by decide +kernel
theorem dL_out_0 : decode cL_out 0 = .ok (.aload_n 2, 1) := by decide +kernel
theorem dL_out_1 : decode cL_out 1 = .ok (.iconst 0, 1) := by decide +kernel
theorem dL_out_2 : decode cL_out 2 = .ok (.aload_n 0, 1) := by decide +kernel
theorem dL_out_3 : decode cL_out 3 = .ok (.iload_n 1, 1) := by decide +kernel
theorem dL_out_4 : decode cL_out 4 = .ok (.invokevirtual 33, 3) := by decide +kernel
theorem dL_out_7 : decode cL_out 7 = .ok (.i2l, 1) := by decide +kernel
theorem dL_out_8 : decode cL_out 8 = .ok (.lastore, 1) := by decide +kernel
theorem dL_out_9 : decode cL_out 9 = .ok (.goto 6, 3) := by decide +kernel
theorem dL_out_12 : decode cL_out 12 = .ok (.astore_n 3, 1) := by decide +kernel
theorem dL_out_13 : decode cL_out 13 = .ok (.iconst 1, 1) := by decide +kernel
theorem dL_out_14 : decode cL_out 14 = .ok (.ireturn, 1) := by decide +kernel
theorem dL_out_15 : decode cL_out 15 = .ok (.iconst 0, 1) := by decide +kernel
theorem dL_out_16 : decode cL_out 16 = .ok (.ireturn, 1) := by decide +kernel
theorem dL_stuff_0 : decode cL_stuff 0 = .ok (.aload_n 3, 1) := by decide +kernel
theorem dL_stuff_1 : decode cL_stuff 1 = .ok (.iconst 0, 1) := by decide +kernel
theorem dL_stuff_2 : decode cL_stuff 2 = .ok (.aload_n 0, 1) := by decide +kernel
theorem dL_stuff_3 : decode cL_stuff 3 = .ok (.iload_n 1, 1) := by decide +kernel
theorem dL_stuff_4 : decode cL_stuff 4 = .ok (.iload_n 2, 1) := by decide +kernel
theorem dL_stuff_5 : decode cL_stuff 5 = .ok (.invokevirtual 36, 3) := by decide +kernel
theorem dL_stuff_8 : decode cL_stuff 8 = .ok (.i2l, 1) := by decide +kernel
theorem dL_stuff_9 : decode cL_stuff 9 = .ok (.lastore, 1) := by decide +kernel
theorem dL_stuff_10 : decode cL_stuff 10 = .ok (.goto 7, 3) := by decide +kernel
theorem dL_stuff_13 : decode cL_stuff 13 = .ok (.astore 4, 2) := by decide +kernel
theorem dL_stuff_15 : decode cL_stuff 15 = .ok (.iconst 1, 1) := by decide +kernel
theorem dL_stuff_16 : decode cL_stuff 16 = .ok (.ireturn, 1) := by decide +kernel
theorem dL_stuff_17 : decode cL_stuff 17 = .ok (.iconst 0, 1) := by decide +kernel
theorem dL_stuff_18 : decode cL_stuff 18 = .ok (.ireturn, 1) := by decide +kernel
theorem dL_change_0 : decode cL_change 0 = .ok (.aload_n 3, 1) := by decide +kernel
theorem dL_change_1 : decode cL_change 1 = .ok (.iconst 0, 1) := by decide +kernel
theorem dL_change_2 : decode cL_change 2 = .ok (.aload_n 0, 1) := by decide +kernel
theorem dL_change_3 : decode cL_change 3 = .ok (.iload_n 1, 1) := by decide +kernel
theorem dL_change_4 : decode cL_change 4 = .ok (.iload_n 2, 1) := by decide +kernel
theorem dL_change_5 : decode cL_change 5 = .ok (.invokevirtual 39, 3) := by decide +kernel
theorem dL_change_8 : decode cL_change 8 = .ok (.ifCond .eq 7, 3) := by decide +kernel
theorem dL_change_11 : decode cL_change 11 = .ok (.lconst 1, 1) := by decide +kernel
theorem dL_change_12 : decode cL_change 12 = .ok (.goto 4, 3) := by decide +kernel
theorem dL_change_15 : decode cL_change 15 = .ok (.lconst 0, 1) := by decide +kernel
theorem dL_change_16 : decode cL_change 16 = .ok (.lastore, 1) := by decide +kernel
theorem dL_change_17 : decode cL_change 17 = .ok (.goto 7, 3) := by decide +kernel
theorem dL_change_20 : decode cL_change 20 = .ok (.astore 4, 2) := by decide +kernel
theorem dL_change_22 : decode cL_change 22 = .ok (.iconst 1, 1) := by decide +kernel
theorem dL_change_23 : decode cL_change 23 = .ok (.ireturn, 1) := by decide +kernel
theorem dL_change_24 : decode cL_change 24 = .ok (.iconst 0, 1) := by decide +kernel
theorem dL_change_25 : decode cL_change 25 = .ok (.ireturn, 1) := by decide +kernel
theorem dL_then_0 : decode cL_then 0 = .ok (.aload 4, 2) := by decide +kernel
theorem dL_then_2 : decode cL_then 2 = .ok (.iconst 0, 1) := by decide +kernel
theorem dL_then_3 : decode cL_then 3 = .ok (.aload_n 0, 1) := by decide +kernel
theorem dL_then_4 : decode cL_then 4 = .ok (.iload_n 1, 1) := by decide +kernel
theorem dL_then_5 : decode cL_then 5 = .ok (.iload_n 2, 1) := by decide +kernel
theorem dL_then_6 : decode cL_then 6 = .ok (.iload_n 3, 1) := by decide +kernel
theorem dL_then_7 : decode cL_then 7 = .ok (.invokevirtual 43, 3) := by decide +kernel
theorem dL_then_10 : decode cL_then 10 = .ok (.i2l, 1) := by decide +kernel
theorem dL_then_11 : decode cL_then 11 = .ok (.lastore, 1) := by decide +kernel
theorem dL_then_12 : decode cL_then 12 = .ok (.goto 11, 3) := by decide +kernel
theorem dL_then_15 : decode cL_then 15 = .ok (.astore 5, 2) := by decide +kernel
theorem dL_then_17 : decode cL_then 17 = .ok (.iconst 1, 1) := by decide +kernel
theorem dL_then_18 : decode cL_then 18 = .ok (.ireturn, 1) := by decide +kernel
theorem dL_then_19 : decode cL_then 19 = .ok (.astore 5, 2) := by decide +kernel
theorem dL_then_21 : decode cL_then 21 = .ok (.iconst 2, 1) := by decide +kernel
theorem dL_then_22 : decode cL_then 22 = .ok (.ireturn, 1) := by decide +kernel
theorem dL_then_23 : decode cL_then 23 = .ok (.iconst 0, 1) := by decide +kernel
theorem dL_then_24 : decode cL_then 24 = .ok (.ireturn, 1) := by decide +kernel
theorem dL_worn_0 : decode cL_worn 0 = .ok (.aload_n 3, 1) := by decide +kernel
theorem dL_worn_1 : decode cL_worn 1 = .ok (.iconst 0, 1) := by decide +kernel
theorem dL_worn_2 : decode cL_worn 2 = .ok (.aload_n 0, 1) := by decide +kernel
theorem dL_worn_3 : decode cL_worn 3 = .ok (.iload_n 1, 1) := by decide +kernel
theorem dL_worn_4 : decode cL_worn 4 = .ok (.iload_n 2, 1) := by decide +kernel
theorem dL_worn_5 : decode cL_worn 5 = .ok (.invokevirtual 47, 3) := by decide +kernel
theorem dL_worn_8 : decode cL_worn 8 = .ok (.i2l, 1) := by decide +kernel
theorem dL_worn_9 : decode cL_worn 9 = .ok (.lastore, 1) := by decide +kernel
theorem dL_worn_10 : decode cL_worn 10 = .ok (.goto 11, 3) := by decide +kernel
theorem dL_worn_13 : decode cL_worn 13 = .ok (.astore 4, 2) := by decide +kernel
theorem dL_worn_15 : decode cL_worn 15 = .ok (.iconst 1, 1) := by decide +kernel
theorem dL_worn_16 : decode cL_worn 16 = .ok (.ireturn, 1) := by decide +kernel
theorem dL_worn_17 : decode cL_worn 17 = .ok (.astore 4, 2) := by decide +kernel
theorem dL_worn_19 : decode cL_worn 19 = .ok (.iconst 2, 1) := by decide +kernel
theorem dL_worn_20 : decode cL_worn 20 = .ok (.ireturn, 1) := by decide +kernel
theorem dL_worn_21 : decode cL_worn 21 = .ok (.iconst 0, 1) := by decide +kernel
theorem dL_worn_22 : decode cL_worn 22 = .ok (.ireturn, 1) := by decide +kernel
theorem dL_burst_0 : decode cL_burst 0 = .ok (.aload_n 2, 1) := by decide +kernel
theorem dL_burst_1 : decode cL_burst 1 = .ok (.iconst 0, 1) := by decide +kernel
theorem dL_burst_2 : decode cL_burst 2 = .ok (.aload_n 0, 1) := by decide +kernel
theorem dL_burst_3 : decode cL_burst 3 = .ok (.iload_n 1, 1) := by decide +kernel
theorem dL_burst_4 : decode cL_burst 4 = .ok (.invokevirtual 50, 3) := by decide +kernel
theorem dL_burst_7 : decode cL_burst 7 = .ok (.i2l, 1) := by decide +kernel
theorem dL_burst_8 : decode cL_burst 8 = .ok (.lastore, 1) := by decide +kernel
theorem dL_burst_9 : decode cL_burst 9 = .ok (.goto 6, 3) := by decide +kernel
theorem dL_burst_12 : decode cL_burst 12 = .ok (.astore_n 3, 1) := by decide +kernel
theorem dL_burst_13 : decode cL_burst 13 = .ok (.iconst 1, 1) := by decide +kernel
theorem dL_burst_14 : decode cL_burst 14 = .ok (.ireturn, 1) := by decide +kernel
theorem dL_burst_15 : decode cL_burst 15 = .ok (.iconst 0, 1) := by decide +kernel
theorem dL_burst_16 : decode cL_burst 16 = .ok (.ireturn, 1) := by decide +kernel
theorem dL_wriggles_0 : decode cL_wriggles 0 = .ok (.aload_n 2, 1) := by decide +kernel
theorem dL_wriggles_1 : decode cL_wriggles 1 = .ok (.iconst 0, 1) := by decide +kernel
theorem dL_wriggles_2 : decode cL_wriggles 2 = .ok (.aload_n 0, 1) := by decide +kernel
theorem dL_wriggles_3 : decode cL_wriggles 3 = .ok (.iload_n 1, 1) := by decide +kernel
theorem dL_wriggles_4 : decode cL_wriggles 4 = .ok (.invokevirtual 53, 3) := by decide +kernel
theorem dL_wriggles_7 : decode cL_wriggles 7 = .ok (.i2l, 1) := by decide +kernel
theorem dL_wriggles_8 : decode cL_wriggles 8 = .ok (.lastore, 1) := by decide +kernel
theorem dL_wriggles_9 : decode cL_wriggles 9 = .ok (.goto 6, 3) := by decide +kernel
theorem dL_wriggles_12 : decode cL_wriggles 12 = .ok (.astore_n 3, 1) := by decide +kernel
theorem dL_wriggles_13 : decode cL_wriggles 13 = .ok (.iconst 1, 1) := by decide +kernel
theorem dL_wriggles_14 : decode cL_wriggles 14 = .ok (.ireturn, 1) := by decide +kernel
theorem dL_wriggles_15 : decode cL_wriggles 15 = .ok (.iconst 0, 1) := by decide +kernel
theorem dL_wriggles_16 : decode cL_wriggles 16 = .ok (.ireturn, 1) := by decide +kernel
theorem dL_barefoot_0 : decode cL_barefoot 0 = .ok (.aload_n 2, 1) := by decide +kernel
theorem dL_barefoot_1 : decode cL_barefoot 1 = .ok (.iconst 0, 1) := by decide +kernel
theorem dL_barefoot_2 : decode cL_barefoot 2 = .ok (.aload_n 0, 1) := by decide +kernel
theorem dL_barefoot_3 : decode cL_barefoot 3 = .ok (.iload_n 1, 1) := by decide +kernel
theorem dL_barefoot_4 : decode cL_barefoot 4 = .ok (.invokevirtual 56, 3) := by decide +kernel
theorem dL_barefoot_7 : decode cL_barefoot 7 = .ok (.i2l, 1) := by decide +kernel
theorem dL_barefoot_8 : decode cL_barefoot 8 = .ok (.lastore, 1) := by decide +kernel
theorem dL_barefoot_9 : decode cL_barefoot 9 = .ok (.goto 6, 3) := by decide +kernel
theorem dL_barefoot_12 : decode cL_barefoot 12 = .ok (.astore_n 3, 1) := by decide +kernel
theorem dL_barefoot_13 : decode cL_barefoot 13 = .ok (.iconst 1, 1) := by decide +kernel
theorem dL_barefoot_14 : decode cL_barefoot 14 = .ok (.ireturn, 1) := by decide +kernel
theorem dL_barefoot_15 : decode cL_barefoot 15 = .ok (.iconst 0, 1) := by decide +kernel
theorem dL_barefoot_16 : decode cL_barefoot 16 = .ok (.ireturn, 1) := by decide +kernel
theorem dL_last_0 : decode cL_last 0 = .ok (.aload_n 2, 1) := by decide +kernel
theorem dL_last_1 : decode cL_last 1 = .ok (.iconst 0, 1) := by decide +kernel
theorem dL_last_2 : decode cL_last 2 = .ok (.aload_n 0, 1) := by decide +kernel
theorem dL_last_3 : decode cL_last 3 = .ok (.iload_n 1, 1) := by decide +kernel
theorem dL_last_4 : decode cL_last 4 = .ok (.invokevirtual 59, 3) := by decide +kernel
theorem dL_last_7 : decode cL_last 7 = .ok (.i2l, 1) := by decide +kernel
theorem dL_last_8 : decode cL_last 8 = .ok (.lastore, 1) := by decide +kernel
theorem dL_last_9 : decode cL_last 9 = .ok (.goto 6, 3) := by decide +kernel
theorem dL_last_12 : decode cL_last 12 = .ok (.astore_n 3, 1) := by decide +kernel
theorem dL_last_13 : decode cL_last 13 = .ok (.iconst 1, 1) := by decide +kernel
theorem dL_last_14 : decode cL_last 14 = .ok (.ireturn, 1) := by decide +kernel
theorem dL_last_15 : decode cL_last 15 = .ok (.iconst 0, 1) := by decide +kernel
theorem dL_last_16 : decode cL_last 16 = .ok (.ireturn, 1) := by decide +kernel
theorem dL_goes_0 : decode cL_goes 0 = .ok (.aload_n 2, 1) := by decide +kernel
theorem dL_goes_1 : decode cL_goes 1 = .ok (.iconst 0, 1) := by decide +kernel
theorem dL_goes_2 : decode cL_goes 2 = .ok (.aload_n 0, 1) := by decide +kernel
theorem dL_goes_3 : decode cL_goes 3 = .ok (.iload_n 1, 1) := by decide +kernel
theorem dL_goes_4 : decode cL_goes 4 = .ok (.invokevirtual 62, 3) := by decide +kernel
theorem dL_goes_7 : decode cL_goes 7 = .ok (.i2l, 1) := by decide +kernel
theorem dL_goes_8 : decode cL_goes 8 = .ok (.lastore, 1) := by decide +kernel
theorem dL_goes_9 : decode cL_goes 9 = .ok (.goto 6, 3) := by decide +kernel
theorem dL_goes_12 : decode cL_goes 12 = .ok (.astore_n 3, 1) := by decide +kernel
theorem dL_goes_13 : decode cL_goes 13 = .ok (.iconst 1, 1) := by decide +kernel
theorem dL_goes_14 : decode cL_goes 14 = .ok (.ireturn, 1) := by decide +kernel
theorem dL_goes_15 : decode cL_goes 15 = .ok (.iconst 0, 1) := by decide +kernel
theorem dL_goes_16 : decode cL_goes 16 = .ok (.ireturn, 1) := by decide +kernel
theorem dL_match_0 : decode cL_match 0 = .ok (.aload_n 2, 1) := by decide +kernel
theorem dL_match_1 : decode cL_match 1 = .ok (.iconst 0, 1) := by decide +kernel
theorem dL_match_2 : decode cL_match 2 = .ok (.aload_n 0, 1) := by decide +kernel
theorem dL_match_3 : decode cL_match 3 = .ok (.iload_n 1, 1) := by decide +kernel
theorem dL_match_4 : decode cL_match 4 = .ok (.invokevirtual 65, 3) := by decide +kernel
theorem dL_match_7 : decode cL_match 7 = .ok (.i2l, 1) := by decide +kernel
theorem dL_match_8 : decode cL_match 8 = .ok (.lastore, 1) := by decide +kernel
theorem dL_match_9 : decode cL_match 9 = .ok (.goto 6, 3) := by decide +kernel
theorem dL_match_12 : decode cL_match 12 = .ok (.astore_n 3, 1) := by decide +kernel
theorem dL_match_13 : decode cL_match 13 = .ok (.iconst 1, 1) := by decide +kernel
theorem dL_match_14 : decode cL_match 14 = .ok (.ireturn, 1) := by decide +kernel
theorem dL_match_15 : decode cL_match 15 = .ok (.iconst 0, 1) := by decide +kernel
theorem dL_match_16 : decode cL_match 16 = .ok (.ireturn, 1) := by decide +kernel
theorem dL_matched_0 : decode cL_matched 0 = .ok (.aload_n 2, 1) := by decide +kernel
theorem dL_matched_1 : decode cL_matched 1 = .ok (.iconst 0, 1) := by decide +kernel
theorem dL_matched_2 : decode cL_matched 2 = .ok (.aload_n 0, 1) := by decide +kernel
theorem dL_matched_3 : decode cL_matched 3 = .ok (.iload_n 1, 1) := by decide +kernel
theorem dL_matched_4 : decode cL_matched 4 = .ok (.invokevirtual 68, 3) := by decide +kernel
theorem dL_matched_7 : decode cL_matched 7 = .ok (.i2l, 1) := by decide +kernel
theorem dL_matched_8 : decode cL_matched 8 = .ok (.lastore, 1) := by decide +kernel
theorem dL_matched_9 : decode cL_matched 9 = .ok (.goto 6, 3) := by decide +kernel
theorem dL_matched_12 : decode cL_matched 12 = .ok (.astore_n 3, 1) := by decide +kernel
theorem dL_matched_13 : decode cL_matched 13 = .ok (.iconst 1, 1) := by decide +kernel
theorem dL_matched_14 : decode cL_matched 14 = .ok (.ireturn, 1) := by decide +kernel
theorem dL_matched_15 : decode cL_matched 15 = .ok (.iconst 0, 1) := by decide +kernel
theorem dL_matched_16 : decode cL_matched 16 = .ok (.ireturn, 1) := by decide +kernel
theorem dL_trade_0 : decode cL_trade 0 = .ok (.aload_n 2, 1) := by decide +kernel
theorem dL_trade_1 : decode cL_trade 1 = .ok (.iconst 0, 1) := by decide +kernel
theorem dL_trade_2 : decode cL_trade 2 = .ok (.aload_n 0, 1) := by decide +kernel
theorem dL_trade_3 : decode cL_trade 3 = .ok (.iload_n 1, 1) := by decide +kernel
theorem dL_trade_4 : decode cL_trade 4 = .ok (.invokevirtual 71, 3) := by decide +kernel
theorem dL_trade_7 : decode cL_trade 7 = .ok (.i2l, 1) := by decide +kernel
theorem dL_trade_8 : decode cL_trade 8 = .ok (.lastore, 1) := by decide +kernel
theorem dL_trade_9 : decode cL_trade 9 = .ok (.goto 6, 3) := by decide +kernel
theorem dL_trade_12 : decode cL_trade 12 = .ok (.astore_n 3, 1) := by decide +kernel
theorem dL_trade_13 : decode cL_trade 13 = .ok (.iconst 1, 1) := by decide +kernel
theorem dL_trade_14 : decode cL_trade 14 = .ok (.ireturn, 1) := by decide +kernel
theorem dL_trade_15 : decode cL_trade 15 = .ok (.iconst 0, 1) := by decide +kernel
theorem dL_trade_16 : decode cL_trade 16 = .ok (.ireturn, 1) := by decide +kernel
theorem dL_toStuff_0 : decode cL_toStuff 0 = .ok (.aload_n 3, 1) := by decide +kernel
theorem dL_toStuff_1 : decode cL_toStuff 1 = .ok (.iconst 0, 1) := by decide +kernel
theorem dL_toStuff_2 : decode cL_toStuff 2 = .ok (.aload_n 0, 1) := by decide +kernel
theorem dL_toStuff_3 : decode cL_toStuff 3 = .ok (.iload_n 1, 1) := by decide +kernel
theorem dL_toStuff_4 : decode cL_toStuff 4 = .ok (.iload_n 2, 1) := by decide +kernel
theorem dL_toStuff_5 : decode cL_toStuff 5 = .ok (.invokevirtual 74, 3) := by decide +kernel
theorem dL_toStuff_8 : decode cL_toStuff 8 = .ok (.i2l, 1) := by decide +kernel
theorem dL_toStuff_9 : decode cL_toStuff 9 = .ok (.lastore, 1) := by decide +kernel
theorem dL_toStuff_10 : decode cL_toStuff 10 = .ok (.goto 7, 3) := by decide +kernel
theorem dL_toStuff_13 : decode cL_toStuff 13 = .ok (.astore 4, 2) := by decide +kernel
theorem dL_toStuff_15 : decode cL_toStuff 15 = .ok (.iconst 1, 1) := by decide +kernel
theorem dL_toStuff_16 : decode cL_toStuff 16 = .ok (.ireturn, 1) := by decide +kernel
theorem dL_toStuff_17 : decode cL_toStuff 17 = .ok (.iconst 0, 1) := by decide +kernel
theorem dL_toStuff_18 : decode cL_toStuff 18 = .ok (.ireturn, 1) := by decide +kernel
theorem dL_toWait_0 : decode cL_toWait 0 = .ok (.aload_n 3, 1) := by decide +kernel
theorem dL_toWait_1 : decode cL_toWait 1 = .ok (.iconst 0, 1) := by decide +kernel
theorem dL_toWait_2 : decode cL_toWait 2 = .ok (.aload_n 0, 1) := by decide +kernel
theorem dL_toWait_3 : decode cL_toWait 3 = .ok (.iload_n 1, 1) := by decide +kernel
theorem dL_toWait_4 : decode cL_toWait 4 = .ok (.iload_n 2, 1) := by decide +kernel
theorem dL_toWait_5 : decode cL_toWait 5 = .ok (.invokevirtual 77, 3) := by decide +kernel
theorem dL_toWait_8 : decode cL_toWait 8 = .ok (.i2l, 1) := by decide +kernel
theorem dL_toWait_9 : decode cL_toWait 9 = .ok (.lastore, 1) := by decide +kernel
theorem dL_toWait_10 : decode cL_toWait 10 = .ok (.goto 7, 3) := by decide +kernel
theorem dL_toWait_13 : decode cL_toWait 13 = .ok (.astore 4, 2) := by decide +kernel
theorem dL_toWait_15 : decode cL_toWait 15 = .ok (.iconst 1, 1) := by decide +kernel
theorem dL_toWait_16 : decode cL_toWait 16 = .ok (.ireturn, 1) := by decide +kernel
theorem dL_toWait_17 : decode cL_toWait 17 = .ok (.iconst 0, 1) := by decide +kernel
theorem dL_toWait_18 : decode cL_toWait 18 = .ok (.ireturn, 1) := by decide +kernel
theorem dL_round_0 : decode cL_round 0 = .ok (.aload_n 2, 1) := by decide +kernel
theorem dL_round_1 : decode cL_round 1 = .ok (.iconst 0, 1) := by decide +kernel
theorem dL_round_2 : decode cL_round 2 = .ok (.aload_n 0, 1) := by decide +kernel
theorem dL_round_3 : decode cL_round 3 = .ok (.iload_n 1, 1) := by decide +kernel
theorem dL_round_4 : decode cL_round 4 = .ok (.invokevirtual 80, 3) := by decide +kernel
theorem dL_round_7 : decode cL_round 7 = .ok (.i2l, 1) := by decide +kernel
theorem dL_round_8 : decode cL_round 8 = .ok (.lastore, 1) := by decide +kernel
theorem dL_round_9 : decode cL_round 9 = .ok (.goto 6, 3) := by decide +kernel
theorem dL_round_12 : decode cL_round 12 = .ok (.astore_n 3, 1) := by decide +kernel
theorem dL_round_13 : decode cL_round 13 = .ok (.iconst 1, 1) := by decide +kernel
theorem dL_round_14 : decode cL_round 14 = .ok (.ireturn, 1) := by decide +kernel
theorem dL_round_15 : decode cL_round 15 = .ok (.iconst 0, 1) := by decide +kernel
theorem dL_round_16 : decode cL_round 16 = .ok (.ireturn, 1) := by decide +kernel
theorem dL_see_0 : decode cL_see 0 = .ok (.aload 4, 2) := by decide +kernel
theorem dL_see_2 : decode cL_see 2 = .ok (.iconst 0, 1) := by decide +kernel
theorem dL_see_3 : decode cL_see 3 = .ok (.aload_n 0, 1) := by decide +kernel
theorem dL_see_4 : decode cL_see 4 = .ok (.iload_n 1, 1) := by decide +kernel
theorem dL_see_5 : decode cL_see 5 = .ok (.iload_n 2, 1) := by decide +kernel
theorem dL_see_6 : decode cL_see 6 = .ok (.iload_n 3, 1) := by decide +kernel
theorem dL_see_7 : decode cL_see 7 = .ok (.invokevirtual 83, 3) := by decide +kernel
theorem dL_see_10 : decode cL_see 10 = .ok (.i2l, 1) := by decide +kernel
theorem dL_see_11 : decode cL_see 11 = .ok (.lastore, 1) := by decide +kernel
theorem dL_see_12 : decode cL_see 12 = .ok (.goto 7, 3) := by decide +kernel
theorem dL_see_15 : decode cL_see 15 = .ok (.astore 5, 2) := by decide +kernel
theorem dL_see_17 : decode cL_see 17 = .ok (.iconst 1, 1) := by decide +kernel
theorem dL_see_18 : decode cL_see 18 = .ok (.ireturn, 1) := by decide +kernel
theorem dL_see_19 : decode cL_see 19 = .ok (.iconst 0, 1) := by decide +kernel
theorem dL_see_20 : decode cL_see 20 = .ok (.ireturn, 1) := by decide +kernel
theorem dL_large_0 : decode cL_large 0 = .ok (.aload_n 2, 1) := by decide +kernel
theorem dL_large_1 : decode cL_large 1 = .ok (.iconst 0, 1) := by decide +kernel
theorem dL_large_2 : decode cL_large 2 = .ok (.aload_n 0, 1) := by decide +kernel
theorem dL_large_3 : decode cL_large 3 = .ok (.iload_n 1, 1) := by decide +kernel
theorem dL_large_4 : decode cL_large 4 = .ok (.invokevirtual 86, 3) := by decide +kernel
theorem dL_large_7 : decode cL_large 7 = .ok (.i2l, 1) := by decide +kernel
theorem dL_large_8 : decode cL_large 8 = .ok (.lastore, 1) := by decide +kernel
theorem dL_large_9 : decode cL_large 9 = .ok (.goto 6, 3) := by decide +kernel
theorem dL_large_12 : decode cL_large 12 = .ok (.astore_n 3, 1) := by decide +kernel
theorem dL_large_13 : decode cL_large 13 = .ok (.iconst 1, 1) := by decide +kernel
theorem dL_large_14 : decode cL_large 14 = .ok (.ireturn, 1) := by decide +kernel
theorem dL_large_15 : decode cL_large 15 = .ok (.iconst 0, 1) := by decide +kernel
theorem dL_large_16 : decode cL_large 16 = .ok (.ireturn, 1) := by decide +kernel
theorem dL_next_0 : decode cL_next 0 = .ok (.aload_n 2, 1) := by decide +kernel
theorem dL_next_1 : decode cL_next 1 = .ok (.iconst 0, 1) := by decide +kernel
theorem dL_next_2 : decode cL_next 2 = .ok (.aload_n 0, 1) := by decide +kernel
theorem dL_next_3 : decode cL_next 3 = .ok (.iload_n 1, 1) := by decide +kernel
theorem dL_next_4 : decode cL_next 4 = .ok (.invokevirtual 89, 3) := by decide +kernel
theorem dL_next_7 : decode cL_next 7 = .ok (.i2l, 1) := by decide +kernel
theorem dL_next_8 : decode cL_next 8 = .ok (.lastore, 1) := by decide +kernel
theorem dL_next_9 : decode cL_next 9 = .ok (.goto 6, 3) := by decide +kernel
theorem dL_next_12 : decode cL_next 12 = .ok (.astore_n 3, 1) := by decide +kernel
theorem dL_next_13 : decode cL_next 13 = .ok (.iconst 1, 1) := by decide +kernel
theorem dL_next_14 : decode cL_next 14 = .ok (.ireturn, 1) := by decide +kernel
theorem dL_next_15 : decode cL_next 15 = .ok (.iconst 0, 1) := by decide +kernel
theorem dL_next_16 : decode cL_next 16 = .ok (.ireturn, 1) := by decide +kernel
theorem dL_byDamp_0 : decode cL_byDamp 0 = .ok (.aload 4, 2) := by decide +kernel
theorem dL_byDamp_2 : decode cL_byDamp 2 = .ok (.iconst 0, 1) := by decide +kernel
theorem dL_byDamp_3 : decode cL_byDamp 3 = .ok (.aload_n 0, 1) := by decide +kernel
theorem dL_byDamp_4 : decode cL_byDamp 4 = .ok (.iload_n 1, 1) := by decide +kernel
theorem dL_byDamp_5 : decode cL_byDamp 5 = .ok (.iload_n 2, 1) := by decide +kernel
theorem dL_byDamp_6 : decode cL_byDamp 6 = .ok (.iload_n 3, 1) := by decide +kernel
theorem dL_byDamp_7 : decode cL_byDamp 7 = .ok (.invokevirtual 92, 3) := by decide +kernel
theorem dL_byDamp_10 : decode cL_byDamp 10 = .ok (.i2l, 1) := by decide +kernel
theorem dL_byDamp_11 : decode cL_byDamp 11 = .ok (.lastore, 1) := by decide +kernel
theorem dL_byDamp_12 : decode cL_byDamp 12 = .ok (.goto 11, 3) := by decide +kernel
theorem dL_byDamp_15 : decode cL_byDamp 15 = .ok (.astore 5, 2) := by decide +kernel
theorem dL_byDamp_17 : decode cL_byDamp 17 = .ok (.iconst 1, 1) := by decide +kernel
theorem dL_byDamp_18 : decode cL_byDamp 18 = .ok (.ireturn, 1) := by decide +kernel
theorem dL_byDamp_19 : decode cL_byDamp 19 = .ok (.astore 5, 2) := by decide +kernel
theorem dL_byDamp_21 : decode cL_byDamp 21 = .ok (.iconst 2, 1) := by decide +kernel
theorem dL_byDamp_22 : decode cL_byDamp 22 = .ok (.ireturn, 1) := by decide +kernel
theorem dL_byDamp_23 : decode cL_byDamp 23 = .ok (.iconst 0, 1) := by decide +kernel
theorem dL_byDamp_24 : decode cL_byDamp 24 = .ok (.ireturn, 1) := by decide +kernel
theorem dL_game_0 : decode cL_game 0 = .ok (.aload 5, 2) := by decide +kernel
theorem dL_game_2 : decode cL_game 2 = .ok (.iconst 0, 1) := by decide +kernel
theorem dL_game_3 : decode cL_game 3 = .ok (.aload_n 0, 1) := by decide +kernel
theorem dL_game_4 : decode cL_game 4 = .ok (.iload_n 1, 1) := by decide +kernel
theorem dL_game_5 : decode cL_game 5 = .ok (.iload_n 2, 1) := by decide +kernel
theorem dL_game_6 : decode cL_game 6 = .ok (.iload_n 3, 1) := by decide +kernel
theorem dL_game_7 : decode cL_game 7 = .ok (.iload 4, 2) := by decide +kernel
theorem dL_game_9 : decode cL_game 9 = .ok (.invokevirtual 95, 3) := by decide +kernel
theorem dL_game_12 : decode cL_game 12 = .ok (.i2l, 1) := by decide +kernel
theorem dL_game_13 : decode cL_game 13 = .ok (.lastore, 1) := by decide +kernel
theorem dL_game_14 : decode cL_game 14 = .ok (.goto 11, 3) := by decide +kernel
theorem dL_game_17 : decode cL_game 17 = .ok (.astore 6, 2) := by decide +kernel
theorem dL_game_19 : decode cL_game 19 = .ok (.iconst 1, 1) := by decide +kernel
theorem dL_game_20 : decode cL_game 20 = .ok (.ireturn, 1) := by decide +kernel
theorem dL_game_21 : decode cL_game 21 = .ok (.astore 6, 2) := by decide +kernel
theorem dL_game_23 : decode cL_game 23 = .ok (.iconst 2, 1) := by decide +kernel
theorem dL_game_24 : decode cL_game 24 = .ok (.ireturn, 1) := by decide +kernel
theorem dL_game_25 : decode cL_game 25 = .ok (.iconst 0, 1) := by decide +kernel
theorem dL_game_26 : decode cL_game 26 = .ok (.ireturn, 1) := by decide +kernel
theorem dL_years_0 : decode cL_years 0 = .ok (.aload 4, 2) := by decide +kernel
theorem dL_years_2 : decode cL_years 2 = .ok (.iconst 0, 1) := by decide +kernel
theorem dL_years_3 : decode cL_years 3 = .ok (.aload_n 0, 1) := by decide +kernel
theorem dL_years_4 : decode cL_years 4 = .ok (.iload_n 1, 1) := by decide +kernel
theorem dL_years_5 : decode cL_years 5 = .ok (.iload_n 2, 1) := by decide +kernel
theorem dL_years_6 : decode cL_years 6 = .ok (.iload_n 3, 1) := by decide +kernel
theorem dL_years_7 : decode cL_years 7 = .ok (.invokevirtual 99, 3) := by decide +kernel
theorem dL_years_10 : decode cL_years 10 = .ok (.i2l, 1) := by decide +kernel
theorem dL_years_11 : decode cL_years 11 = .ok (.lastore, 1) := by decide +kernel
theorem dL_years_12 : decode cL_years 12 = .ok (.goto 11, 3) := by decide +kernel
theorem dL_years_15 : decode cL_years 15 = .ok (.astore 5, 2) := by decide +kernel
theorem dL_years_17 : decode cL_years 17 = .ok (.iconst 1, 1) := by decide +kernel
theorem dL_years_18 : decode cL_years 18 = .ok (.ireturn, 1) := by decide +kernel
theorem dL_years_19 : decode cL_years 19 = .ok (.astore 5, 2) := by decide +kernel
theorem dL_years_21 : decode cL_years 21 = .ok (.iconst 2, 1) := by decide +kernel
theorem dL_years_22 : decode cL_years 22 = .ok (.ireturn, 1) := by decide +kernel
theorem dL_years_23 : decode cL_years 23 = .ok (.iconst 0, 1) := by decide +kernel
theorem dL_years_24 : decode cL_years 24 = .ok (.ireturn, 1) := by decide +kernel
theorem dL_heirs_0 : decode cL_heirs 0 = .ok (.aload_n 2, 1) := by decide +kernel
theorem dL_heirs_1 : decode cL_heirs 1 = .ok (.iconst 0, 1) := by decide +kernel
theorem dL_heirs_2 : decode cL_heirs 2 = .ok (.aload_n 0, 1) := by decide +kernel
theorem dL_heirs_3 : decode cL_heirs 3 = .ok (.iload_n 1, 1) := by decide +kernel
theorem dL_heirs_4 : decode cL_heirs 4 = .ok (.invokevirtual 102, 3) := by decide +kernel
theorem dL_heirs_7 : decode cL_heirs 7 = .ok (.i2l, 1) := by decide +kernel
theorem dL_heirs_8 : decode cL_heirs 8 = .ok (.lastore, 1) := by decide +kernel
theorem dL_heirs_9 : decode cL_heirs 9 = .ok (.goto 6, 3) := by decide +kernel
theorem dL_heirs_12 : decode cL_heirs 12 = .ok (.astore_n 3, 1) := by decide +kernel
theorem dL_heirs_13 : decode cL_heirs 13 = .ok (.iconst 1, 1) := by decide +kernel
theorem dL_heirs_14 : decode cL_heirs 14 = .ok (.ireturn, 1) := by decide +kernel
theorem dL_heirs_15 : decode cL_heirs 15 = .ok (.iconst 0, 1) := by decide +kernel
theorem dL_heirs_16 : decode cL_heirs 16 = .ok (.ireturn, 1) := by decide +kernel
theorem dL_toGrow_0 : decode cL_toGrow 0 = .ok (.aload_n 3, 1) := by decide +kernel
theorem dL_toGrow_1 : decode cL_toGrow 1 = .ok (.iconst 0, 1) := by decide +kernel
theorem dL_toGrow_2 : decode cL_toGrow 2 = .ok (.aload_n 0, 1) := by decide +kernel
theorem dL_toGrow_3 : decode cL_toGrow 3 = .ok (.iload_n 1, 1) := by decide +kernel
theorem dL_toGrow_4 : decode cL_toGrow 4 = .ok (.iload_n 2, 1) := by decide +kernel
theorem dL_toGrow_5 : decode cL_toGrow 5 = .ok (.invokevirtual 105, 3) := by decide +kernel
theorem dL_toGrow_8 : decode cL_toGrow 8 = .ok (.i2l, 1) := by decide +kernel
theorem dL_toGrow_9 : decode cL_toGrow 9 = .ok (.lastore, 1) := by decide +kernel
theorem dL_toGrow_10 : decode cL_toGrow 10 = .ok (.goto 7, 3) := by decide +kernel
theorem dL_toGrow_13 : decode cL_toGrow 13 = .ok (.astore 4, 2) := by decide +kernel
theorem dL_toGrow_15 : decode cL_toGrow 15 = .ok (.iconst 1, 1) := by decide +kernel
theorem dL_toGrow_16 : decode cL_toGrow 16 = .ok (.ireturn, 1) := by decide +kernel
theorem dL_toGrow_17 : decode cL_toGrow 17 = .ok (.iconst 0, 1) := by decide +kernel
theorem dL_toGrow_18 : decode cL_toGrow 18 = .ok (.ireturn, 1) := by decide +kernel
theorem dL_paid_0 : decode cL_paid 0 = .ok (.aload_n 2, 1) := by decide +kernel
theorem dL_paid_1 : decode cL_paid 1 = .ok (.iconst 0, 1) := by decide +kernel
theorem dL_paid_2 : decode cL_paid 2 = .ok (.aload_n 0, 1) := by decide +kernel
theorem dL_paid_3 : decode cL_paid 3 = .ok (.iload_n 1, 1) := by decide +kernel
theorem dL_paid_4 : decode cL_paid 4 = .ok (.invokevirtual 108, 3) := by decide +kernel
theorem dL_paid_7 : decode cL_paid 7 = .ok (.i2l, 1) := by decide +kernel
theorem dL_paid_8 : decode cL_paid 8 = .ok (.lastore, 1) := by decide +kernel
theorem dL_paid_9 : decode cL_paid 9 = .ok (.goto 6, 3) := by decide +kernel
theorem dL_paid_12 : decode cL_paid 12 = .ok (.astore_n 3, 1) := by decide +kernel
theorem dL_paid_13 : decode cL_paid 13 = .ok (.iconst 1, 1) := by decide +kernel
theorem dL_paid_14 : decode cL_paid 14 = .ok (.ireturn, 1) := by decide +kernel
theorem dL_paid_15 : decode cL_paid 15 = .ok (.iconst 0, 1) := by decide +kernel
theorem dL_paid_16 : decode cL_paid 16 = .ok (.ireturn, 1) := by decide +kernel
theorem dL_wornest_0 : decode cL_wornest 0 = .ok (.aload_n 2, 1) := by decide +kernel
theorem dL_wornest_1 : decode cL_wornest 1 = .ok (.iconst 0, 1) := by decide +kernel
theorem dL_wornest_2 : decode cL_wornest 2 = .ok (.aload_n 0, 1) := by decide +kernel
theorem dL_wornest_3 : decode cL_wornest 3 = .ok (.iload_n 1, 1) := by decide +kernel
theorem dL_wornest_4 : decode cL_wornest 4 = .ok (.invokevirtual 111, 3) := by decide +kernel
theorem dL_wornest_7 : decode cL_wornest 7 = .ok (.i2l, 1) := by decide +kernel
theorem dL_wornest_8 : decode cL_wornest 8 = .ok (.lastore, 1) := by decide +kernel
theorem dL_wornest_9 : decode cL_wornest 9 = .ok (.goto 6, 3) := by decide +kernel
theorem dL_wornest_12 : decode cL_wornest 12 = .ok (.astore_n 3, 1) := by decide +kernel
theorem dL_wornest_13 : decode cL_wornest 13 = .ok (.iconst 1, 1) := by decide +kernel
theorem dL_wornest_14 : decode cL_wornest 14 = .ok (.ireturn, 1) := by decide +kernel
theorem dL_wornest_15 : decode cL_wornest 15 = .ok (.iconst 0, 1) := by decide +kernel
theorem dL_wornest_16 : decode cL_wornest 16 = .ok (.ireturn, 1) := by decide +kernel
theorem dL_dampest_0 : decode cL_dampest 0 = .ok (.aload_n 2, 1) := by decide +kernel
theorem dL_dampest_1 : decode cL_dampest 1 = .ok (.iconst 0, 1) := by decide +kernel
theorem dL_dampest_2 : decode cL_dampest 2 = .ok (.aload_n 0, 1) := by decide +kernel
theorem dL_dampest_3 : decode cL_dampest 3 = .ok (.iload_n 1, 1) := by decide +kernel
theorem dL_dampest_4 : decode cL_dampest 4 = .ok (.invokevirtual 114, 3) := by decide +kernel
theorem dL_dampest_7 : decode cL_dampest 7 = .ok (.i2l, 1) := by decide +kernel
theorem dL_dampest_8 : decode cL_dampest 8 = .ok (.lastore, 1) := by decide +kernel
theorem dL_dampest_9 : decode cL_dampest 9 = .ok (.goto 6, 3) := by decide +kernel
theorem dL_dampest_12 : decode cL_dampest 12 = .ok (.astore_n 3, 1) := by decide +kernel
theorem dL_dampest_13 : decode cL_dampest 13 = .ok (.iconst 1, 1) := by decide +kernel
theorem dL_dampest_14 : decode cL_dampest 14 = .ok (.ireturn, 1) := by decide +kernel
theorem dL_dampest_15 : decode cL_dampest 15 = .ok (.iconst 0, 1) := by decide +kernel
theorem dL_dampest_16 : decode cL_dampest 16 = .ok (.ireturn, 1) := by decide +kernel
theorem dL_kept_0 : decode cL_kept 0 = .ok (.aload_n 2, 1) := by decide +kernel
theorem dL_kept_1 : decode cL_kept 1 = .ok (.iconst 0, 1) := by decide +kernel
theorem dL_kept_2 : decode cL_kept 2 = .ok (.aload_n 0, 1) := by decide +kernel
theorem dL_kept_3 : decode cL_kept 3 = .ok (.iload_n 1, 1) := by decide +kernel
theorem dL_kept_4 : decode cL_kept 4 = .ok (.invokevirtual 117, 3) := by decide +kernel
theorem dL_kept_7 : decode cL_kept 7 = .ok (.i2l, 1) := by decide +kernel
theorem dL_kept_8 : decode cL_kept 8 = .ok (.lastore, 1) := by decide +kernel
theorem dL_kept_9 : decode cL_kept 9 = .ok (.goto 6, 3) := by decide +kernel
theorem dL_kept_12 : decode cL_kept 12 = .ok (.astore_n 3, 1) := by decide +kernel
theorem dL_kept_13 : decode cL_kept 13 = .ok (.iconst 1, 1) := by decide +kernel
theorem dL_kept_14 : decode cL_kept 14 = .ok (.ireturn, 1) := by decide +kernel
theorem dL_kept_15 : decode cL_kept 15 = .ok (.iconst 0, 1) := by decide +kernel
theorem dL_kept_16 : decode cL_kept 16 = .ok (.ireturn, 1) := by decide +kernel
theorem dL_sorest_0 : decode cL_sorest 0 = .ok (.aload_n 2, 1) := by decide +kernel
theorem dL_sorest_1 : decode cL_sorest 1 = .ok (.iconst 0, 1) := by decide +kernel
theorem dL_sorest_2 : decode cL_sorest 2 = .ok (.aload_n 0, 1) := by decide +kernel
theorem dL_sorest_3 : decode cL_sorest 3 = .ok (.iload_n 1, 1) := by decide +kernel
theorem dL_sorest_4 : decode cL_sorest 4 = .ok (.invokevirtual 120, 3) := by decide +kernel
theorem dL_sorest_7 : decode cL_sorest 7 = .ok (.i2l, 1) := by decide +kernel
theorem dL_sorest_8 : decode cL_sorest 8 = .ok (.lastore, 1) := by decide +kernel
theorem dL_sorest_9 : decode cL_sorest 9 = .ok (.goto 6, 3) := by decide +kernel
theorem dL_sorest_12 : decode cL_sorest 12 = .ok (.astore_n 3, 1) := by decide +kernel
theorem dL_sorest_13 : decode cL_sorest 13 = .ok (.iconst 1, 1) := by decide +kernel
theorem dL_sorest_14 : decode cL_sorest 14 = .ok (.ireturn, 1) := by decide +kernel
theorem dL_sorest_15 : decode cL_sorest 15 = .ok (.iconst 0, 1) := by decide +kernel
theorem dL_sorest_16 : decode cL_sorest 16 = .ok (.ireturn, 1) := by decide +kernel
theorem dL_eased_0 : decode cL_eased 0 = .ok (.aload 4, 2) := by decide +kernel
theorem dL_eased_2 : decode cL_eased 2 = .ok (.iconst 0, 1) := by decide +kernel
theorem dL_eased_3 : decode cL_eased 3 = .ok (.aload_n 0, 1) := by decide +kernel
theorem dL_eased_4 : decode cL_eased 4 = .ok (.iload_n 1, 1) := by decide +kernel
theorem dL_eased_5 : decode cL_eased 5 = .ok (.iload_n 2, 1) := by decide +kernel
theorem dL_eased_6 : decode cL_eased 6 = .ok (.iload_n 3, 1) := by decide +kernel
theorem dL_eased_7 : decode cL_eased 7 = .ok (.invokevirtual 123, 3) := by decide +kernel
theorem dL_eased_10 : decode cL_eased 10 = .ok (.i2l, 1) := by decide +kernel
theorem dL_eased_11 : decode cL_eased 11 = .ok (.lastore, 1) := by decide +kernel
theorem dL_eased_12 : decode cL_eased 12 = .ok (.goto 11, 3) := by decide +kernel
theorem dL_eased_15 : decode cL_eased 15 = .ok (.astore 5, 2) := by decide +kernel
theorem dL_eased_17 : decode cL_eased 17 = .ok (.iconst 1, 1) := by decide +kernel
theorem dL_eased_18 : decode cL_eased 18 = .ok (.ireturn, 1) := by decide +kernel
theorem dL_eased_19 : decode cL_eased 19 = .ok (.astore 5, 2) := by decide +kernel
theorem dL_eased_21 : decode cL_eased 21 = .ok (.iconst 2, 1) := by decide +kernel
theorem dL_eased_22 : decode cL_eased 22 = .ok (.ireturn, 1) := by decide +kernel
theorem dL_eased_23 : decode cL_eased 23 = .ok (.iconst 0, 1) := by decide +kernel
theorem dL_eased_24 : decode cL_eased 24 = .ok (.ireturn, 1) := by decide +kernel
theorem dL_free_0 : decode cL_free 0 = .ok (.aload_n 2, 1) := by decide +kernel
theorem dL_free_1 : decode cL_free 1 = .ok (.iconst 0, 1) := by decide +kernel
theorem dL_free_2 : decode cL_free 2 = .ok (.aload_n 0, 1) := by decide +kernel
theorem dL_free_3 : decode cL_free 3 = .ok (.iload_n 1, 1) := by decide +kernel
theorem dL_free_4 : decode cL_free 4 = .ok (.invokevirtual 126, 3) := by decide +kernel
theorem dL_free_7 : decode cL_free 7 = .ok (.i2l, 1) := by decide +kernel
theorem dL_free_8 : decode cL_free 8 = .ok (.lastore, 1) := by decide +kernel
theorem dL_free_9 : decode cL_free 9 = .ok (.goto 6, 3) := by decide +kernel
theorem dL_free_12 : decode cL_free 12 = .ok (.astore_n 3, 1) := by decide +kernel
theorem dL_free_13 : decode cL_free 13 = .ok (.iconst 1, 1) := by decide +kernel
theorem dL_free_14 : decode cL_free 14 = .ok (.ireturn, 1) := by decide +kernel
theorem dL_free_15 : decode cL_free 15 = .ok (.iconst 0, 1) := by decide +kernel
theorem dL_free_16 : decode cL_free 16 = .ok (.ireturn, 1) := by decide +kernel
theorem dL_larger_0 : decode cL_larger 0 = .ok (.aload_n 2, 1) := by decide +kernel
theorem dL_larger_1 : decode cL_larger 1 = .ok (.iconst 0, 1) := by decide +kernel
theorem dL_larger_2 : decode cL_larger 2 = .ok (.aload_n 0, 1) := by decide +kernel
theorem dL_larger_3 : decode cL_larger 3 = .ok (.iload_n 1, 1) := by decide +kernel
theorem dL_larger_4 : decode cL_larger 4 = .ok (.invokevirtual 129, 3) := by decide +kernel
theorem dL_larger_7 : decode cL_larger 7 = .ok (.i2l, 1) := by decide +kernel
theorem dL_larger_8 : decode cL_larger 8 = .ok (.lastore, 1) := by decide +kernel
theorem dL_larger_9 : decode cL_larger 9 = .ok (.goto 6, 3) := by decide +kernel
theorem dL_larger_12 : decode cL_larger 12 = .ok (.astore_n 3, 1) := by decide +kernel
theorem dL_larger_13 : decode cL_larger 13 = .ok (.iconst 1, 1) := by decide +kernel
theorem dL_larger_14 : decode cL_larger 14 = .ok (.ireturn, 1) := by decide +kernel
theorem dL_larger_15 : decode cL_larger 15 = .ok (.iconst 0, 1) := by decide +kernel
theorem dL_larger_16 : decode cL_larger 16 = .ok (.ireturn, 1) := by decide +kernel
theorem dL_wide_0 : decode cL_wide 0 = .ok (.aload_n 2, 1) := by decide +kernel
theorem dL_wide_1 : decode cL_wide 1 = .ok (.iconst 0, 1) := by decide +kernel
theorem dL_wide_2 : decode cL_wide 2 = .ok (.aload_n 0, 1) := by decide +kernel
theorem dL_wide_3 : decode cL_wide 3 = .ok (.iload_n 1, 1) := by decide +kernel
theorem dL_wide_4 : decode cL_wide 4 = .ok (.invokevirtual 132, 3) := by decide +kernel
theorem dL_wide_7 : decode cL_wide 7 = .ok (.i2l, 1) := by decide +kernel
theorem dL_wide_8 : decode cL_wide 8 = .ok (.lastore, 1) := by decide +kernel
theorem dL_wide_9 : decode cL_wide 9 = .ok (.goto 6, 3) := by decide +kernel
theorem dL_wide_12 : decode cL_wide 12 = .ok (.astore_n 3, 1) := by decide +kernel
theorem dL_wide_13 : decode cL_wide 13 = .ok (.iconst 1, 1) := by decide +kernel
theorem dL_wide_14 : decode cL_wide 14 = .ok (.ireturn, 1) := by decide +kernel
theorem dL_wide_15 : decode cL_wide 15 = .ok (.iconst 0, 1) := by decide +kernel
theorem dL_wide_16 : decode cL_wide 16 = .ok (.ireturn, 1) := by decide +kernel
theorem dL_endures_0 : decode cL_endures 0 = .ok (.aload_n 3, 1) := by decide +kernel
theorem dL_endures_1 : decode cL_endures 1 = .ok (.iconst 0, 1) := by decide +kernel
theorem dL_endures_2 : decode cL_endures 2 = .ok (.aload_n 0, 1) := by decide +kernel
theorem dL_endures_3 : decode cL_endures 3 = .ok (.iload_n 1, 1) := by decide +kernel
theorem dL_endures_4 : decode cL_endures 4 = .ok (.iload_n 2, 1) := by decide +kernel
theorem dL_endures_5 : decode cL_endures 5 = .ok (.invokevirtual 135, 3) := by decide +kernel
theorem dL_endures_8 : decode cL_endures 8 = .ok (.i2l, 1) := by decide +kernel
theorem dL_endures_9 : decode cL_endures 9 = .ok (.lastore, 1) := by decide +kernel
theorem dL_endures_10 : decode cL_endures 10 = .ok (.goto 7, 3) := by decide +kernel
theorem dL_endures_13 : decode cL_endures 13 = .ok (.astore 4, 2) := by decide +kernel
theorem dL_endures_15 : decode cL_endures 15 = .ok (.iconst 1, 1) := by decide +kernel
theorem dL_endures_16 : decode cL_endures 16 = .ok (.ireturn, 1) := by decide +kernel
theorem dL_endures_17 : decode cL_endures 17 = .ok (.iconst 0, 1) := by decide +kernel
theorem dL_endures_18 : decode cL_endures 18 = .ok (.ireturn, 1) := by decide +kernel
theorem dL_ringed_0 : decode cL_ringed 0 = .ok (.aload_n 2, 1) := by decide +kernel
theorem dL_ringed_1 : decode cL_ringed 1 = .ok (.iconst 0, 1) := by decide +kernel
theorem dL_ringed_2 : decode cL_ringed 2 = .ok (.aload_n 0, 1) := by decide +kernel
theorem dL_ringed_3 : decode cL_ringed 3 = .ok (.iload_n 1, 1) := by decide +kernel
theorem dL_ringed_4 : decode cL_ringed 4 = .ok (.invokevirtual 138, 3) := by decide +kernel
theorem dL_ringed_7 : decode cL_ringed 7 = .ok (.i2l, 1) := by decide +kernel
theorem dL_ringed_8 : decode cL_ringed 8 = .ok (.lastore, 1) := by decide +kernel
theorem dL_ringed_9 : decode cL_ringed 9 = .ok (.goto 6, 3) := by decide +kernel
theorem dL_ringed_12 : decode cL_ringed 12 = .ok (.astore_n 3, 1) := by decide +kernel
theorem dL_ringed_13 : decode cL_ringed 13 = .ok (.iconst 1, 1) := by decide +kernel
theorem dL_ringed_14 : decode cL_ringed 14 = .ok (.ireturn, 1) := by decide +kernel
theorem dL_ringed_15 : decode cL_ringed 15 = .ok (.iconst 0, 1) := by decide +kernel
theorem dL_ringed_16 : decode cL_ringed 16 = .ok (.ireturn, 1) := by decide +kernel
