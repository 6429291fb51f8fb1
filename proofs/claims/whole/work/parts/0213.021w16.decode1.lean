theorem dX8_town_80 : decode cX8_town 80 = .ok (.getfield 27, 3) := by decide +kernel
theorem dX8_town_83 : decode cX8_town 83 = .ok (.putfield 23, 3) := by decide +kernel
theorem dX8_town_86 : decode cX8_town 86 = .ok (.aload_n 0, 1) := by decide +kernel
theorem dX8_town_87 : decode cX8_town 87 = .ok (.aload_n 3, 1) := by decide +kernel
theorem dX8_town_88 : decode cX8_town 88 = .ok (.putfield 27, 3) := by decide +kernel
theorem dX8_town_91 : decode cX8_town 91 = .ok (.aload_n 0, 1) := by decide +kernel
theorem dX8_town_92 : decode cX8_town 92 = .ok (.getfield 23, 3) := by decide +kernel
theorem dX8_town_95 : decode cX8_town 95 = .ok (.aload_n 0, 1) := by decide +kernel
theorem dX8_town_96 : decode cX8_town 96 = .ok (.getfield 33, 3) := by decide +kernel
theorem dX8_town_99 : decode cX8_town 99 = .ok (.invokevirtual 111, 3) := by decide +kernel
theorem dX8_town_102 : decode cX8_town 102 = .ok (.aload_n 0, 1) := by decide +kernel
theorem dX8_town_103 : decode cX8_town 103 = .ok (.getfield 43, 3) := by decide +kernel
theorem dX8_town_106 : decode cX8_town 106 = .ok (.invokevirtual 115, 3) := by decide +kernel
theorem dX8_town_109 : decode cX8_town 109 = .ok (.aload_n 0, 1) := by decide +kernel
theorem dX8_town_110 : decode cX8_town 110 = .ok (.getfield 50, 3) := by decide +kernel
theorem dX8_town_113 : decode cX8_town 113 = .ok (.invokevirtual 118, 3) := by decide +kernel
theorem dX8_town_116 : decode cX8_town 116 = .ok (.aload_n 0, 1) := by decide +kernel
theorem dX8_town_117 : decode cX8_town 117 = .ok (.iconst 0, 1) := by decide +kernel
theorem dX8_town_118 : decode cX8_town 118 = .ok (.putfield 54, 3) := by decide +kernel
theorem dX8_town_121 : decode cX8_town 121 = .ok (.iconst 0, 1) := by decide +kernel
theorem dX8_town_122 : decode cX8_town 122 = .ok (.ireturn, 1) := by decide +kernel
theorem dX8_fault_0 : decode cX8_fault 0 = .ok (.aload_n 0, 1) := by decide +kernel
theorem dX8_fault_1 : decode cX8_fault 1 = .ok (.getfield 16, 3) := by decide +kernel
theorem dX8_fault_4 : decode cX8_fault 4 = .ok (.ireturn, 1) := by decide +kernel
theorem dX8_count_0 : decode cX8_count 0 = .ok (.iload_n 1, 1) := by decide +kernel
theorem dX8_count_1 : decode cX8_count 1 = .ok (.tableswitch 201 0 15 #[79, 87, 95, 103, 115, 123, 128, 137, 146, 151, 156, 164, 172, 180, 187, 194], 79) := by decide +kernel
theorem dX8_count_80 : decode cX8_count 80 = .ok (.aload_n 0, 1) := by decide +kernel
theorem dX8_count_81 : decode cX8_count 81 = .ok (.getfield 23, 3) := by decide +kernel
theorem dX8_count_84 : decode cX8_count 84 = .ok (.getfield 119, 3) := by decide +kernel
theorem dX8_count_87 : decode cX8_count 87 = .ok (.ireturn, 1) := by decide +kernel
theorem dX8_count_88 : decode cX8_count 88 = .ok (.aload_n 0, 1) := by decide +kernel
theorem dX8_count_89 : decode cX8_count 89 = .ok (.getfield 23, 3) := by decide +kernel
theorem dX8_count_92 : decode cX8_count 92 = .ok (.getfield 122, 3) := by decide +kernel
theorem dX8_count_95 : decode cX8_count 95 = .ok (.ireturn, 1) := by decide +kernel
theorem dX8_count_96 : decode cX8_count 96 = .ok (.aload_n 0, 1) := by decide +kernel
theorem dX8_count_97 : decode cX8_count 97 = .ok (.getfield 33, 3) := by decide +kernel
theorem dX8_count_100 : decode cX8_count 100 = .ok (.getfield 125, 3) := by decide +kernel
theorem dX8_count_103 : decode cX8_count 103 = .ok (.ireturn, 1) := by decide +kernel
theorem dX8_count_104 : decode cX8_count 104 = .ok (.aload_n 0, 1) := by decide +kernel
theorem dX8_count_105 : decode cX8_count 105 = .ok (.getfield 23, 3) := by decide +kernel
theorem dX8_count_108 : decode cX8_count 108 = .ok (.aload_n 0, 1) := by decide +kernel
theorem dX8_count_109 : decode cX8_count 109 = .ok (.getfield 33, 3) := by decide +kernel
theorem dX8_count_112 : decode cX8_count 112 = .ok (.invokevirtual 128, 3) := by decide +kernel
theorem dX8_count_115 : decode cX8_count 115 = .ok (.ireturn, 1) := by decide +kernel
theorem dX8_count_116 : decode cX8_count 116 = .ok (.aload_n 0, 1) := by decide +kernel
theorem dX8_count_117 : decode cX8_count 117 = .ok (.getfield 33, 3) := by decide +kernel
theorem dX8_count_120 : decode cX8_count 120 = .ok (.getfield 132, 3) := by decide +kernel
theorem dX8_count_123 : decode cX8_count 123 = .ok (.ireturn, 1) := by decide +kernel
theorem dX8_count_124 : decode cX8_count 124 = .ok (.aload_n 0, 1) := by decide +kernel
theorem dX8_count_125 : decode cX8_count 125 = .ok (.invokevirtual 135, 3) := by decide +kernel
theorem dX8_count_128 : decode cX8_count 128 = .ok (.ireturn, 1) := by decide +kernel
theorem dX8_count_129 : decode cX8_count 129 = .ok (.aload_n 0, 1) := by decide +kernel
theorem dX8_count_130 : decode cX8_count 130 = .ok (.aload_n 0, 1) := by decide +kernel
theorem dX8_count_131 : decode cX8_count 131 = .ok (.getfield 33, 3) := by decide +kernel
theorem dX8_count_134 : decode cX8_count 134 = .ok (.invokevirtual 138, 3) := by decide +kernel
theorem dX8_count_137 : decode cX8_count 137 = .ok (.ireturn, 1) := by decide +kernel
theorem dX8_count_138 : decode cX8_count 138 = .ok (.aload_n 0, 1) := by decide +kernel
theorem dX8_count_139 : decode cX8_count 139 = .ok (.aload_n 0, 1) := by decide +kernel
theorem dX8_count_140 : decode cX8_count 140 = .ok (.getfield 33, 3) := by decide +kernel
theorem dX8_count_143 : decode cX8_count 143 = .ok (.invokevirtual 141, 3) := by decide +kernel
theorem dX8_count_146 : decode cX8_count 146 = .ok (.ireturn, 1) := by decide +kernel
theorem dX8_count_147 : decode cX8_count 147 = .ok (.aload_n 0, 1) := by decide +kernel
theorem dX8_count_148 : decode cX8_count 148 = .ok (.invokevirtual 144, 3) := by decide +kernel
theorem dX8_count_151 : decode cX8_count 151 = .ok (.ireturn, 1) := by decide +kernel
theorem dX8_count_152 : decode cX8_count 152 = .ok (.aload_n 0, 1) := by decide +kernel
theorem dX8_count_153 : decode cX8_count 153 = .ok (.invokevirtual 147, 3) := by decide +kernel
theorem dX8_count_156 : decode cX8_count 156 = .ok (.ireturn, 1) := by decide +kernel
theorem dX8_count_157 : decode cX8_count 157 = .ok (.aload_n 0, 1) := by decide +kernel
theorem dX8_count_158 : decode cX8_count 158 = .ok (.getfield 43, 3) := by decide +kernel
theorem dX8_count_161 : decode cX8_count 161 = .ok (.invokevirtual 150, 3) := by decide +kernel
theorem dX8_count_164 : decode cX8_count 164 = .ok (.ireturn, 1) := by decide +kernel
theorem dX8_count_165 : decode cX8_count 165 = .ok (.aload_n 0, 1) := by decide +kernel
theorem dX8_count_166 : decode cX8_count 166 = .ok (.getfield 50, 3) := by decide +kernel
theorem dX8_count_169 : decode cX8_count 169 = .ok (.invokevirtual 153, 3) := by decide +kernel
theorem dX8_count_172 : decode cX8_count 172 = .ok (.ireturn, 1) := by decide +kernel
theorem dX8_count_173 : decode cX8_count 173 = .ok (.aload_n 0, 1) := by decide +kernel
theorem dX8_count_174 : decode cX8_count 174 = .ok (.getfield 10, 3) := by decide +kernel
theorem dX8_count_177 : decode cX8_count 177 = .ok (.invokevirtual 89, 3) := by decide +kernel
theorem dX8_count_180 : decode cX8_count 180 = .ok (.ireturn, 1) := by decide +kernel
theorem dX8_count_181 : decode cX8_count 181 = .ok (.aload_n 0, 1) := by decide +kernel
theorem dX8_count_182 : decode cX8_count 182 = .ok (.getfield 67, 3) := by decide +kernel
theorem dX8_count_185 : decode cX8_count 185 = .ok (.iconst 0, 1) := by decide +kernel
theorem dX8_count_186 : decode cX8_count 186 = .ok (.iaload, 1) := by decide +kernel
theorem dX8_count_187 : decode cX8_count 187 = .ok (.ireturn, 1) := by decide +kernel
theorem dX8_count_188 : decode cX8_count 188 = .ok (.aload_n 0, 1) := by decide +kernel
theorem dX8_count_189 : decode cX8_count 189 = .ok (.getfield 67, 3) := by decide +kernel
theorem dX8_count_192 : decode cX8_count 192 = .ok (.iconst 1, 1) := by decide +kernel
theorem dX8_count_193 : decode cX8_count 193 = .ok (.iaload, 1) := by decide +kernel
theorem dX8_count_194 : decode cX8_count 194 = .ok (.ireturn, 1) := by decide +kernel
theorem dX8_count_195 : decode cX8_count 195 = .ok (.aload_n 0, 1) := by decide +kernel
theorem dX8_count_196 : decode cX8_count 196 = .ok (.getfield 67, 3) := by decide +kernel
theorem dX8_count_199 : decode cX8_count 199 = .ok (.iconst 2, 1) := by decide +kernel
theorem dX8_count_200 : decode cX8_count 200 = .ok (.iaload, 1) := by decide +kernel
theorem dX8_count_201 : decode cX8_count 201 = .ok (.ireturn, 1) := by decide +kernel
theorem dX8_count_202 : decode cX8_count 202 = .ok (.new 154, 3) := by decide +kernel
theorem dX8_count_205 : decode cX8_count 205 = .ok (.dup, 1) := by decide +kernel
theorem dX8_count_206 : decode cX8_count 206 = .ok (.ldc 156, 2) := by decide +kernel
theorem dX8_count_208 : decode cX8_count 208 = .ok (.invokespecial 158, 3) := by decide +kernel
theorem dX8_count_211 : decode cX8_count 211 = .ok (.athrow, 1) := by decide +kernel
theorem dX8_housesInUse_0 : decode cX8_housesInUse 0 = .ok (.iconst 0, 1) := by decide +kernel
theorem dX8_housesInUse_1 : decode cX8_housesInUse 1 = .ok (.istore_n 1, 1) := by decide +kernel
theorem dX8_housesInUse_2 : decode cX8_housesInUse 2 = .ok (.iconst 0, 1) := by decide +kernel
theorem dX8_housesInUse_3 : decode cX8_housesInUse 3 = .ok (.istore_n 2, 1) := by decide +kernel
theorem dX8_housesInUse_4 : decode cX8_housesInUse 4 = .ok (.iload_n 2, 1) := by decide +kernel
theorem dX8_housesInUse_5 : decode cX8_housesInUse 5 = .ok (.aload_n 0, 1) := by decide +kernel
theorem dX8_housesInUse_6 : decode cX8_housesInUse 6 = .ok (.getfield 23, 3) := by decide +kernel
theorem dX8_housesInUse_9 : decode cX8_housesInUse 9 = .ok (.getfield 119, 3) := by decide +kernel
theorem dX8_housesInUse_12 : decode cX8_housesInUse 12 = .ok (.if_icmp .ge 28, 3) := by decide +kernel
theorem dX8_housesInUse_15 : decode cX8_housesInUse 15 = .ok (.aload_n 0, 1) := by decide +kernel
theorem dX8_housesInUse_16 : decode cX8_housesInUse 16 = .ok (.getfield 33, 3) := by decide +kernel
theorem dX8_housesInUse_19 : decode cX8_housesInUse 19 = .ok (.getfield 159, 3) := by decide +kernel
theorem dX8_housesInUse_22 : decode cX8_housesInUse 22 = .ok (.iload_n 2, 1) := by decide +kernel
theorem dX8_housesInUse_23 : decode cX8_housesInUse 23 = .ok (.iaload, 1) := by decide +kernel
theorem dX8_housesInUse_24 : decode cX8_housesInUse 24 = .ok (.iconst (-1), 1) := by decide +kernel
theorem dX8_housesInUse_25 : decode cX8_housesInUse 25 = .ok (.if_icmp .eq 9, 3) := by decide +kernel
theorem dX8_housesInUse_28 : decode cX8_housesInUse 28 = .ok (.iload_n 1, 1) := by decide +kernel
theorem dX8_housesInUse_29 : decode cX8_housesInUse 29 = .ok (.iconst 1, 1) := by decide +kernel
theorem dX8_housesInUse_30 : decode cX8_housesInUse 30 = .ok (.iload_n 2, 1) := by decide +kernel
theorem dX8_housesInUse_31 : decode cX8_housesInUse 31 = .ok (.ishl, 1) := by decide +kernel
theorem dX8_housesInUse_32 : decode cX8_housesInUse 32 = .ok (.ior, 1) := by decide +kernel
theorem dX8_housesInUse_33 : decode cX8_housesInUse 33 = .ok (.istore_n 1, 1) := by decide +kernel
theorem dX8_housesInUse_34 : decode cX8_housesInUse 34 = .ok (.iinc 2 1, 3) := by decide +kernel
theorem dX8_housesInUse_37 : decode cX8_housesInUse 37 = .ok (.goto (-33), 3) := by decide +kernel
theorem dX8_housesInUse_40 : decode cX8_housesInUse 40 = .ok (.iload_n 1, 1) := by decide +kernel
theorem dX8_housesInUse_41 : decode cX8_housesInUse 41 = .ok (.ireturn, 1) := by decide +kernel
theorem dX8_lodgers_0 : decode cX8_lodgers 0 = .ok (.iconst 0, 1) := by decide +kernel
theorem dX8_lodgers_1 : decode cX8_lodgers 1 = .ok (.istore_n 2, 1) := by decide +kernel
theorem dX8_lodgers_2 : decode cX8_lodgers 2 = .ok (.iconst 0, 1) := by decide +kernel
theorem dX8_lodgers_3 : decode cX8_lodgers 3 = .ok (.istore_n 3, 1) := by decide +kernel
theorem dX8_lodgers_4 : decode cX8_lodgers 4 = .ok (.iload_n 3, 1) := by decide +kernel
theorem dX8_lodgers_5 : decode cX8_lodgers 5 = .ok (.aload_n 0, 1) := by decide +kernel
theorem dX8_lodgers_6 : decode cX8_lodgers 6 = .ok (.getfield 23, 3) := by decide +kernel
theorem dX8_lodgers_9 : decode cX8_lodgers 9 = .ok (.getfield 122, 3) := by decide +kernel
theorem dX8_lodgers_12 : decode cX8_lodgers 12 = .ok (.if_icmp .ge 25, 3) := by decide +kernel
theorem dX8_lodgers_15 : decode cX8_lodgers 15 = .ok (.aload_n 1, 1) := by decide +kernel
theorem dX8_lodgers_16 : decode cX8_lodgers 16 = .ok (.getfield 162, 3) := by decide +kernel
theorem dX8_lodgers_19 : decode cX8_lodgers 19 = .ok (.iload_n 3, 1) := by decide +kernel
theorem dX8_lodgers_20 : decode cX8_lodgers 20 = .ok (.iaload, 1) := by decide +kernel
theorem dX8_lodgers_21 : decode cX8_lodgers 21 = .ok (.iconst (-1), 1) := by decide +kernel
theorem dX8_lodgers_22 : decode cX8_lodgers 22 = .ok (.if_icmp .ne 9, 3) := by decide +kernel
theorem dX8_lodgers_25 : decode cX8_lodgers 25 = .ok (.iload_n 2, 1) := by decide +kernel
theorem dX8_lodgers_26 : decode cX8_lodgers 26 = .ok (.iconst 1, 1) := by decide +kernel
theorem dX8_lodgers_27 : decode cX8_lodgers 27 = .ok (.iload_n 3, 1) := by decide +kernel
theorem dX8_lodgers_28 : decode cX8_lodgers 28 = .ok (.ishl, 1) := by decide +kernel
theorem dX8_lodgers_29 : decode cX8_lodgers 29 = .ok (.ior, 1) := by decide +kernel
theorem dX8_lodgers_30 : decode cX8_lodgers 30 = .ok (.istore_n 2, 1) := by decide +kernel
theorem dX8_lodgers_31 : decode cX8_lodgers 31 = .ok (.iinc 3 1, 3) := by decide +kernel
theorem dX8_lodgers_34 : decode cX8_lodgers 34 = .ok (.goto (-30), 3) := by decide +kernel
theorem dX8_lodgers_37 : decode cX8_lodgers 37 = .ok (.iload_n 2, 1) := by decide +kernel
theorem dX8_lodgers_38 : decode cX8_lodgers 38 = .ok (.ireturn, 1) := by decide +kernel
theorem dX8_allBlisters_0 : decode cX8_allBlisters 0 = .ok (.iconst 0, 1) := by decide +kernel
theorem dX8_allBlisters_1 : decode cX8_allBlisters 1 = .ok (.istore_n 2, 1) := by decide +kernel
theorem dX8_allBlisters_2 : decode cX8_allBlisters 2 = .ok (.iconst 0, 1) := by decide +kernel
theorem dX8_allBlisters_3 : decode cX8_allBlisters 3 = .ok (.istore_n 3, 1) := by decide +kernel
theorem dX8_allBlisters_4 : decode cX8_allBlisters 4 = .ok (.iload_n 3, 1) := by decide +kernel
theorem dX8_allBlisters_5 : decode cX8_allBlisters 5 = .ok (.aload_n 0, 1) := by decide +kernel
theorem dX8_allBlisters_6 : decode cX8_allBlisters 6 = .ok (.getfield 23, 3) := by decide +kernel
theorem dX8_allBlisters_9 : decode cX8_allBlisters 9 = .ok (.getfield 122, 3) := by decide +kernel
theorem dX8_allBlisters_12 : decode cX8_allBlisters 12 = .ok (.if_icmp .ge 18, 3) := by decide +kernel
theorem dX8_allBlisters_15 : decode cX8_allBlisters 15 = .ok (.iload_n 2, 1) := by decide +kernel
theorem dX8_allBlisters_16 : decode cX8_allBlisters 16 = .ok (.aload_n 1, 1) := by decide +kernel
theorem dX8_allBlisters_17 : decode cX8_allBlisters 17 = .ok (.getfield 165, 3) := by decide +kernel
theorem dX8_allBlisters_20 : decode cX8_allBlisters 20 = .ok (.iload_n 3, 1) := by decide +kernel
theorem dX8_allBlisters_21 : decode cX8_allBlisters 21 = .ok (.iaload, 1) := by decide +kernel
theorem dX8_allBlisters_22 : decode cX8_allBlisters 22 = .ok (.iadd, 1) := by decide +kernel
theorem dX8_allBlisters_23 : decode cX8_allBlisters 23 = .ok (.istore_n 2, 1) := by decide +kernel
theorem dX8_allBlisters_24 : decode cX8_allBlisters 24 = .ok (.iinc 3 1, 3) := by decide +kernel
theorem dX8_allBlisters_27 : decode cX8_allBlisters 27 = .ok (.goto (-23), 3) := by decide +kernel
theorem dX8_allBlisters_30 : decode cX8_allBlisters 30 = .ok (.iload_n 2, 1) := by decide +kernel
theorem dX8_allBlisters_31 : decode cX8_allBlisters 31 = .ok (.ireturn, 1) := by decide +kernel
theorem dX8_tightest_0 : decode cX8_tightest 0 = .ok (.iconst (-1), 1) := by decide +kernel
theorem dX8_tightest_1 : decode cX8_tightest 1 = .ok (.istore_n 1, 1) := by decide +kernel
theorem dX8_tightest_2 : decode cX8_tightest 2 = .ok (.iconst 0, 1) := by decide +kernel
theorem dX8_tightest_3 : decode cX8_tightest 3 = .ok (.istore_n 2, 1) := by decide +kernel
theorem dX8_tightest_4 : decode cX8_tightest 4 = .ok (.iconst 0, 1) := by decide +kernel
theorem dX8_tightest_5 : decode cX8_tightest 5 = .ok (.istore_n 3, 1) := by decide +kernel
theorem dX8_tightest_6 : decode cX8_tightest 6 = .ok (.iload_n 3, 1) := by decide +kernel
theorem dX8_tightest_7 : decode cX8_tightest 7 = .ok (.aload_n 0, 1) := by decide +kernel
theorem dX8_tightest_8 : decode cX8_tightest 8 = .ok (.getfield 23, 3) := by decide +kernel
theorem dX8_tightest_11 : decode cX8_tightest 11 = .ok (.getfield 122, 3) := by decide +kernel
theorem dX8_tightest_14 : decode cX8_tightest 14 = .ok (.if_icmp .ge 27, 3) := by decide +kernel
theorem dX8_tightest_17 : decode cX8_tightest 17 = .ok (.aload_n 0, 1) := by decide +kernel
theorem dX8_tightest_18 : decode cX8_tightest 18 = .ok (.iload_n 3, 1) := by decide +kernel
theorem dX8_tightest_19 : decode cX8_tightest 19 = .ok (.invokevirtual 168, 3) := by decide +kernel
theorem dX8_tightest_22 : decode cX8_tightest 22 = .ok (.istore 4, 2) := by decide +kernel
theorem dX8_tightest_24 : decode cX8_tightest 24 = .ok (.iload 4, 2) := by decide +kernel
theorem dX8_tightest_26 : decode cX8_tightest 26 = .ok (.iload_n 2, 1) := by decide +kernel
theorem dX8_tightest_27 : decode cX8_tightest 27 = .ok (.if_icmp .le 8, 3) := by decide +kernel
theorem dX8_tightest_30 : decode cX8_tightest 30 = .ok (.iload 4, 2) := by decide +kernel
theorem dX8_tightest_32 : decode cX8_tightest 32 = .ok (.istore_n 2, 1) := by decide +kernel
theorem dX8_tightest_33 : decode cX8_tightest 33 = .ok (.iload_n 3, 1) := by decide +kernel
theorem dX8_tightest_34 : decode cX8_tightest 34 = .ok (.istore_n 1, 1) := by decide +kernel
theorem dX8_tightest_35 : decode cX8_tightest 35 = .ok (.iinc 3 1, 3) := by decide +kernel
theorem dX8_tightest_38 : decode cX8_tightest 38 = .ok (.goto (-32), 3) := by decide +kernel
theorem dX8_tightest_41 : decode cX8_tightest 41 = .ok (.iload_n 1, 1) := by decide +kernel
theorem dX8_tightest_42 : decode cX8_tightest 42 = .ok (.ireturn, 1) := by decide +kernel
theorem dX8_tightNow_0 : decode cX8_tightNow 0 = .ok (.aload_n 0, 1) := by decide +kernel
theorem dX8_tightNow_1 : decode cX8_tightNow 1 = .ok (.getfield 33, 3) := by decide +kernel
theorem dX8_tightNow_4 : decode cX8_tightNow 4 = .ok (.getfield 162, 3) := by decide +kernel
theorem dX8_tightNow_7 : decode cX8_tightNow 7 = .ok (.iload_n 1, 1) := by decide +kernel
theorem dX8_tightNow_8 : decode cX8_tightNow 8 = .ok (.iaload, 1) := by decide +kernel
theorem dX8_tightNow_9 : decode cX8_tightNow 9 = .ok (.istore_n 2, 1) := by decide +kernel
theorem dX8_tightNow_10 : decode cX8_tightNow 10 = .ok (.iload_n 2, 1) := by decide +kernel
theorem dX8_tightNow_11 : decode cX8_tightNow 11 = .ok (.iconst (-1), 1) := by decide +kernel
theorem dX8_tightNow_12 : decode cX8_tightNow 12 = .ok (.if_icmp .ne 7, 3) := by decide +kernel
theorem dX8_tightNow_15 : decode cX8_tightNow 15 = .ok (.iconst 0, 1) := by decide +kernel
theorem dX8_tightNow_16 : decode cX8_tightNow 16 = .ok (.goto 12, 3) := by decide +kernel
theorem dX8_tightNow_19 : decode cX8_tightNow 19 = .ok (.aload_n 0, 1) := by decide +kernel
theorem dX8_tightNow_20 : decode cX8_tightNow 20 = .ok (.getfield 33, 3) := by decide +kernel
theorem dX8_tightNow_23 : decode cX8_tightNow 23 = .ok (.iload_n 1, 1) := by decide +kernel
theorem dX8_tightNow_24 : decode cX8_tightNow 24 = .ok (.iload_n 2, 1) := by decide +kernel
theorem dX8_tightNow_25 : decode cX8_tightNow 25 = .ok (.invokevirtual 172, 3) := by decide +kernel
theorem dX8_tightNow_28 : decode cX8_tightNow 28 = .ok (.ireturn, 1) := by decide +kernel
theorem dX8_needed_0 : decode cX8_needed 0 = .ok (.aload_n 0, 1) := by decide +kernel
theorem dX8_needed_1 : decode cX8_needed 1 = .ok (.getfield 74, 3) := by decide +kernel
theorem dX8_needed_4 : decode cX8_needed 4 = .ok (.aload_n 0, 1) := by decide +kernel
theorem dX8_needed_5 : decode cX8_needed 5 = .ok (.getfield 23, 3) := by decide +kernel
theorem dX8_needed_8 : decode cX8_needed 8 = .ok (.aload_n 0, 1) := by decide +kernel
theorem dX8_needed_9 : decode cX8_needed 9 = .ok (.getfield 33, 3) := by decide +kernel
theorem dX8_needed_12 : decode cX8_needed 12 = .ok (.invokevirtual 176, 3) := by decide +kernel
theorem dX8_needed_15 : decode cX8_needed 15 = .ok (.iconst 0, 1) := by decide +kernel
theorem dX8_needed_16 : decode cX8_needed 16 = .ok (.istore_n 1, 1) := by decide +kernel
theorem dX8_needed_17 : decode cX8_needed 17 = .ok (.iconst 0, 1) := by decide +kernel
theorem dX8_needed_18 : decode cX8_needed 18 = .ok (.istore_n 2, 1) := by decide +kernel
theorem dX8_needed_19 : decode cX8_needed 19 = .ok (.iload_n 2, 1) := by decide +kernel
theorem dX8_needed_20 : decode cX8_needed 20 = .ok (.aload_n 0, 1) := by decide +kernel
theorem dX8_needed_21 : decode cX8_needed 21 = .ok (.getfield 23, 3) := by decide +kernel
theorem dX8_needed_24 : decode cX8_needed 24 = .ok (.getfield 119, 3) := by decide +kernel
theorem dX8_needed_27 : decode cX8_needed 27 = .ok (.if_icmp .ge 33, 3) := by decide +kernel
theorem dX8_needed_30 : decode cX8_needed 30 = .ok (.aload_n 0, 1) := by decide +kernel
theorem dX8_needed_31 : decode cX8_needed 31 = .ok (.getfield 74, 3) := by decide +kernel
theorem dX8_needed_34 : decode cX8_needed 34 = .ok (.iload_n 2, 1) := by decide +kernel
theorem dX8_needed_35 : decode cX8_needed 35 = .ok (.invokevirtual 180, 3) := by decide +kernel
theorem dX8_needed_38 : decode cX8_needed 38 = .ok (.aload_n 0, 1) := by decide +kernel
theorem dX8_needed_39 : decode cX8_needed 39 = .ok (.getfield 74, 3) := by decide +kernel
theorem dX8_needed_42 : decode cX8_needed 42 = .ok (.invokevirtual 183, 3) := by decide +kernel
theorem dX8_needed_45 : decode cX8_needed 45 = .ok (.if_icmp .le 9, 3) := by decide +kernel
theorem dX8_needed_48 : decode cX8_needed 48 = .ok (.iload_n 1, 1) := by decide +kernel
theorem dX8_needed_49 : decode cX8_needed 49 = .ok (.iconst 1, 1) := by decide +kernel
theorem dX8_needed_50 : decode cX8_needed 50 = .ok (.iload_n 2, 1) := by decide +kernel
theorem dX8_needed_51 : decode cX8_needed 51 = .ok (.ishl, 1) := by decide +kernel
theorem dX8_needed_52 : decode cX8_needed 52 = .ok (.ior, 1) := by decide +kernel
theorem dX8_needed_53 : decode cX8_needed 53 = .ok (.istore_n 1, 1) := by decide +kernel
theorem dX8_needed_54 : decode cX8_needed 54 = .ok (.iinc 2 1, 3) := by decide +kernel
theorem dX8_needed_57 : decode cX8_needed 57 = .ok (.goto (-38), 3) := by decide +kernel
theorem dX8_needed_60 : decode cX8_needed 60 = .ok (.iload_n 1, 1) := by decide +kernel
theorem dX8_needed_61 : decode cX8_needed 61 = .ok (.ireturn, 1) := by decide +kernel
theorem dX8_house_0 : decode cX8_house 0 = .ok (.aload_n 0, 1) := by decide +kernel
theorem dX8_house_1 : decode cX8_house 1 = .ok (.iload_n 1, 1) := by decide +kernel
theorem dX8_house_2 : decode cX8_house 2 = .ok (.invokevirtual 186, 3) := by decide +kernel
theorem dX8_house_5 : decode cX8_house 5 = .ok (.iload_n 2, 1) := by decide +kernel
theorem dX8_house_6 : decode cX8_house 6 = .ok (.tableswitch 125 0 7 #[46, 56, 66, 76, 86, 96, 113, 119], 46) := by decide +kernel
theorem dX8_house_52 : decode cX8_house 52 = .ok (.aload_n 0, 1) := by decide +kernel
theorem dX8_house_53 : decode cX8_house 53 = .ok (.getfield 33, 3) := by decide +kernel
theorem dX8_house_56 : decode cX8_house 56 = .ok (.getfield 189, 3) := by decide +kernel
theorem dX8_house_59 : decode cX8_house 59 = .ok (.iload_n 1, 1) := by decide +kernel
theorem dX8_house_60 : decode cX8_house 60 = .ok (.iaload, 1) := by decide +kernel
theorem dX8_house_61 : decode cX8_house 61 = .ok (.ireturn, 1) := by decide +kernel
theorem dX8_house_62 : decode cX8_house 62 = .ok (.aload_n 0, 1) := by decide +kernel
theorem dX8_house_63 : decode cX8_house 63 = .ok (.getfield 23, 3) := by decide +kernel
theorem dX8_house_66 : decode cX8_house 66 = .ok (.getfield 192, 3) := by decide +kernel
theorem dX8_house_69 : decode cX8_house 69 = .ok (.iload_n 1, 1) := by decide +kernel
theorem dX8_house_70 : decode cX8_house 70 = .ok (.iaload, 1) := by decide +kernel
theorem dX8_house_71 : decode cX8_house 71 = .ok (.ireturn, 1) := by decide +kernel
theorem dX8_house_72 : decode cX8_house 72 = .ok (.aload_n 0, 1) := by decide +kernel
theorem dX8_house_73 : decode cX8_house 73 = .ok (.getfield 23, 3) := by decide +kernel
theorem dX8_house_76 : decode cX8_house 76 = .ok (.getfield 195, 3) := by decide +kernel
theorem dX8_house_79 : decode cX8_house 79 = .ok (.iload_n 1, 1) := by decide +kernel
theorem dX8_house_80 : decode cX8_house 80 = .ok (.iaload, 1) := by decide +kernel
theorem dX8_house_81 : decode cX8_house 81 = .ok (.ireturn, 1) := by decide +kernel
theorem dX8_house_82 : decode cX8_house 82 = .ok (.aload_n 0, 1) := by decide +kernel
theorem dX8_house_83 : decode cX8_house 83 = .ok (.getfield 33, 3) := by decide +kernel
theorem dX8_house_86 : decode cX8_house 86 = .ok (.getfield 197, 3) := by decide +kernel
theorem dX8_house_89 : decode cX8_house 89 = .ok (.iload_n 1, 1) := by decide +kernel
theorem dX8_house_90 : decode cX8_house 90 = .ok (.iaload, 1) := by decide +kernel
theorem dX8_house_91 : decode cX8_house 91 = .ok (.ireturn, 1) := by decide +kernel
theorem dX8_house_92 : decode cX8_house 92 = .ok (.aload_n 0, 1) := by decide +kernel
theorem dX8_house_93 : decode cX8_house 93 = .ok (.getfield 33, 3) := by decide +kernel
theorem dX8_house_96 : decode cX8_house 96 = .ok (.getfield 159, 3) := by decide +kernel
theorem dX8_house_99 : decode cX8_house 99 = .ok (.iload_n 1, 1) := by decide +kernel
theorem dX8_house_100 : decode cX8_house 100 = .ok (.iaload, 1) := by decide +kernel
theorem dX8_house_101 : decode cX8_house 101 = .ok (.ireturn, 1) := by decide +kernel
theorem dX8_house_102 : decode cX8_house 102 = .ok (.aload_n 0, 1) := by decide +kernel
theorem dX8_house_103 : decode cX8_house 103 = .ok (.getfield 33, 3) := by decide +kernel
theorem dX8_house_106 : decode cX8_house 106 = .ok (.iload_n 1, 1) := by decide +kernel
theorem dX8_house_107 : decode cX8_house 107 = .ok (.invokevirtual 200, 3) := by decide +kernel
theorem dX8_house_110 : decode cX8_house 110 = .ok (.ifCond .eq 7, 3) := by decide +kernel
theorem dX8_house_113 : decode cX8_house 113 = .ok (.iconst 1, 1) := by decide +kernel
theorem dX8_house_114 : decode cX8_house 114 = .ok (.goto 4, 3) := by decide +kernel
theorem dX8_house_117 : decode cX8_house 117 = .ok (.iconst 0, 1) := by decide +kernel
theorem dX8_house_118 : decode cX8_house 118 = .ok (.ireturn, 1) := by decide +kernel
theorem dX8_house_119 : decode cX8_house 119 = .ok (.aload_n 0, 1) := by decide +kernel
theorem dX8_house_120 : decode cX8_house 120 = .ok (.iload_n 1, 1) := by decide +kernel
theorem dX8_house_121 : decode cX8_house 121 = .ok (.invokevirtual 204, 3) := by decide +kernel
theorem dX8_house_124 : decode cX8_house 124 = .ok (.ireturn, 1) := by decide +kernel
theorem dX8_house_125 : decode cX8_house 125 = .ok (.aload_n 0, 1) := by decide +kernel
theorem dX8_house_126 : decode cX8_house 126 = .ok (.iload_n 1, 1) := by decide +kernel
theorem dX8_house_127 : decode cX8_house 127 = .ok (.invokevirtual 207, 3) := by decide +kernel
theorem dX8_house_130 : decode cX8_house 130 = .ok (.ireturn, 1) := by decide +kernel
theorem dX8_house_131 : decode cX8_house 131 = .ok (.new 154, 3) := by decide +kernel
theorem dX8_house_134 : decode cX8_house 134 = .ok (.dup, 1) := by decide +kernel
theorem dX8_house_135 : decode cX8_house 135 = .ok (.ldc 210, 2) := by decide +kernel
theorem dX8_house_137 : decode cX8_house 137 = .ok (.invokespecial 158, 3) := by decide +kernel
theorem dX8_house_140 : decode cX8_house 140 = .ok (.athrow, 1) := by decide +kernel
theorem dX8_room_0 : decode cX8_room 0 = .ok (.aload_n 0, 1) := by decide +kernel
theorem dX8_room_1 : decode cX8_room 1 = .ok (.getfield 33, 3) := by decide +kernel
theorem dX8_room_4 : decode cX8_room 4 = .ok (.getfield 159, 3) := by decide +kernel
theorem dX8_room_7 : decode cX8_room 7 = .ok (.iload_n 1, 1) := by decide +kernel
theorem dX8_room_8 : decode cX8_room 8 = .ok (.iaload, 1) := by decide +kernel
theorem dX8_room_9 : decode cX8_room 9 = .ok (.istore_n 2, 1) := by decide +kernel
theorem dX8_room_10 : decode cX8_room 10 = .ok (.iload_n 2, 1) := by decide +kernel
theorem dX8_room_11 : decode cX8_room 11 = .ok (.iconst (-1), 1) := by decide +kernel
theorem dX8_room_12 : decode cX8_room 12 = .ok (.if_icmp .ne 7, 3) := by decide +kernel
theorem dX8_room_15 : decode cX8_room 15 = .ok (.iconst 0, 1) := by decide +kernel
theorem dX8_room_16 : decode cX8_room 16 = .ok (.goto 26, 3) := by decide +kernel
theorem dX8_room_19 : decode cX8_room 19 = .ok (.iconst 0, 1) := by decide +kernel
theorem dX8_room_20 : decode cX8_room 20 = .ok (.aload_n 0, 1) := by decide +kernel
theorem dX8_room_21 : decode cX8_room 21 = .ok (.getfield 33, 3) := by decide +kernel
theorem dX8_room_24 : decode cX8_room 24 = .ok (.getfield 189, 3) := by decide +kernel
theorem dX8_room_27 : decode cX8_room 27 = .ok (.iload_n 1, 1) := by decide +kernel
theorem dX8_room_28 : decode cX8_room 28 = .ok (.iaload, 1) := by decide +kernel
theorem dX8_room_29 : decode cX8_room 29 = .ok (.aload_n 0, 1) := by decide +kernel
theorem dX8_room_30 : decode cX8_room 30 = .ok (.getfield 33, 3) := by decide +kernel
theorem dX8_room_33 : decode cX8_room 33 = .ok (.getfield 212, 3) := by decide +kernel
theorem dX8_room_36 : decode cX8_room 36 = .ok (.iload_n 2, 1) := by decide +kernel
theorem dX8_room_37 : decode cX8_room 37 = .ok (.iaload, 1) := by decide +kernel
theorem dX8_room_38 : decode cX8_room 38 = .ok (.isub, 1) := by decide +kernel
theorem dX8_room_39 : decode cX8_room 39 = .ok (.invokestatic 215, 3) := by decide +kernel
theorem dX8_room_42 : decode cX8_room 42 = .ok (.ireturn, 1) := by decide +kernel
theorem dX8_nextDoor_0 : decode cX8_nextDoor 0 = .ok (.iconst (-1), 1) := by decide +kernel
theorem dX8_nextDoor_1 : decode cX8_nextDoor 1 = .ok (.istore_n 2, 1) := by decide +kernel
theorem dX8_nextDoor_2 : decode cX8_nextDoor 2 = .ok (.bipush 31, 2) := by decide +kernel
theorem dX8_nextDoor_4 : decode cX8_nextDoor 4 = .ok (.istore_n 3, 1) := by decide +kernel
theorem dX8_nextDoor_5 : decode cX8_nextDoor 5 = .ok (.iconst 0, 1) := by decide +kernel
theorem dX8_nextDoor_6 : decode cX8_nextDoor 6 = .ok (.istore 4, 2) := by decide +kernel
theorem dX8_nextDoor_8 : decode cX8_nextDoor 8 = .ok (.iload 4, 2) := by decide +kernel
theorem dX8_nextDoor_10 : decode cX8_nextDoor 10 = .ok (.aload_n 0, 1) := by decide +kernel
theorem dX8_nextDoor_11 : decode cX8_nextDoor 11 = .ok (.getfield 23, 3) := by decide +kernel
theorem dX8_nextDoor_14 : decode cX8_nextDoor 14 = .ok (.getfield 119, 3) := by decide +kernel
theorem dX8_nextDoor_17 : decode cX8_nextDoor 17 = .ok (.if_icmp .ge 52, 3) := by decide +kernel
theorem dX8_nextDoor_20 : decode cX8_nextDoor 20 = .ok (.aload_n 0, 1) := by decide +kernel
theorem dX8_nextDoor_21 : decode cX8_nextDoor 21 = .ok (.getfield 23, 3) := by decide +kernel
theorem dX8_nextDoor_24 : decode cX8_nextDoor 24 = .ok (.getfield 195, 3) := by decide +kernel
theorem dX8_nextDoor_27 : decode cX8_nextDoor 27 = .ok (.iload 4, 2) := by decide +kernel
theorem dX8_nextDoor_29 : decode cX8_nextDoor 29 = .ok (.iaload, 1) := by decide +kernel
theorem dX8_nextDoor_30 : decode cX8_nextDoor 30 = .ok (.aload_n 0, 1) := by decide +kernel
theorem dX8_nextDoor_31 : decode cX8_nextDoor 31 = .ok (.getfield 23, 3) := by decide +kernel
theorem dX8_nextDoor_34 : decode cX8_nextDoor 34 = .ok (.getfield 195, 3) := by decide +kernel
theorem dX8_nextDoor_37 : decode cX8_nextDoor 37 = .ok (.iload_n 1, 1) := by decide +kernel
theorem dX8_nextDoor_38 : decode cX8_nextDoor 38 = .ok (.iaload, 1) := by decide +kernel
theorem dX8_nextDoor_39 : decode cX8_nextDoor 39 = .ok (.isub, 1) := by decide +kernel
theorem dX8_nextDoor_40 : decode cX8_nextDoor 40 = .ok (.invokestatic 220, 3) := by decide +kernel
theorem dX8_nextDoor_43 : decode cX8_nextDoor 43 = .ok (.istore 5, 2) := by decide +kernel
theorem dX8_nextDoor_45 : decode cX8_nextDoor 45 = .ok (.iload 4, 2) := by decide +kernel
theorem dX8_nextDoor_47 : decode cX8_nextDoor 47 = .ok (.iload_n 1, 1) := by decide +kernel
theorem dX8_nextDoor_48 : decode cX8_nextDoor 48 = .ok (.if_icmp .eq 15, 3) := by decide +kernel
theorem dX8_nextDoor_51 : decode cX8_nextDoor 51 = .ok (.iload 5, 2) := by decide +kernel
theorem dX8_nextDoor_53 : decode cX8_nextDoor 53 = .ok (.iload_n 3, 1) := by decide +kernel
theorem dX8_nextDoor_54 : decode cX8_nextDoor 54 = .ok (.if_icmp .ge 9, 3) := by decide +kernel
theorem dX8_nextDoor_57 : decode cX8_nextDoor 57 = .ok (.iload 5, 2) := by decide +kernel
theorem dX8_nextDoor_59 : decode cX8_nextDoor 59 = .ok (.istore_n 3, 1) := by decide +kernel
theorem dX8_nextDoor_60 : decode cX8_nextDoor 60 = .ok (.iload 4, 2) := by decide +kernel
theorem dX8_nextDoor_62 : decode cX8_nextDoor 62 = .ok (.istore_n 2, 1) := by decide +kernel
theorem dX8_nextDoor_63 : decode cX8_nextDoor 63 = .ok (.iinc 4 1, 3) := by decide +kernel
theorem dX8_nextDoor_66 : decode cX8_nextDoor 66 = .ok (.goto (-58), 3) := by decide +kernel
theorem dX8_nextDoor_69 : decode cX8_nextDoor 69 = .ok (.iload_n 2, 1) := by decide +kernel
theorem dX8_nextDoor_70 : decode cX8_nextDoor 70 = .ok (.ireturn, 1) := by decide +kernel
theorem dX8_person_0 : decode cX8_person 0 = .ok (.aload_n 0, 1) := by decide +kernel
theorem dX8_person_1 : decode cX8_person 1 = .ok (.iload_n 1, 1) := by decide +kernel
theorem dX8_person_2 : decode cX8_person 2 = .ok (.invokevirtual 223, 3) := by decide +kernel
theorem dX8_person_5 : decode cX8_person 5 = .ok (.iload_n 2, 1) := by decide +kernel
theorem dX8_person_6 : decode cX8_person 6 = .ok (.tableswitch 80 0 4 #[34, 44, 54, 64, 74], 34) := by decide +kernel
theorem dX8_person_40 : decode cX8_person 40 = .ok (.aload_n 0, 1) := by decide +kernel
theorem dX8_person_41 : decode cX8_person 41 = .ok (.getfield 33, 3) := by decide +kernel
theorem dX8_person_44 : decode cX8_person 44 = .ok (.getfield 212, 3) := by decide +kernel
theorem dX8_person_47 : decode cX8_person 47 = .ok (.iload_n 1, 1) := by decide +kernel
theorem dX8_person_48 : decode cX8_person 48 = .ok (.iaload, 1) := by decide +kernel
theorem dX8_person_49 : decode cX8_person 49 = .ok (.ireturn, 1) := by decide +kernel
theorem dX8_person_50 : decode cX8_person 50 = .ok (.aload_n 0, 1) := by decide +kernel
theorem dX8_person_51 : decode cX8_person 51 = .ok (.getfield 23, 3) := by decide +kernel
theorem dX8_person_54 : decode cX8_person 54 = .ok (.getfield 226, 3) := by decide +kernel
theorem dX8_person_57 : decode cX8_person 57 = .ok (.iload_n 1, 1) := by decide +kernel
theorem dX8_person_58 : decode cX8_person 58 = .ok (.iaload, 1) := by decide +kernel
theorem dX8_person_59 : decode cX8_person 59 = .ok (.ireturn, 1) := by decide +kernel
theorem dX8_person_60 : decode cX8_person 60 = .ok (.aload_n 0, 1) := by decide +kernel
theorem dX8_person_61 : decode cX8_person 61 = .ok (.getfield 33, 3) := by decide +kernel
theorem dX8_person_64 : decode cX8_person 64 = .ok (.getfield 162, 3) := by decide +kernel
theorem dX8_person_67 : decode cX8_person 67 = .ok (.iload_n 1, 1) := by decide +kernel
theorem dX8_person_68 : decode cX8_person 68 = .ok (.iaload, 1) := by decide +kernel
theorem dX8_person_69 : decode cX8_person 69 = .ok (.ireturn, 1) := by decide +kernel
theorem dX8_person_70 : decode cX8_person 70 = .ok (.aload_n 0, 1) := by decide +kernel
theorem dX8_person_71 : decode cX8_person 71 = .ok (.getfield 33, 3) := by decide +kernel
theorem dX8_person_74 : decode cX8_person 74 = .ok (.getfield 165, 3) := by decide +kernel
theorem dX8_person_77 : decode cX8_person 77 = .ok (.iload_n 1, 1) := by decide +kernel
theorem dX8_person_78 : decode cX8_person 78 = .ok (.iaload, 1) := by decide +kernel
theorem dX8_person_79 : decode cX8_person 79 = .ok (.ireturn, 1) := by decide +kernel
theorem dX8_person_80 : decode cX8_person 80 = .ok (.aload_n 0, 1) := by decide +kernel
theorem dX8_person_81 : decode cX8_person 81 = .ok (.iload_n 1, 1) := by decide +kernel
theorem dX8_person_82 : decode cX8_person 82 = .ok (.invokevirtual 168, 3) := by decide +kernel
theorem dX8_person_85 : decode cX8_person 85 = .ok (.ireturn, 1) := by decide +kernel
theorem dX8_person_86 : decode cX8_person 86 = .ok (.new 154, 3) := by decide +kernel
theorem dX8_person_89 : decode cX8_person 89 = .ok (.dup, 1) := by decide +kernel
theorem dX8_person_90 : decode cX8_person 90 = .ok (.ldc 229, 2) := by decide +kernel
theorem dX8_person_92 : decode cX8_person 92 = .ok (.invokespecial 158, 3) := by decide +kernel
theorem dX8_person_95 : decode cX8_person 95 = .ok (.athrow, 1) := by decide +kernel
theorem dX8_eases_0 : decode cX8_eases 0 = .ok (.aload_n 0, 1) := by decide +kernel
theorem dX8_eases_1 : decode cX8_eases 1 = .ok (.iload_n 1, 1) := by decide +kernel
theorem dX8_eases_2 : decode cX8_eases 2 = .ok (.invokevirtual 223, 3) := by decide +kernel
theorem dX8_eases_5 : decode cX8_eases 5 = .ok (.aload_n 0, 1) := by decide +kernel
theorem dX8_eases_6 : decode cX8_eases 6 = .ok (.iload_n 2, 1) := by decide +kernel
theorem dX8_eases_7 : decode cX8_eases 7 = .ok (.invokevirtual 186, 3) := by decide +kernel
theorem dX8_eases_10 : decode cX8_eases 10 = .ok (.aload_n 0, 1) := by decide +kernel
theorem dX8_eases_11 : decode cX8_eases 11 = .ok (.getfield 23, 3) := by decide +kernel
theorem dX8_eases_14 : decode cX8_eases 14 = .ok (.aload_n 0, 1) := by decide +kernel
theorem dX8_eases_15 : decode cX8_eases 15 = .ok (.getfield 33, 3) := by decide +kernel
theorem dX8_eases_18 : decode cX8_eases 18 = .ok (.iload_n 1, 1) := by decide +kernel
theorem dX8_eases_19 : decode cX8_eases 19 = .ok (.iload_n 2, 1) := by decide +kernel
theorem dX8_eases_20 : decode cX8_eases 20 = .ok (.aload_n 0, 1) := by decide +kernel
theorem dX8_eases_21 : decode cX8_eases 21 = .ok (.getfield 23, 3) := by decide +kernel
theorem dX8_eases_24 : decode cX8_eases 24 = .ok (.aload_n 0, 1) := by decide +kernel
theorem dX8_eases_25 : decode cX8_eases 25 = .ok (.getfield 33, 3) := by decide +kernel
theorem dX8_eases_28 : decode cX8_eases 28 = .ok (.invokevirtual 128, 3) := by decide +kernel
theorem dX8_eases_31 : decode cX8_eases 31 = .ok (.invokevirtual 231, 3) := by decide +kernel
theorem dX8_eases_34 : decode cX8_eases 34 = .ok (.ireturn, 1) := by decide +kernel
theorem dX8_entersNow_0 : decode cX8_entersNow 0 = .ok (.aload_n 0, 1) := by decide +kernel
theorem dX8_entersNow_1 : decode cX8_entersNow 1 = .ok (.getfield 23, 3) := by decide +kernel
theorem dX8_entersNow_4 : decode cX8_entersNow 4 = .ok (.aload_n 0, 1) := by decide +kernel
theorem dX8_entersNow_5 : decode cX8_entersNow 5 = .ok (.getfield 33, 3) := by decide +kernel
theorem dX8_entersNow_8 : decode cX8_entersNow 8 = .ok (.iload_n 1, 1) := by decide +kernel
theorem dX8_entersNow_9 : decode cX8_entersNow 9 = .ok (.iload_n 2, 1) := by decide +kernel
theorem dX8_entersNow_10 : decode cX8_entersNow 10 = .ok (.aload_n 0, 1) := by decide +kernel
theorem dX8_entersNow_11 : decode cX8_entersNow 11 = .ok (.getfield 23, 3) := by decide +kernel
theorem dX8_entersNow_14 : decode cX8_entersNow 14 = .ok (.aload_n 0, 1) := by decide +kernel
theorem dX8_entersNow_15 : decode cX8_entersNow 15 = .ok (.getfield 33, 3) := by decide +kernel
theorem dX8_entersNow_18 : decode cX8_entersNow 18 = .ok (.invokevirtual 128, 3) := by decide +kernel
theorem dX8_entersNow_21 : decode cX8_entersNow 21 = .ok (.invokevirtual 235, 3) := by decide +kernel
theorem dX8_entersNow_24 : decode cX8_entersNow 24 = .ok (.ireturn, 1) := by decide +kernel
theorem dX8_days_0 : decode cX8_days 0 = .ok (.iload_n 1, 1) := by decide +kernel
theorem dX8_days_1 : decode cX8_days 1 = .ok (.iconst 1, 1) := by decide +kernel
theorem dX8_days_2 : decode cX8_days 2 = .ok (.if_icmp .lt 24, 3) := by decide +kernel
theorem dX8_days_5 : decode cX8_days 5 = .ok (.iload_n 1, 1) := by decide +kernel
theorem dX8_days_6 : decode cX8_days 6 = .ok (.bipush 20, 2) := by decide +kernel
theorem dX8_days_8 : decode cX8_days 8 = .ok (.if_icmp .gt 18, 3) := by decide +kernel
theorem dX8_days_11 : decode cX8_days 11 = .ok (.aload_n 0, 1) := by decide +kernel
theorem dX8_days_12 : decode cX8_days 12 = .ok (.getfield 33, 3) := by decide +kernel
theorem dX8_days_15 : decode cX8_days 15 = .ok (.getfield 125, 3) := by decide +kernel
theorem dX8_days_18 : decode cX8_days 18 = .ok (.iload_n 1, 1) := by decide +kernel
theorem dX8_days_19 : decode cX8_days 19 = .ok (.iadd, 1) := by decide +kernel
theorem dX8_days_20 : decode cX8_days 20 = .ok (.sipush 999, 3) := by decide +kernel
theorem dX8_days_23 : decode cX8_days 23 = .ok (.if_icmp .le 8, 3) := by decide +kernel
theorem dX8_days_26 : decode cX8_days 26 = .ok (.aload_n 0, 1) := by decide +kernel
theorem dX8_days_27 : decode cX8_days 27 = .ok (.invokevirtual 239, 3) := by decide +kernel
theorem dX8_days_30 : decode cX8_days 30 = .ok (.ireturn, 1) := by decide +kernel
theorem dX8_days_31 : decode cX8_days 31 = .ok (.aload_n 0, 1) := by decide +kernel
theorem dX8_days_32 : decode cX8_days 32 = .ok (.getfield 43, 3) := by decide +kernel
theorem dX8_days_35 : decode cX8_days 35 = .ok (.aload_n 0, 1) := by decide +kernel
theorem dX8_days_36 : decode cX8_days 36 = .ok (.getfield 33, 3) := by decide +kernel
theorem dX8_days_39 : decode cX8_days 39 = .ok (.invokevirtual 242, 3) := by decide +kernel
theorem dX8_days_42 : decode cX8_days 42 = .ok (.aload_n 0, 1) := by decide +kernel
theorem dX8_days_43 : decode cX8_days 43 = .ok (.aload_n 0, 1) := by decide +kernel
theorem dX8_days_44 : decode cX8_days 44 = .ok (.getfield 33, 3) := by decide +kernel
theorem dX8_days_47 : decode cX8_days 47 = .ok (.iload_n 1, 1) := by decide +kernel
theorem dX8_days_48 : decode cX8_days 48 = .ok (.invokevirtual 245, 3) := by decide +kernel
theorem dX8_days_51 : decode cX8_days 51 = .ok (.aload_n 0, 1) := by decide +kernel
theorem dX8_days_52 : decode cX8_days 52 = .ok (.getfield 33, 3) := by decide +kernel
theorem dX8_days_55 : decode cX8_days 55 = .ok (.getfield 125, 3) := by decide +kernel
theorem dX8_days_58 : decode cX8_days 58 = .ok (.ireturn, 1) := by decide +kernel
theorem dX8_putIn_0 : decode cX8_putIn 0 = .ok (.aload_n 0, 1) := by decide +kernel
theorem dX8_putIn_1 : decode cX8_putIn 1 = .ok (.iload_n 1, 1) := by decide +kernel
theorem dX8_putIn_2 : decode cX8_putIn 2 = .ok (.invokevirtual 223, 3) := by decide +kernel
theorem dX8_putIn_5 : decode cX8_putIn 5 = .ok (.aload_n 0, 1) := by decide +kernel
theorem dX8_putIn_6 : decode cX8_putIn 6 = .ok (.iload_n 2, 1) := by decide +kernel
theorem dX8_putIn_7 : decode cX8_putIn 7 = .ok (.invokevirtual 186, 3) := by decide +kernel
theorem dX8_putIn_10 : decode cX8_putIn 10 = .ok (.aload_n 0, 1) := by decide +kernel
theorem dX8_putIn_11 : decode cX8_putIn 11 = .ok (.getfield 33, 3) := by decide +kernel
theorem dX8_putIn_14 : decode cX8_putIn 14 = .ok (.getfield 162, 3) := by decide +kernel
theorem dX8_putIn_17 : decode cX8_putIn 17 = .ok (.iload_n 1, 1) := by decide +kernel
theorem dX8_putIn_18 : decode cX8_putIn 18 = .ok (.iaload, 1) := by decide +kernel
theorem dX8_putIn_19 : decode cX8_putIn 19 = .ok (.iconst (-1), 1) := by decide +kernel
theorem dX8_putIn_20 : decode cX8_putIn 20 = .ok (.if_icmp .ne 25, 3) := by decide +kernel
theorem dX8_putIn_23 : decode cX8_putIn 23 = .ok (.aload_n 0, 1) := by decide +kernel
theorem dX8_putIn_24 : decode cX8_putIn 24 = .ok (.getfield 33, 3) := by decide +kernel
theorem dX8_putIn_27 : decode cX8_putIn 27 = .ok (.getfield 159, 3) := by decide +kernel
theorem dX8_putIn_30 : decode cX8_putIn 30 = .ok (.iload_n 2, 1) := by decide +kernel
theorem dX8_putIn_31 : decode cX8_putIn 31 = .ok (.iaload, 1) := by decide +kernel
theorem dX8_putIn_32 : decode cX8_putIn 32 = .ok (.iconst (-1), 1) := by decide +kernel
theorem dX8_putIn_33 : decode cX8_putIn 33 = .ok (.if_icmp .ne 12, 3) := by decide +kernel
theorem dX8_putIn_36 : decode cX8_putIn 36 = .ok (.aload_n 0, 1) := by decide +kernel
theorem dX8_putIn_37 : decode cX8_putIn 37 = .ok (.iload_n 1, 1) := by decide +kernel
theorem dX8_putIn_38 : decode cX8_putIn 38 = .ok (.iload_n 2, 1) := by decide +kernel
theorem dX8_putIn_39 : decode cX8_putIn 39 = .ok (.invokevirtual 249, 3) := by decide +kernel
theorem dX8_putIn_42 : decode cX8_putIn 42 = .ok (.ifCond .ne 8, 3) := by decide +kernel
theorem dX8_putIn_45 : decode cX8_putIn 45 = .ok (.aload_n 0, 1) := by decide +kernel
theorem dX8_putIn_46 : decode cX8_putIn 46 = .ok (.invokevirtual 239, 3) := by decide +kernel
theorem dX8_putIn_49 : decode cX8_putIn 49 = .ok (.ireturn, 1) := by decide +kernel
theorem dX8_putIn_50 : decode cX8_putIn 50 = .ok (.aload_n 0, 1) := by decide +kernel
theorem dX8_putIn_51 : decode cX8_putIn 51 = .ok (.getfield 43, 3) := by decide +kernel
theorem dX8_putIn_54 : decode cX8_putIn 54 = .ok (.aload_n 0, 1) := by decide +kernel
theorem dX8_putIn_55 : decode cX8_putIn 55 = .ok (.getfield 33, 3) := by decide +kernel
theorem dX8_putIn_58 : decode cX8_putIn 58 = .ok (.invokevirtual 242, 3) := by decide +kernel
theorem dX8_putIn_61 : decode cX8_putIn 61 = .ok (.aload_n 0, 1) := by decide +kernel
theorem dX8_putIn_62 : decode cX8_putIn 62 = .ok (.getfield 33, 3) := by decide +kernel
theorem dX8_putIn_65 : decode cX8_putIn 65 = .ok (.iload_n 1, 1) := by decide +kernel
theorem dX8_putIn_66 : decode cX8_putIn 66 = .ok (.iload_n 2, 1) := by decide +kernel
theorem dX8_putIn_67 : decode cX8_putIn 67 = .ok (.invokevirtual 253, 3) := by decide +kernel
theorem dX8_putIn_70 : decode cX8_putIn 70 = .ok (.aload_n 0, 1) := by decide +kernel
theorem dX8_putIn_71 : decode cX8_putIn 71 = .ok (.getfield 33, 3) := by decide +kernel
theorem dX8_putIn_74 : decode cX8_putIn 74 = .ok (.iload_n 1, 1) := by decide +kernel
theorem dX8_putIn_75 : decode cX8_putIn 75 = .ok (.iload_n 2, 1) := by decide +kernel
theorem dX8_putIn_76 : decode cX8_putIn 76 = .ok (.invokevirtual 172, 3) := by decide +kernel
theorem dX8_putIn_79 : decode cX8_putIn 79 = .ok (.ireturn, 1) := by decide +kernel
theorem dX8_out_0 : decode cX8_out 0 = .ok (.aload_n 0, 1) := by decide +kernel
theorem dX8_out_1 : decode cX8_out 1 = .ok (.iload_n 1, 1) := by decide +kernel
theorem dX8_out_2 : decode cX8_out 2 = .ok (.invokevirtual 223, 3) := by decide +kernel
theorem dX8_out_5 : decode cX8_out 5 = .ok (.aload_n 0, 1) := by decide +kernel
theorem dX8_out_6 : decode cX8_out 6 = .ok (.getfield 33, 3) := by decide +kernel
theorem dX8_out_9 : decode cX8_out 9 = .ok (.getfield 162, 3) := by decide +kernel
theorem dX8_out_12 : decode cX8_out 12 = .ok (.iload_n 1, 1) := by decide +kernel
theorem dX8_out_13 : decode cX8_out 13 = .ok (.iaload, 1) := by decide +kernel
theorem dX8_out_14 : decode cX8_out 14 = .ok (.istore_n 2, 1) := by decide +kernel
theorem dX8_out_15 : decode cX8_out 15 = .ok (.iload_n 2, 1) := by decide +kernel
theorem dX8_out_16 : decode cX8_out 16 = .ok (.iconst (-1), 1) := by decide +kernel
theorem dX8_out_17 : decode cX8_out 17 = .ok (.if_icmp .ne 8, 3) := by decide +kernel
theorem dX8_out_20 : decode cX8_out 20 = .ok (.aload_n 0, 1) := by decide +kernel
theorem dX8_out_21 : decode cX8_out 21 = .ok (.invokevirtual 239, 3) := by decide +kernel
theorem dX8_out_24 : decode cX8_out 24 = .ok (.ireturn, 1) := by decide +kernel
theorem dX8_out_25 : decode cX8_out 25 = .ok (.aload_n 0, 1) := by decide +kernel
theorem dX8_out_26 : decode cX8_out 26 = .ok (.getfield 43, 3) := by decide +kernel
theorem dX8_out_29 : decode cX8_out 29 = .ok (.aload_n 0, 1) := by decide +kernel
theorem dX8_out_30 : decode cX8_out 30 = .ok (.getfield 33, 3) := by decide +kernel
theorem dX8_out_33 : decode cX8_out 33 = .ok (.invokevirtual 242, 3) := by decide +kernel
theorem dX8_out_36 : decode cX8_out 36 = .ok (.aload_n 0, 1) := by decide +kernel
theorem dX8_out_37 : decode cX8_out 37 = .ok (.getfield 33, 3) := by decide +kernel
theorem dX8_out_40 : decode cX8_out 40 = .ok (.iload_n 1, 1) := by decide +kernel
theorem dX8_out_41 : decode cX8_out 41 = .ok (.invokevirtual 257, 3) := by decide +kernel
theorem dX8_out_44 : decode cX8_out 44 = .ok (.iload_n 2, 1) := by decide +kernel
theorem dX8_out_45 : decode cX8_out 45 = .ok (.ireturn, 1) := by decide +kernel
theorem dX8_stuff_0 : decode cX8_stuff 0 = .ok (.aload_n 0, 1) := by decide +kernel
theorem dX8_stuff_1 : decode cX8_stuff 1 = .ok (.iload_n 1, 1) := by decide +kernel
theorem dX8_stuff_2 : decode cX8_stuff 2 = .ok (.invokevirtual 186, 3) := by decide +kernel
theorem dX8_stuff_5 : decode cX8_stuff 5 = .ok (.aload_n 0, 1) := by decide +kernel
theorem dX8_stuff_6 : decode cX8_stuff 6 = .ok (.getfield 33, 3) := by decide +kernel
theorem dX8_stuff_9 : decode cX8_stuff 9 = .ok (.getfield 159, 3) := by decide +kernel
theorem dX8_stuff_12 : decode cX8_stuff 12 = .ok (.iload_n 1, 1) := by decide +kernel
theorem dX8_stuff_13 : decode cX8_stuff 13 = .ok (.iaload, 1) := by decide +kernel
theorem dX8_stuff_14 : decode cX8_stuff 14 = .ok (.iconst (-1), 1) := by decide +kernel
theorem dX8_stuff_15 : decode cX8_stuff 15 = .ok (.if_icmp .ne 14, 3) := by decide +kernel
theorem dX8_stuff_18 : decode cX8_stuff 18 = .ok (.iload_n 2, 1) := by decide +kernel
theorem dX8_stuff_19 : decode cX8_stuff 19 = .ok (.iconst 1, 1) := by decide +kernel
theorem dX8_stuff_20 : decode cX8_stuff 20 = .ok (.if_icmp .lt 9, 3) := by decide +kernel
theorem dX8_stuff_23 : decode cX8_stuff 23 = .ok (.iload_n 2, 1) := by decide +kernel
theorem dX8_stuff_24 : decode cX8_stuff 24 = .ok (.bipush 20, 2) := by decide +kernel
theorem dX8_stuff_26 : decode cX8_stuff 26 = .ok (.if_icmp .le 8, 3) := by decide +kernel
theorem dX8_stuff_29 : decode cX8_stuff 29 = .ok (.aload_n 0, 1) := by decide +kernel
theorem dX8_stuff_30 : decode cX8_stuff 30 = .ok (.invokevirtual 239, 3) := by decide +kernel
theorem dX8_stuff_33 : decode cX8_stuff 33 = .ok (.ireturn, 1) := by decide +kernel
theorem dX8_stuff_34 : decode cX8_stuff 34 = .ok (.aload_n 0, 1) := by decide +kernel
theorem dX8_stuff_35 : decode cX8_stuff 35 = .ok (.getfield 43, 3) := by decide +kernel
theorem dX8_stuff_38 : decode cX8_stuff 38 = .ok (.aload_n 0, 1) := by decide +kernel
theorem dX8_stuff_39 : decode cX8_stuff 39 = .ok (.getfield 33, 3) := by decide +kernel
theorem dX8_stuff_42 : decode cX8_stuff 42 = .ok (.invokevirtual 242, 3) := by decide +kernel
theorem dX8_stuff_45 : decode cX8_stuff 45 = .ok (.aload_n 0, 1) := by decide +kernel
theorem dX8_stuff_46 : decode cX8_stuff 46 = .ok (.getfield 33, 3) := by decide +kernel
theorem dX8_stuff_49 : decode cX8_stuff 49 = .ok (.getfield 189, 3) := by decide +kernel
theorem dX8_stuff_52 : decode cX8_stuff 52 = .ok (.iload_n 1, 1) := by decide +kernel
theorem dX8_stuff_53 : decode cX8_stuff 53 = .ok (.iconst 1, 1) := by decide +kernel
theorem dX8_stuff_54 : decode cX8_stuff 54 = .ok (.aload_n 0, 1) := by decide +kernel
theorem dX8_stuff_55 : decode cX8_stuff 55 = .ok (.getfield 33, 3) := by decide +kernel
theorem dX8_stuff_58 : decode cX8_stuff 58 = .ok (.getfield 189, 3) := by decide +kernel
theorem dX8_stuff_61 : decode cX8_stuff 61 = .ok (.iload_n 1, 1) := by decide +kernel
theorem dX8_stuff_62 : decode cX8_stuff 62 = .ok (.iaload, 1) := by decide +kernel
theorem dX8_stuff_63 : decode cX8_stuff 63 = .ok (.iload_n 2, 1) := by decide +kernel
theorem dX8_stuff_64 : decode cX8_stuff 64 = .ok (.isub, 1) := by decide +kernel
theorem dX8_stuff_65 : decode cX8_stuff 65 = .ok (.invokestatic 215, 3) := by decide +kernel
theorem dX8_stuff_68 : decode cX8_stuff 68 = .ok (.iastore, 1) := by decide +kernel
theorem dX8_stuff_69 : decode cX8_stuff 69 = .ok (.aload_n 0, 1) := by decide +kernel
theorem dX8_stuff_70 : decode cX8_stuff 70 = .ok (.getfield 33, 3) := by decide +kernel
theorem dX8_stuff_73 : decode cX8_stuff 73 = .ok (.getfield 189, 3) := by decide +kernel
theorem dX8_stuff_76 : decode cX8_stuff 76 = .ok (.iload_n 1, 1) := by decide +kernel
theorem dX8_stuff_77 : decode cX8_stuff 77 = .ok (.iaload, 1) := by decide +kernel
theorem dX8_stuff_78 : decode cX8_stuff 78 = .ok (.ireturn, 1) := by decide +kernel
theorem dX8_change_0 : decode cX8_change 0 = .ok (.aload_n 0, 1) := by decide +kernel
theorem dX8_change_1 : decode cX8_change 1 = .ok (.iload_n 1, 1) := by decide +kernel
theorem dX8_change_2 : decode cX8_change 2 = .ok (.invokevirtual 223, 3) := by decide +kernel
theorem dX8_change_5 : decode cX8_change 5 = .ok (.aload_n 0, 1) := by decide +kernel
theorem dX8_change_6 : decode cX8_change 6 = .ok (.iload_n 2, 1) := by decide +kernel
theorem dX8_change_7 : decode cX8_change 7 = .ok (.invokevirtual 223, 3) := by decide +kernel
theorem dX8_change_10 : decode cX8_change 10 = .ok (.aload_n 0, 1) := by decide +kernel
theorem dX8_change_11 : decode cX8_change 11 = .ok (.getfield 33, 3) := by decide +kernel
theorem dX8_change_14 : decode cX8_change 14 = .ok (.getfield 162, 3) := by decide +kernel
theorem dX8_change_17 : decode cX8_change 17 = .ok (.iload_n 1, 1) := by decide +kernel
theorem dX8_change_18 : decode cX8_change 18 = .ok (.iaload, 1) := by decide +kernel
theorem dX8_change_19 : decode cX8_change 19 = .ok (.istore_n 3, 1) := by decide +kernel
theorem dX8_change_20 : decode cX8_change 20 = .ok (.aload_n 0, 1) := by decide +kernel
theorem dX8_change_21 : decode cX8_change 21 = .ok (.getfield 33, 3) := by decide +kernel
theorem dX8_change_24 : decode cX8_change 24 = .ok (.getfield 162, 3) := by decide +kernel
theorem dX8_change_27 : decode cX8_change 27 = .ok (.iload_n 2, 1) := by decide +kernel
theorem dX8_change_28 : decode cX8_change 28 = .ok (.iaload, 1) := by decide +kernel
theorem dX8_change_29 : decode cX8_change 29 = .ok (.istore 4, 2) := by decide +kernel
theorem dX8_change_31 : decode cX8_change 31 = .ok (.iload_n 3, 1) := by decide +kernel
theorem dX8_change_32 : decode cX8_change 32 = .ok (.iconst (-1), 1) := by decide +kernel
theorem dX8_change_33 : decode cX8_change 33 = .ok (.if_icmp .ne 13, 3) := by decide +kernel
theorem dX8_change_36 : decode cX8_change 36 = .ok (.iload 4, 2) := by decide +kernel
theorem dX8_change_38 : decode cX8_change 38 = .ok (.iconst (-1), 1) := by decide +kernel
theorem dX8_change_39 : decode cX8_change 39 = .ok (.if_icmp .ne 7, 3) := by decide +kernel
theorem dX8_change_42 : decode cX8_change 42 = .ok (.iconst 1, 1) := by decide +kernel
theorem dX8_change_43 : decode cX8_change 43 = .ok (.goto 4, 3) := by decide +kernel
theorem dX8_change_46 : decode cX8_change 46 = .ok (.iconst 0, 1) := by decide +kernel
theorem dX8_change_47 : decode cX8_change 47 = .ok (.istore 5, 2) := by decide +kernel
theorem dX8_change_49 : decode cX8_change 49 = .ok (.iload_n 1, 1) := by decide +kernel
theorem dX8_change_50 : decode cX8_change 50 = .ok (.iload_n 2, 1) := by decide +kernel
theorem dX8_change_51 : decode cX8_change 51 = .ok (.if_icmp .eq 27, 3) := by decide +kernel
theorem dX8_change_54 : decode cX8_change 54 = .ok (.iload 5, 2) := by decide +kernel
theorem dX8_change_56 : decode cX8_change 56 = .ok (.ifCond .ne 22, 3) := by decide +kernel
theorem dX8_change_59 : decode cX8_change 59 = .ok (.aload_n 0, 1) := by decide +kernel
theorem dX8_change_60 : decode cX8_change 60 = .ok (.iload_n 1, 1) := by decide +kernel
theorem dX8_change_61 : decode cX8_change 61 = .ok (.iload 4, 2) := by decide +kernel
theorem dX8_change_63 : decode cX8_change 63 = .ok (.invokevirtual 260, 3) := by decide +kernel
theorem dX8_change_66 : decode cX8_change 66 = .ok (.ifCond .eq 12, 3) := by decide +kernel
theorem dX8_change_69 : decode cX8_change 69 = .ok (.aload_n 0, 1) := by decide +kernel
theorem dX8_change_70 : decode cX8_change 70 = .ok (.iload_n 2, 1) := by decide +kernel
theorem dX8_change_71 : decode cX8_change 71 = .ok (.iload_n 3, 1) := by decide +kernel
theorem dX8_change_72 : decode cX8_change 72 = .ok (.invokevirtual 260, 3) := by decide +kernel
theorem dX8_change_75 : decode cX8_change 75 = .ok (.ifCond .ne 10, 3) := by decide +kernel
theorem dX8_change_78 : decode cX8_change 78 = .ok (.aload_n 0, 1) := by decide +kernel
theorem dX8_change_79 : decode cX8_change 79 = .ok (.invokevirtual 239, 3) := by decide +kernel
theorem dX8_change_82 : decode cX8_change 82 = .ok (.pop, 1) := by decide +kernel
theorem dX8_change_83 : decode cX8_change 83 = .ok (.iconst 0, 1) := by decide +kernel
theorem dX8_change_84 : decode cX8_change 84 = .ok (.ireturn, 1) := by decide +kernel
theorem dX8_change_85 : decode cX8_change 85 = .ok (.aload_n 0, 1) := by decide +kernel
theorem dX8_change_86 : decode cX8_change 86 = .ok (.getfield 43, 3) := by decide +kernel
theorem dX8_change_89 : decode cX8_change 89 = .ok (.aload_n 0, 1) := by decide +kernel
theorem dX8_change_90 : decode cX8_change 90 = .ok (.getfield 33, 3) := by decide +kernel
theorem dX8_change_93 : decode cX8_change 93 = .ok (.invokevirtual 242, 3) := by decide +kernel
theorem dX8_change_96 : decode cX8_change 96 = .ok (.aload_n 0, 1) := by decide +kernel
theorem dX8_change_97 : decode cX8_change 97 = .ok (.getfield 33, 3) := by decide +kernel
theorem dX8_change_100 : decode cX8_change 100 = .ok (.iload_n 1, 1) := by decide +kernel
theorem dX8_change_101 : decode cX8_change 101 = .ok (.invokevirtual 257, 3) := by decide +kernel
theorem dX8_change_104 : decode cX8_change 104 = .ok (.aload_n 0, 1) := by decide +kernel
theorem dX8_change_105 : decode cX8_change 105 = .ok (.getfield 33, 3) := by decide +kernel
theorem dX8_change_108 : decode cX8_change 108 = .ok (.iload_n 2, 1) := by decide +kernel
theorem dX8_change_109 : decode cX8_change 109 = .ok (.invokevirtual 257, 3) := by decide +kernel
theorem dX8_change_112 : decode cX8_change 112 = .ok (.aload_n 0, 1) := by decide +kernel
theorem dX8_change_113 : decode cX8_change 113 = .ok (.iload_n 1, 1) := by decide +kernel
theorem dX8_change_114 : decode cX8_change 114 = .ok (.iload 4, 2) := by decide +kernel
theorem dX8_change_116 : decode cX8_change 116 = .ok (.invokevirtual 263, 3) := by decide +kernel
theorem dX8_change_119 : decode cX8_change 119 = .ok (.aload_n 0, 1) := by decide +kernel
theorem dX8_change_120 : decode cX8_change 120 = .ok (.iload_n 2, 1) := by decide +kernel
theorem dX8_change_121 : decode cX8_change 121 = .ok (.iload_n 3, 1) := by decide +kernel
theorem dX8_change_122 : decode cX8_change 122 = .ok (.invokevirtual 263, 3) := by decide +kernel
theorem dX8_change_125 : decode cX8_change 125 = .ok (.iconst 1, 1) := by decide +kernel
theorem dX8_change_126 : decode cX8_change 126 = .ok (.ireturn, 1) := by decide +kernel
theorem dX8_mayMove_0 : decode cX8_mayMove 0 = .ok (.iload_n 2, 1) := by decide +kernel
theorem dX8_mayMove_1 : decode cX8_mayMove 1 = .ok (.iconst (-1), 1) := by decide +kernel
theorem dX8_mayMove_2 : decode cX8_mayMove 2 = .ok (.if_icmp .eq 12, 3) := by decide +kernel
theorem dX8_mayMove_5 : decode cX8_mayMove 5 = .ok (.aload_n 0, 1) := by decide +kernel
theorem dX8_mayMove_6 : decode cX8_mayMove 6 = .ok (.iload_n 1, 1) := by decide +kernel
theorem dX8_mayMove_7 : decode cX8_mayMove 7 = .ok (.iload_n 2, 1) := by decide +kernel
theorem dX8_mayMove_8 : decode cX8_mayMove 8 = .ok (.invokevirtual 249, 3) := by decide +kernel
theorem dX8_mayMove_11 : decode cX8_mayMove 11 = .ok (.ifCond .eq 7, 3) := by decide +kernel
theorem dX8_mayMove_14 : decode cX8_mayMove 14 = .ok (.iconst 1, 1) := by decide +kernel
theorem dX8_mayMove_15 : decode cX8_mayMove 15 = .ok (.goto 4, 3) := by decide +kernel
theorem dX8_mayMove_18 : decode cX8_mayMove 18 = .ok (.iconst 0, 1) := by decide +kernel
theorem dX8_mayMove_19 : decode cX8_mayMove 19 = .ok (.ireturn, 1) := by decide +kernel
theorem dX8_settleOrLodge_0 : decode cX8_settleOrLodge 0 = .ok (.iload_n 2, 1) := by decide +kernel
theorem dX8_settleOrLodge_1 : decode cX8_settleOrLodge 1 = .ok (.iconst (-1), 1) := by decide +kernel
theorem dX8_settleOrLodge_2 : decode cX8_settleOrLodge 2 = .ok (.if_icmp .eq 12, 3) := by decide +kernel
theorem dX8_settleOrLodge_5 : decode cX8_settleOrLodge 5 = .ok (.aload_n 0, 1) := by decide +kernel
theorem dX8_settleOrLodge_6 : decode cX8_settleOrLodge 6 = .ok (.getfield 33, 3) := by decide +kernel
theorem dX8_settleOrLodge_9 : decode cX8_settleOrLodge 9 = .ok (.iload_n 1, 1) := by decide +kernel
theorem dX8_settleOrLodge_10 : decode cX8_settleOrLodge 10 = .ok (.iload_n 2, 1) := by decide +kernel
theorem dX8_settleOrLodge_11 : decode cX8_settleOrLodge 11 = .ok (.invokevirtual 253, 3) := by decide +kernel
theorem dX8_settleOrLodge_14 : decode cX8_settleOrLodge 14 = .ok (.return_, 1) := by decide +kernel
theorem dX8_letIn_0 : decode cX8_letIn 0 = .ok (.aload_n 0, 1) := by decide +kernel
theorem dX8_letIn_1 : decode cX8_letIn 1 = .ok (.getfield 33, 3) := by decide +kernel
theorem dX8_letIn_4 : decode cX8_letIn 4 = .ok (.getfield 266, 3) := by decide +kernel
theorem dX8_letIn_7 : decode cX8_letIn 7 = .ok (.ifCond .eq 8, 3) := by decide +kernel
theorem dX8_letIn_10 : decode cX8_letIn 10 = .ok (.aload_n 0, 1) := by decide +kernel
theorem dX8_letIn_11 : decode cX8_letIn 11 = .ok (.invokevirtual 239, 3) := by decide +kernel
theorem dX8_letIn_14 : decode cX8_letIn 14 = .ok (.ireturn, 1) := by decide +kernel
theorem dX8_letIn_15 : decode cX8_letIn 15 = .ok (.aload_n 0, 1) := by decide +kernel
theorem dX8_letIn_16 : decode cX8_letIn 16 = .ok (.getfield 43, 3) := by decide +kernel
theorem dX8_letIn_19 : decode cX8_letIn 19 = .ok (.aload_n 0, 1) := by decide +kernel
theorem dX8_letIn_20 : decode cX8_letIn 20 = .ok (.getfield 33, 3) := by decide +kernel
theorem dX8_letIn_23 : decode cX8_letIn 23 = .ok (.invokevirtual 242, 3) := by decide +kernel
theorem dX8_letIn_26 : decode cX8_letIn 26 = .ok (.aload_n 0, 1) := by decide +kernel
theorem dX8_letIn_27 : decode cX8_letIn 27 = .ok (.getfield 23, 3) := by decide +kernel
theorem dX8_letIn_30 : decode cX8_letIn 30 = .ok (.aload_n 0, 1) := by decide +kernel
theorem dX8_letIn_31 : decode cX8_letIn 31 = .ok (.getfield 33, 3) := by decide +kernel
theorem dX8_letIn_34 : decode cX8_letIn 34 = .ok (.invokevirtual 128, 3) := by decide +kernel
theorem dX8_letIn_37 : decode cX8_letIn 37 = .ok (.istore_n 1, 1) := by decide +kernel
theorem dX8_letIn_38 : decode cX8_letIn 38 = .ok (.aload_n 0, 1) := by decide +kernel
theorem dX8_letIn_39 : decode cX8_letIn 39 = .ok (.getfield 33, 3) := by decide +kernel
theorem dX8_letIn_42 : decode cX8_letIn 42 = .ok (.iconst 1, 1) := by decide +kernel
theorem dX8_letIn_43 : decode cX8_letIn 43 = .ok (.putfield 266, 3) := by decide +kernel
theorem dX8_letIn_46 : decode cX8_letIn 46 = .ok (.iload_n 1, 1) := by decide +kernel
theorem dX8_letIn_47 : decode cX8_letIn 47 = .ok (.ireturn, 1) := by decide +kernel
theorem dX8_undo_0 : decode cX8_undo 0 = .ok (.aload_n 0, 1) := by decide +kernel
theorem dX8_undo_1 : decode cX8_undo 1 = .ok (.getfield 43, 3) := by decide +kernel
theorem dX8_undo_4 : decode cX8_undo 4 = .ok (.aload_n 0, 1) := by decide +kernel
theorem dX8_undo_5 : decode cX8_undo 5 = .ok (.getfield 33, 3) := by decide +kernel
theorem dX8_undo_8 : decode cX8_undo 8 = .ok (.invokevirtual 269, 3) := by decide +kernel
theorem dX8_undo_11 : decode cX8_undo 11 = .ok (.ifCond .eq 13, 3) := by decide +kernel
theorem dX8_undo_14 : decode cX8_undo 14 = .ok (.aload_n 0, 1) := by decide +kernel
theorem dX8_undo_15 : decode cX8_undo 15 = .ok (.getfield 43, 3) := by decide +kernel
theorem dX8_undo_18 : decode cX8_undo 18 = .ok (.invokevirtual 150, 3) := by decide +kernel
theorem dX8_undo_21 : decode cX8_undo 21 = .ok (.goto 4, 3) := by decide +kernel
theorem dX8_undo_24 : decode cX8_undo 24 = .ok (.iconst (-1), 1) := by decide +kernel
theorem dX8_undo_25 : decode cX8_undo 25 = .ok (.ireturn, 1) := by decide +kernel
theorem dX8_refuseAct_0 : decode cX8_refuseAct 0 = .ok (.aload_n 0, 1) := by decide +kernel
theorem dX8_refuseAct_1 : decode cX8_refuseAct 1 = .ok (.getfield 67, 3) := by decide +kernel
theorem dX8_refuseAct_4 : decode cX8_refuseAct 4 = .ok (.iconst 1, 1) := by decide +kernel
theorem dX8_refuseAct_5 : decode cX8_refuseAct 5 = .ok (.dup2, 1) := by decide +kernel
theorem dX8_refuseAct_6 : decode cX8_refuseAct 6 = .ok (.iaload, 1) := by decide +kernel
theorem dX8_refuseAct_7 : decode cX8_refuseAct 7 = .ok (.iconst 1, 1) := by decide +kernel
theorem dX8_refuseAct_8 : decode cX8_refuseAct 8 = .ok (.iadd, 1) := by decide +kernel
theorem dX8_refuseAct_9 : decode cX8_refuseAct 9 = .ok (.iastore, 1) := by decide +kernel
theorem dX8_refuseAct_10 : decode cX8_refuseAct 10 = .ok (.iconst (-1), 1) := by decide +kernel
theorem dX8_refuseAct_11 : decode cX8_refuseAct 11 = .ok (.ireturn, 1) := by decide +kernel
theorem dX8_pass_0 : decode cX8_pass 0 = .ok (.iconst 0, 1) := by decide +kernel
theorem dX8_pass_1 : decode cX8_pass 1 = .ok (.istore_n 3, 1) := by decide +kernel
theorem dX8_pass_2 : decode cX8_pass 2 = .ok (.iload_n 3, 1) := by decide +kernel
theorem dX8_pass_3 : decode cX8_pass 3 = .ok (.iload_n 2, 1) := by decide +kernel
theorem dX8_pass_4 : decode cX8_pass 4 = .ok (.if_icmp .ge 25, 3) := by decide +kernel
theorem dX8_pass_7 : decode cX8_pass 7 = .ok (.aload_n 0, 1) := by decide +kernel
theorem dX8_pass_8 : decode cX8_pass 8 = .ok (.getfield 23, 3) := by decide +kernel
theorem dX8_pass_11 : decode cX8_pass 11 = .ok (.aload_n 1, 1) := by decide +kernel
theorem dX8_pass_12 : decode cX8_pass 12 = .ok (.aload_n 0, 1) := by decide +kernel
theorem dX8_pass_13 : decode cX8_pass 13 = .ok (.getfield 23, 3) := by decide +kernel
theorem dX8_pass_16 : decode cX8_pass 16 = .ok (.aload_n 1, 1) := by decide +kernel
theorem dX8_pass_17 : decode cX8_pass 17 = .ok (.invokevirtual 128, 3) := by decide +kernel
theorem dX8_pass_20 : decode cX8_pass 20 = .ok (.invokevirtual 273, 3) := by decide +kernel
theorem dX8_pass_23 : decode cX8_pass 23 = .ok (.iinc 3 1, 3) := by decide +kernel
theorem dX8_pass_26 : decode cX8_pass 26 = .ok (.goto (-24), 3) := by decide +kernel
theorem dX8_pass_29 : decode cX8_pass 29 = .ok (.return_, 1) := by decide +kernel
theorem dX8_after_0 : decode cX8_after 0 = .ok (.aload_n 0, 1) := by decide +kernel
theorem dX8_after_1 : decode cX8_after 1 = .ok (.getfield 37, 3) := by decide +kernel
theorem dX8_after_4 : decode cX8_after 4 = .ok (.aload_n 0, 1) := by decide +kernel
theorem dX8_after_5 : decode cX8_after 5 = .ok (.getfield 33, 3) := by decide +kernel
theorem dX8_after_8 : decode cX8_after 8 = .ok (.invokevirtual 274, 3) := by decide +kernel
theorem dX8_after_11 : decode cX8_after 11 = .ok (.aload_n 0, 1) := by decide +kernel
theorem dX8_after_12 : decode cX8_after 12 = .ok (.aload_n 0, 1) := by decide +kernel
theorem dX8_after_13 : decode cX8_after 13 = .ok (.getfield 37, 3) := by decide +kernel
theorem dX8_after_16 : decode cX8_after 16 = .ok (.iload_n 1, 1) := by decide +kernel
theorem dX8_after_17 : decode cX8_after 17 = .ok (.invokevirtual 245, 3) := by decide +kernel
theorem dX8_after_20 : decode cX8_after 20 = .ok (.aload_n 0, 1) := by decide +kernel
theorem dX8_after_21 : decode cX8_after 21 = .ok (.getfield 37, 3) := by decide +kernel
theorem dX8_after_24 : decode cX8_after 24 = .ok (.areturn, 1) := by decide +kernel
theorem dX8_then_0 : decode cX8_then 0 = .ok (.aload_n 0, 1) := by decide +kernel
theorem dX8_then_1 : decode cX8_then 1 = .ok (.iload_n 1, 1) := by decide +kernel
theorem dX8_then_2 : decode cX8_then 2 = .ok (.invokevirtual 223, 3) := by decide +kernel
theorem dX8_then_5 : decode cX8_then 5 = .ok (.iload_n 3, 1) := by decide +kernel
theorem dX8_then_6 : decode cX8_then 6 = .ok (.iconst 2, 1) := by decide +kernel
theorem dX8_then_7 : decode cX8_then 7 = .ok (.invokestatic 277, 3) := by decide +kernel
theorem dX8_then_10 : decode cX8_then 10 = .ok (.iload_n 2, 1) := by decide +kernel
theorem dX8_then_11 : decode cX8_then 11 = .ok (.iconst 0, 1) := by decide +kernel
theorem dX8_then_12 : decode cX8_then 12 = .ok (.invokestatic 280, 3) := by decide +kernel
theorem dX8_then_15 : decode cX8_then 15 = .ok (.aload_n 0, 1) := by decide +kernel
theorem dX8_then_16 : decode cX8_then 16 = .ok (.iload_n 2, 1) := by decide +kernel
theorem dX8_then_17 : decode cX8_then 17 = .ok (.invokevirtual 283, 3) := by decide +kernel
theorem dX8_then_20 : decode cX8_then 20 = .ok (.astore 4, 2) := by decide +kernel
theorem dX8_then_22 : decode cX8_then 22 = .ok (.iload_n 3, 1) := by decide +kernel
theorem dX8_then_23 : decode cX8_then 23 = .ok (.lookupswitch 41 #[(0, 25), (1, 33)], 25) := by decide +kernel
theorem dX8_then_48 : decode cX8_then 48 = .ok (.aload 4, 2) := by decide +kernel
theorem dX8_then_50 : decode cX8_then 50 = .ok (.getfield 212, 3) := by decide +kernel
theorem dX8_then_53 : decode cX8_then 53 = .ok (.iload_n 1, 1) := by decide +kernel
theorem dX8_then_54 : decode cX8_then 54 = .ok (.iaload, 1) := by decide +kernel
theorem dX8_then_55 : decode cX8_then 55 = .ok (.ireturn, 1) := by decide +kernel
theorem dX8_then_56 : decode cX8_then 56 = .ok (.aload 4, 2) := by decide +kernel
theorem dX8_then_58 : decode cX8_then 58 = .ok (.getfield 162, 3) := by decide +kernel
theorem dX8_then_61 : decode cX8_then 61 = .ok (.iload_n 1, 1) := by decide +kernel
theorem dX8_then_62 : decode cX8_then 62 = .ok (.iaload, 1) := by decide +kernel
theorem dX8_then_63 : decode cX8_then 63 = .ok (.ireturn, 1) := by decide +kernel
theorem dX8_then_64 : decode cX8_then 64 = .ok (.aload 4, 2) := by decide +kernel
theorem dX8_then_66 : decode cX8_then 66 = .ok (.getfield 165, 3) := by decide +kernel
theorem dX8_then_69 : decode cX8_then 69 = .ok (.iload_n 1, 1) := by decide +kernel
theorem dX8_then_70 : decode cX8_then 70 = .ok (.iaload, 1) := by decide +kernel
theorem dX8_then_71 : decode cX8_then 71 = .ok (.ireturn, 1) := by decide +kernel
theorem dX8_worn_0 : decode cX8_worn 0 = .ok (.aload_n 0, 1) := by decide +kernel
theorem dX8_worn_1 : decode cX8_worn 1 = .ok (.iload_n 1, 1) := by decide +kernel
theorem dX8_worn_2 : decode cX8_worn 2 = .ok (.invokevirtual 186, 3) := by decide +kernel
theorem dX8_worn_5 : decode cX8_worn 5 = .ok (.iload_n 2, 1) := by decide +kernel
theorem dX8_worn_6 : decode cX8_worn 6 = .ok (.iconst 0, 1) := by decide +kernel
theorem dX8_worn_7 : decode cX8_worn 7 = .ok (.invokestatic 280, 3) := by decide +kernel
theorem dX8_worn_10 : decode cX8_worn 10 = .ok (.aload_n 0, 1) := by decide +kernel
theorem dX8_worn_11 : decode cX8_worn 11 = .ok (.iload_n 2, 1) := by decide +kernel
theorem dX8_worn_12 : decode cX8_worn 12 = .ok (.invokevirtual 283, 3) := by decide +kernel
theorem dX8_worn_15 : decode cX8_worn 15 = .ok (.getfield 197, 3) := by decide +kernel
theorem dX8_worn_18 : decode cX8_worn 18 = .ok (.iload_n 1, 1) := by decide +kernel
theorem dX8_worn_19 : decode cX8_worn 19 = .ok (.iaload, 1) := by decide +kernel
theorem dX8_worn_20 : decode cX8_worn 20 = .ok (.ireturn, 1) := by decide +kernel
theorem dX8_burst_0 : decode cX8_burst 0 = .ok (.aload_n 0, 1) := by decide +kernel
theorem dX8_burst_1 : decode cX8_burst 1 = .ok (.iload_n 1, 1) := by decide +kernel
theorem dX8_burst_2 : decode cX8_burst 2 = .ok (.invokevirtual 186, 3) := by decide +kernel
theorem dX8_burst_5 : decode cX8_burst 5 = .ok (.aload_n 0, 1) := by decide +kernel
theorem dX8_burst_6 : decode cX8_burst 6 = .ok (.getfield 37, 3) := by decide +kernel
theorem dX8_burst_9 : decode cX8_burst 9 = .ok (.aload_n 0, 1) := by decide +kernel
theorem dX8_burst_10 : decode cX8_burst 10 = .ok (.getfield 33, 3) := by decide +kernel
theorem dX8_burst_13 : decode cX8_burst 13 = .ok (.invokevirtual 274, 3) := by decide +kernel
theorem dX8_burst_16 : decode cX8_burst 16 = .ok (.aload_n 0, 1) := by decide +kernel
theorem dX8_burst_17 : decode cX8_burst 17 = .ok (.iload_n 1, 1) := by decide +kernel
theorem dX8_burst_18 : decode cX8_burst 18 = .ok (.invokevirtual 287, 3) := by decide +kernel
theorem dX8_burst_21 : decode cX8_burst 21 = .ok (.ireturn, 1) := by decide +kernel
theorem dX8_daysTillBurst_0 : decode cX8_daysTillBurst 0 = .ok (.iconst 0, 1) := by decide +kernel
theorem dX8_daysTillBurst_1 : decode cX8_daysTillBurst 1 = .ok (.istore_n 2, 1) := by decide +kernel
theorem dX8_daysTillBurst_2 : decode cX8_daysTillBurst 2 = .ok (.iload_n 2, 1) := by decide +kernel
theorem dX8_daysTillBurst_3 : decode cX8_daysTillBurst 3 = .ok (.bipush 40, 2) := by decide +kernel
theorem dX8_daysTillBurst_5 : decode cX8_daysTillBurst 5 = .ok (.if_icmp .gt 45, 3) := by decide +kernel
theorem dX8_daysTillBurst_8 : decode cX8_daysTillBurst 8 = .ok (.aload_n 0, 1) := by decide +kernel
theorem dX8_daysTillBurst_9 : decode cX8_daysTillBurst 9 = .ok (.getfield 37, 3) := by decide +kernel
theorem dX8_daysTillBurst_12 : decode cX8_daysTillBurst 12 = .ok (.iload_n 1, 1) := by decide +kernel
theorem dX8_daysTillBurst_13 : decode cX8_daysTillBurst 13 = .ok (.invokevirtual 200, 3) := by decide +kernel
theorem dX8_daysTillBurst_16 : decode cX8_daysTillBurst 16 = .ok (.ifCond .eq 5, 3) := by decide +kernel
theorem dX8_daysTillBurst_19 : decode cX8_daysTillBurst 19 = .ok (.iload_n 2, 1) := by decide +kernel
theorem dX8_daysTillBurst_20 : decode cX8_daysTillBurst 20 = .ok (.ireturn, 1) := by decide +kernel
theorem dX8_daysTillBurst_21 : decode cX8_daysTillBurst 21 = .ok (.aload_n 0, 1) := by decide +kernel
theorem dX8_daysTillBurst_22 : decode cX8_daysTillBurst 22 = .ok (.getfield 23, 3) := by decide +kernel
theorem dX8_daysTillBurst_25 : decode cX8_daysTillBurst 25 = .ok (.aload_n 0, 1) := by decide +kernel
theorem dX8_daysTillBurst_26 : decode cX8_daysTillBurst 26 = .ok (.getfield 37, 3) := by decide +kernel
theorem dX8_daysTillBurst_29 : decode cX8_daysTillBurst 29 = .ok (.iload_n 1, 1) := by decide +kernel
theorem dX8_daysTillBurst_30 : decode cX8_daysTillBurst 30 = .ok (.aload_n 0, 1) := by decide +kernel
theorem dX8_daysTillBurst_31 : decode cX8_daysTillBurst 31 = .ok (.getfield 23, 3) := by decide +kernel
theorem dX8_daysTillBurst_34 : decode cX8_daysTillBurst 34 = .ok (.aload_n 0, 1) := by decide +kernel
theorem dX8_daysTillBurst_35 : decode cX8_daysTillBurst 35 = .ok (.getfield 37, 3) := by decide +kernel
theorem dX8_daysTillBurst_38 : decode cX8_daysTillBurst 38 = .ok (.invokevirtual 128, 3) := by decide +kernel
theorem dX8_daysTillBurst_41 : decode cX8_daysTillBurst 41 = .ok (.invokevirtual 290, 3) := by decide +kernel
theorem dX8_daysTillBurst_44 : decode cX8_daysTillBurst 44 = .ok (.iinc 2 1, 3) := by decide +kernel
theorem dX8_daysTillBurst_47 : decode cX8_daysTillBurst 47 = .ok (.goto (-45), 3) := by decide +kernel
theorem dX8_daysTillBurst_50 : decode cX8_daysTillBurst 50 = .ok (.iconst (-1), 1) := by decide +kernel
theorem dX8_daysTillBurst_51 : decode cX8_daysTillBurst 51 = .ok (.ireturn, 1) := by decide +kernel
theorem dX8_wriggles_0 : decode cX8_wriggles 0 = .ok (.aload_n 0, 1) := by decide +kernel
theorem dX8_wriggles_1 : decode cX8_wriggles 1 = .ok (.iload_n 1, 1) := by decide +kernel
theorem dX8_wriggles_2 : decode cX8_wriggles 2 = .ok (.invokevirtual 223, 3) := by decide +kernel
theorem dX8_wriggles_5 : decode cX8_wriggles 5 = .ok (.aload_n 0, 1) := by decide +kernel
theorem dX8_wriggles_6 : decode cX8_wriggles 6 = .ok (.getfield 37, 3) := by decide +kernel
theorem dX8_wriggles_9 : decode cX8_wriggles 9 = .ok (.aload_n 0, 1) := by decide +kernel
theorem dX8_wriggles_10 : decode cX8_wriggles 10 = .ok (.getfield 33, 3) := by decide +kernel
theorem dX8_wriggles_13 : decode cX8_wriggles 13 = .ok (.invokevirtual 274, 3) := by decide +kernel
theorem dX8_wriggles_16 : decode cX8_wriggles 16 = .ok (.iconst 1, 1) := by decide +kernel
theorem dX8_wriggles_17 : decode cX8_wriggles 17 = .ok (.istore_n 2, 1) := by decide +kernel
theorem dX8_wriggles_18 : decode cX8_wriggles 18 = .ok (.iload_n 2, 1) := by decide +kernel
theorem dX8_wriggles_19 : decode cX8_wriggles 19 = .ok (.bipush 40, 2) := by decide +kernel
theorem dX8_wriggles_21 : decode cX8_wriggles 21 = .ok (.if_icmp .gt 41, 3) := by decide +kernel
theorem dX8_wriggles_24 : decode cX8_wriggles 24 = .ok (.aload_n 0, 1) := by decide +kernel
theorem dX8_wriggles_25 : decode cX8_wriggles 25 = .ok (.aload_n 0, 1) := by decide +kernel
theorem dX8_wriggles_26 : decode cX8_wriggles 26 = .ok (.getfield 37, 3) := by decide +kernel
theorem dX8_wriggles_29 : decode cX8_wriggles 29 = .ok (.iconst 1, 1) := by decide +kernel
theorem dX8_wriggles_30 : decode cX8_wriggles 30 = .ok (.invokevirtual 245, 3) := by decide +kernel
theorem dX8_wriggles_33 : decode cX8_wriggles 33 = .ok (.aload_n 0, 1) := by decide +kernel
theorem dX8_wriggles_34 : decode cX8_wriggles 34 = .ok (.getfield 37, 3) := by decide +kernel
theorem dX8_wriggles_37 : decode cX8_wriggles 37 = .ok (.getfield 165, 3) := by decide +kernel
theorem dX8_wriggles_40 : decode cX8_wriggles 40 = .ok (.iload_n 1, 1) := by decide +kernel
theorem dX8_wriggles_41 : decode cX8_wriggles 41 = .ok (.iaload, 1) := by decide +kernel
theorem dX8_wriggles_42 : decode cX8_wriggles 42 = .ok (.aload_n 0, 1) := by decide +kernel
theorem dX8_wriggles_43 : decode cX8_wriggles 43 = .ok (.getfield 33, 3) := by decide +kernel
theorem dX8_wriggles_46 : decode cX8_wriggles 46 = .ok (.getfield 165, 3) := by decide +kernel
theorem dX8_wriggles_49 : decode cX8_wriggles 49 = .ok (.iload_n 1, 1) := by decide +kernel
theorem dX8_wriggles_50 : decode cX8_wriggles 50 = .ok (.iaload, 1) := by decide +kernel
theorem dX8_wriggles_51 : decode cX8_wriggles 51 = .ok (.if_icmp .le 5, 3) := by decide +kernel
theorem dX8_wriggles_54 : decode cX8_wriggles 54 = .ok (.iload_n 2, 1) := by decide +kernel
theorem dX8_wriggles_55 : decode cX8_wriggles 55 = .ok (.ireturn, 1) := by decide +kernel
theorem dX8_wriggles_56 : decode cX8_wriggles 56 = .ok (.iinc 2 1, 3) := by decide +kernel
theorem dX8_wriggles_59 : decode cX8_wriggles 59 = .ok (.goto (-41), 3) := by decide +kernel
theorem dX8_wriggles_62 : decode cX8_wriggles 62 = .ok (.iconst (-1), 1) := by decide +kernel
theorem dX8_wriggles_63 : decode cX8_wriggles 63 = .ok (.ireturn, 1) := by decide +kernel
theorem dX8_barefoot_0 : decode cX8_barefoot 0 = .ok (.iload_n 1, 1) := by decide +kernel
theorem dX8_barefoot_1 : decode cX8_barefoot 1 = .ok (.iconst 0, 1) := by decide +kernel
theorem dX8_barefoot_2 : decode cX8_barefoot 2 = .ok (.invokestatic 280, 3) := by decide +kernel
theorem dX8_barefoot_5 : decode cX8_barefoot 5 = .ok (.aload_n 0, 1) := by decide +kernel
theorem dX8_barefoot_6 : decode cX8_barefoot 6 = .ok (.aload_n 0, 1) := by decide +kernel
theorem dX8_barefoot_7 : decode cX8_barefoot 7 = .ok (.iload_n 1, 1) := by decide +kernel
theorem dX8_barefoot_8 : decode cX8_barefoot 8 = .ok (.invokevirtual 283, 3) := by decide +kernel
theorem dX8_barefoot_11 : decode cX8_barefoot 11 = .ok (.invokevirtual 138, 3) := by decide +kernel
theorem dX8_barefoot_14 : decode cX8_barefoot 14 = .ok (.ireturn, 1) := by decide +kernel
theorem dX8_last_0 : decode cX8_last 0 = .ok (.iload_n 1, 1) := by decide +kernel
theorem dX8_last_1 : decode cX8_last 1 = .ok (.iconst 1, 1) := by decide +kernel
theorem dX8_last_2 : decode cX8_last 2 = .ok (.invokestatic 277, 3) := by decide +kernel
theorem dX8_last_5 : decode cX8_last 5 = .ok (.aload_n 0, 1) := by decide +kernel
theorem dX8_last_6 : decode cX8_last 6 = .ok (.invokevirtual 135, 3) := by decide +kernel
theorem dX8_last_9 : decode cX8_last 9 = .ok (.istore_n 2, 1) := by decide +kernel
theorem dX8_last_10 : decode cX8_last 10 = .ok (.iconst 0, 1) := by decide +kernel
theorem dX8_last_11 : decode cX8_last 11 = .ok (.istore_n 3, 1) := by decide +kernel
theorem dX8_last_12 : decode cX8_last 12 = .ok (.iconst (-1), 1) := by decide +kernel
theorem dX8_last_13 : decode cX8_last 13 = .ok (.istore 4, 2) := by decide +kernel
theorem dX8_last_15 : decode cX8_last 15 = .ok (.aload_n 0, 1) := by decide +kernel
theorem dX8_last_16 : decode cX8_last 16 = .ok (.getfield 37, 3) := by decide +kernel
theorem dX8_last_19 : decode cX8_last 19 = .ok (.aload_n 0, 1) := by decide +kernel
theorem dX8_last_20 : decode cX8_last 20 = .ok (.getfield 33, 3) := by decide +kernel
theorem dX8_last_23 : decode cX8_last 23 = .ok (.invokevirtual 274, 3) := by decide +kernel
theorem dX8_last_26 : decode cX8_last 26 = .ok (.iconst 1, 1) := by decide +kernel
theorem dX8_last_27 : decode cX8_last 27 = .ok (.istore 5, 2) := by decide +kernel
theorem dX8_last_29 : decode cX8_last 29 = .ok (.iload 5, 2) := by decide +kernel
theorem dX8_last_31 : decode cX8_last 31 = .ok (.bipush 40, 2) := by decide +kernel
theorem dX8_last_33 : decode cX8_last 33 = .ok (.if_icmp .gt 48, 3) := by decide +kernel
theorem dX8_last_36 : decode cX8_last 36 = .ok (.aload_n 0, 1) := by decide +kernel
theorem dX8_last_37 : decode cX8_last 37 = .ok (.aload_n 0, 1) := by decide +kernel
theorem dX8_last_38 : decode cX8_last 38 = .ok (.getfield 37, 3) := by decide +kernel
theorem dX8_last_41 : decode cX8_last 41 = .ok (.iconst 1, 1) := by decide +kernel
theorem dX8_last_42 : decode cX8_last 42 = .ok (.invokevirtual 245, 3) := by decide +kernel
theorem dX8_last_45 : decode cX8_last 45 = .ok (.iload_n 2, 1) := by decide +kernel
theorem dX8_last_46 : decode cX8_last 46 = .ok (.aload_n 0, 1) := by decide +kernel
theorem dX8_last_47 : decode cX8_last 47 = .ok (.getfield 37, 3) := by decide +kernel
theorem dX8_last_50 : decode cX8_last 50 = .ok (.getfield 132, 3) := by decide +kernel
theorem dX8_last_53 : decode cX8_last 53 = .ok (.iand, 1) := by decide +kernel
theorem dX8_last_54 : decode cX8_last 54 = .ok (.istore 6, 2) := by decide +kernel
theorem dX8_last_56 : decode cX8_last 56 = .ok (.iload 6, 2) := by decide +kernel
theorem dX8_last_58 : decode cX8_last 58 = .ok (.ifCond .eq 17, 3) := by decide +kernel
theorem dX8_last_61 : decode cX8_last 61 = .ok (.iload 6, 2) := by decide +kernel
theorem dX8_last_63 : decode cX8_last 63 = .ok (.istore_n 3, 1) := by decide +kernel
theorem dX8_last_64 : decode cX8_last 64 = .ok (.iload 5, 2) := by decide +kernel
theorem dX8_last_66 : decode cX8_last 66 = .ok (.istore 4, 2) := by decide +kernel
theorem dX8_last_68 : decode cX8_last 68 = .ok (.iload_n 2, 1) := by decide +kernel
theorem dX8_last_69 : decode cX8_last 69 = .ok (.iload 6, 2) := by decide +kernel
theorem dX8_last_71 : decode cX8_last 71 = .ok (.iconst (-1), 1) := by decide +kernel
theorem dX8_last_72 : decode cX8_last 72 = .ok (.ixor, 1) := by decide +kernel
theorem dX8_last_73 : decode cX8_last 73 = .ok (.iand, 1) := by decide +kernel
theorem dX8_last_74 : decode cX8_last 74 = .ok (.istore_n 2, 1) := by decide +kernel
theorem dX8_last_75 : decode cX8_last 75 = .ok (.iinc 5 1, 3) := by decide +kernel
theorem dX8_last_78 : decode cX8_last 78 = .ok (.goto (-49), 3) := by decide +kernel
theorem dX8_last_81 : decode cX8_last 81 = .ok (.iload_n 1, 1) := by decide +kernel
theorem dX8_last_82 : decode cX8_last 82 = .ok (.ifCond .ne 16, 3) := by decide +kernel
theorem dX8_last_85 : decode cX8_last 85 = .ok (.iload_n 2, 1) := by decide +kernel
theorem dX8_last_86 : decode cX8_last 86 = .ok (.ifCond .eq 7, 3) := by decide +kernel
theorem dX8_last_89 : decode cX8_last 89 = .ok (.iload_n 2, 1) := by decide +kernel
theorem dX8_last_90 : decode cX8_last 90 = .ok (.goto 4, 3) := by decide +kernel
theorem dX8_last_93 : decode cX8_last 93 = .ok (.iload_n 3, 1) := by decide +kernel
theorem dX8_last_94 : decode cX8_last 94 = .ok (.invokestatic 294, 3) := by decide +kernel
theorem dX8_last_97 : decode cX8_last 97 = .ok (.ireturn, 1) := by decide +kernel
theorem dX8_last_98 : decode cX8_last 98 = .ok (.iload_n 2, 1) := by decide +kernel
theorem dX8_last_99 : decode cX8_last 99 = .ok (.ifCond .eq 7, 3) := by decide +kernel
theorem dX8_last_102 : decode cX8_last 102 = .ok (.iconst (-1), 1) := by decide +kernel
theorem dX8_last_103 : decode cX8_last 103 = .ok (.goto 5, 3) := by decide +kernel
theorem dX8_last_106 : decode cX8_last 106 = .ok (.iload 4, 2) := by decide +kernel
theorem dX8_last_108 : decode cX8_last 108 = .ok (.ireturn, 1) := by decide +kernel
theorem dX8_leastBit_0 : decode cX8_leastBit 0 = .ok (.iconst 0, 1) := by decide +kernel
theorem dX8_leastBit_1 : decode cX8_leastBit 1 = .ok (.istore_n 1, 1) := by decide +kernel
theorem dX8_leastBit_2 : decode cX8_leastBit 2 = .ok (.iload_n 1, 1) := by decide +kernel
theorem dX8_leastBit_3 : decode cX8_leastBit 3 = .ok (.bipush 8, 2) := by decide +kernel
theorem dX8_leastBit_5 : decode cX8_leastBit 5 = .ok (.if_icmp .ge 20, 3) := by decide +kernel
theorem dX8_leastBit_8 : decode cX8_leastBit 8 = .ok (.iload_n 0, 1) := by decide +kernel
theorem dX8_leastBit_9 : decode cX8_leastBit 9 = .ok (.iload_n 1, 1) := by decide +kernel
theorem dX8_leastBit_10 : decode cX8_leastBit 10 = .ok (.ishr, 1) := by decide +kernel
theorem dX8_leastBit_11 : decode cX8_leastBit 11 = .ok (.iconst 1, 1) := by decide +kernel
theorem dX8_leastBit_12 : decode cX8_leastBit 12 = .ok (.iand, 1) := by decide +kernel
theorem dX8_leastBit_13 : decode cX8_leastBit 13 = .ok (.iconst 1, 1) := by decide +kernel
theorem dX8_leastBit_14 : decode cX8_leastBit 14 = .ok (.if_icmp .ne 5, 3) := by decide +kernel
theorem dX8_leastBit_17 : decode cX8_leastBit 17 = .ok (.iload_n 1, 1) := by decide +kernel
theorem dX8_leastBit_18 : decode cX8_leastBit 18 = .ok (.ireturn, 1) := by decide +kernel
theorem dX8_leastBit_19 : decode cX8_leastBit 19 = .ok (.iinc 1 1, 3) := by decide +kernel
theorem dX8_leastBit_22 : decode cX8_leastBit 22 = .ok (.goto (-20), 3) := by decide +kernel
theorem dX8_leastBit_25 : decode cX8_leastBit 25 = .ok (.iconst (-1), 1) := by decide +kernel
theorem dX8_leastBit_26 : decode cX8_leastBit 26 = .ok (.ireturn, 1) := by decide +kernel
theorem dX8_goes_0 : decode cX8_goes 0 = .ok (.aload_n 0, 1) := by decide +kernel
theorem dX8_goes_1 : decode cX8_goes 1 = .ok (.iload_n 1, 1) := by decide +kernel
theorem dX8_goes_2 : decode cX8_goes 2 = .ok (.invokevirtual 223, 3) := by decide +kernel
theorem dX8_goes_5 : decode cX8_goes 5 = .ok (.iconst 0, 1) := by decide +kernel
theorem dX8_goes_6 : decode cX8_goes 6 = .ok (.istore_n 2, 1) := by decide +kernel
theorem dX8_goes_7 : decode cX8_goes 7 = .ok (.iconst 0, 1) := by decide +kernel
theorem dX8_goes_8 : decode cX8_goes 8 = .ok (.istore_n 3, 1) := by decide +kernel
theorem dX8_goes_9 : decode cX8_goes 9 = .ok (.iload_n 3, 1) := by decide +kernel
theorem dX8_goes_10 : decode cX8_goes 10 = .ok (.aload_n 0, 1) := by decide +kernel
theorem dX8_goes_11 : decode cX8_goes 11 = .ok (.getfield 23, 3) := by decide +kernel
theorem dX8_goes_14 : decode cX8_goes 14 = .ok (.getfield 119, 3) := by decide +kernel
theorem dX8_goes_17 : decode cX8_goes 17 = .ok (.if_icmp .ge 24, 3) := by decide +kernel
theorem dX8_goes_20 : decode cX8_goes 20 = .ok (.aload_n 0, 1) := by decide +kernel
theorem dX8_goes_21 : decode cX8_goes 21 = .ok (.iload_n 1, 1) := by decide +kernel
theorem dX8_goes_22 : decode cX8_goes 22 = .ok (.iload_n 3, 1) := by decide +kernel
theorem dX8_goes_23 : decode cX8_goes 23 = .ok (.invokevirtual 249, 3) := by decide +kernel
theorem dX8_goes_26 : decode cX8_goes 26 = .ok (.ifCond .eq 9, 3) := by decide +kernel
theorem dX8_goes_29 : decode cX8_goes 29 = .ok (.iload_n 2, 1) := by decide +kernel
theorem dX8_goes_30 : decode cX8_goes 30 = .ok (.iconst 1, 1) := by decide +kernel
theorem dX8_goes_31 : decode cX8_goes 31 = .ok (.iload_n 3, 1) := by decide +kernel
theorem dX8_goes_32 : decode cX8_goes 32 = .ok (.ishl, 1) := by decide +kernel
theorem dX8_goes_33 : decode cX8_goes 33 = .ok (.ior, 1) := by decide +kernel
theorem dX8_goes_34 : decode cX8_goes 34 = .ok (.istore_n 2, 1) := by decide +kernel
theorem dX8_goes_35 : decode cX8_goes 35 = .ok (.iinc 3 1, 3) := by decide +kernel
theorem dX8_goes_38 : decode cX8_goes 38 = .ok (.goto (-29), 3) := by decide +kernel
theorem dX8_goes_41 : decode cX8_goes 41 = .ok (.iload_n 2, 1) := by decide +kernel
theorem dX8_goes_42 : decode cX8_goes 42 = .ok (.ireturn, 1) := by decide +kernel
theorem dX8_match_0 : decode cX8_match 0 = .ok (.iload_n 1, 1) := by decide +kernel
theorem dX8_match_1 : decode cX8_match 1 = .ok (.iconst 1, 1) := by decide +kernel
theorem dX8_match_2 : decode cX8_match 2 = .ok (.invokestatic 277, 3) := by decide +kernel
theorem dX8_match_5 : decode cX8_match 5 = .ok (.aload_n 0, 1) := by decide +kernel
theorem dX8_match_6 : decode cX8_match 6 = .ok (.getfield 74, 3) := by decide +kernel
theorem dX8_match_9 : decode cX8_match 9 = .ok (.aload_n 0, 1) := by decide +kernel
theorem dX8_match_10 : decode cX8_match 10 = .ok (.getfield 23, 3) := by decide +kernel
theorem dX8_match_13 : decode cX8_match 13 = .ok (.aload_n 0, 1) := by decide +kernel
theorem dX8_match_14 : decode cX8_match 14 = .ok (.getfield 33, 3) := by decide +kernel
theorem dX8_match_17 : decode cX8_match 17 = .ok (.invokevirtual 176, 3) := by decide +kernel
theorem dX8_match_20 : decode cX8_match 20 = .ok (.iload_n 1, 1) := by decide +kernel
theorem dX8_match_21 : decode cX8_match 21 = .ok (.ifCond .ne 13, 3) := by decide +kernel
theorem dX8_match_24 : decode cX8_match 24 = .ok (.aload_n 0, 1) := by decide +kernel
theorem dX8_match_25 : decode cX8_match 25 = .ok (.getfield 74, 3) := by decide +kernel
theorem dX8_match_28 : decode cX8_match 28 = .ok (.invokevirtual 183, 3) := by decide +kernel
theorem dX8_match_31 : decode cX8_match 31 = .ok (.goto 10, 3) := by decide +kernel
theorem dX8_match_34 : decode cX8_match 34 = .ok (.aload_n 0, 1) := by decide +kernel
theorem dX8_match_35 : decode cX8_match 35 = .ok (.getfield 74, 3) := by decide +kernel
theorem dX8_match_38 : decode cX8_match 38 = .ok (.invokevirtual 297, 3) := by decide +kernel
theorem dX8_match_41 : decode cX8_match 41 = .ok (.ireturn, 1) := by decide +kernel
theorem dX8_matched_0 : decode cX8_matched 0 = .ok (.aload_n 0, 1) := by decide +kernel
theorem dX8_matched_1 : decode cX8_matched 1 = .ok (.iload_n 1, 1) := by decide +kernel
theorem dX8_matched_2 : decode cX8_matched 2 = .ok (.invokevirtual 223, 3) := by decide +kernel
theorem dX8_matched_5 : decode cX8_matched 5 = .ok (.aload_n 0, 1) := by decide +kernel
theorem dX8_matched_6 : decode cX8_matched 6 = .ok (.getfield 74, 3) := by decide +kernel
theorem dX8_matched_9 : decode cX8_matched 9 = .ok (.aload_n 0, 1) := by decide +kernel
theorem dX8_matched_10 : decode cX8_matched 10 = .ok (.getfield 23, 3) := by decide +kernel
theorem dX8_matched_13 : decode cX8_matched 13 = .ok (.aload_n 0, 1) := by decide +kernel
theorem dX8_matched_14 : decode cX8_matched 14 = .ok (.getfield 33, 3) := by decide +kernel
theorem dX8_matched_17 : decode cX8_matched 17 = .ok (.invokevirtual 176, 3) := by decide +kernel
theorem dX8_matched_20 : decode cX8_matched 20 = .ok (.aload_n 0, 1) := by decide +kernel
theorem dX8_matched_21 : decode cX8_matched 21 = .ok (.getfield 74, 3) := by decide +kernel
theorem dX8_matched_24 : decode cX8_matched 24 = .ok (.iload_n 1, 1) := by decide +kernel
theorem dX8_matched_25 : decode cX8_matched 25 = .ok (.invokevirtual 299, 3) := by decide +kernel
theorem dX8_matched_28 : decode cX8_matched 28 = .ok (.ireturn, 1) := by decide +kernel
theorem dX8_trade_0 : decode cX8_trade 0 = .ok (.aload_n 0, 1) := by decide +kernel
theorem dX8_trade_1 : decode cX8_trade 1 = .ok (.iload_n 1, 1) := by decide +kernel
theorem dX8_trade_2 : decode cX8_trade 2 = .ok (.invokevirtual 223, 3) := by decide +kernel
theorem dX8_trade_5 : decode cX8_trade 5 = .ok (.aload_n 0, 1) := by decide +kernel
theorem dX8_trade_6 : decode cX8_trade 6 = .ok (.getfield 81, 3) := by decide +kernel
theorem dX8_trade_9 : decode cX8_trade 9 = .ok (.aload_n 0, 1) := by decide +kernel
theorem dX8_trade_10 : decode cX8_trade 10 = .ok (.getfield 23, 3) := by decide +kernel
theorem dX8_trade_13 : decode cX8_trade 13 = .ok (.aload_n 0, 1) := by decide +kernel
theorem dX8_trade_14 : decode cX8_trade 14 = .ok (.getfield 33, 3) := by decide +kernel
theorem dX8_trade_17 : decode cX8_trade 17 = .ok (.invokevirtual 302, 3) := by decide +kernel
theorem dX8_trade_20 : decode cX8_trade 20 = .ok (.aload_n 0, 1) := by decide +kernel
theorem dX8_trade_21 : decode cX8_trade 21 = .ok (.getfield 81, 3) := by decide +kernel
theorem dX8_trade_24 : decode cX8_trade 24 = .ok (.getfield 303, 3) := by decide +kernel
theorem dX8_trade_27 : decode cX8_trade 27 = .ok (.iload_n 1, 1) := by decide +kernel
theorem dX8_trade_28 : decode cX8_trade 28 = .ok (.iaload, 1) := by decide +kernel
theorem dX8_trade_29 : decode cX8_trade 29 = .ok (.ireturn, 1) := by decide +kernel
theorem dX8_toStuff_0 : decode cX8_toStuff 0 = .ok (.aload_n 0, 1) := by decide +kernel
theorem dX8_toStuff_1 : decode cX8_toStuff 1 = .ok (.iload_n 1, 1) := by decide +kernel
theorem dX8_toStuff_2 : decode cX8_toStuff 2 = .ok (.invokevirtual 223, 3) := by decide +kernel
theorem dX8_toStuff_5 : decode cX8_toStuff 5 = .ok (.aload_n 0, 1) := by decide +kernel
theorem dX8_toStuff_6 : decode cX8_toStuff 6 = .ok (.iload_n 2, 1) := by decide +kernel
theorem dX8_toStuff_7 : decode cX8_toStuff 7 = .ok (.invokevirtual 186, 3) := by decide +kernel
theorem dX8_toStuff_10 : decode cX8_toStuff 10 = .ok (.iconst 0, 1) := by decide +kernel
theorem dX8_toStuff_11 : decode cX8_toStuff 11 = .ok (.aload_n 0, 1) := by decide +kernel
theorem dX8_toStuff_12 : decode cX8_toStuff 12 = .ok (.getfield 33, 3) := by decide +kernel
theorem dX8_toStuff_15 : decode cX8_toStuff 15 = .ok (.getfield 189, 3) := by decide +kernel
theorem dX8_toStuff_18 : decode cX8_toStuff 18 = .ok (.iload_n 2, 1) := by decide +kernel
theorem dX8_toStuff_19 : decode cX8_toStuff 19 = .ok (.iaload, 1) := by decide +kernel
theorem dX8_toStuff_20 : decode cX8_toStuff 20 = .ok (.aload_n 0, 1) := by decide +kernel
theorem dX8_toStuff_21 : decode cX8_toStuff 21 = .ok (.getfield 33, 3) := by decide +kernel
theorem dX8_toStuff_24 : decode cX8_toStuff 24 = .ok (.getfield 212, 3) := by decide +kernel
theorem dX8_toStuff_27 : decode cX8_toStuff 27 = .ok (.iload_n 1, 1) := by decide +kernel
theorem dX8_toStuff_28 : decode cX8_toStuff 28 = .ok (.iaload, 1) := by decide +kernel
theorem dX8_toStuff_29 : decode cX8_toStuff 29 = .ok (.isub, 1) := by decide +kernel
theorem dX8_toStuff_30 : decode cX8_toStuff 30 = .ok (.invokestatic 215, 3) := by decide +kernel
theorem dX8_toStuff_33 : decode cX8_toStuff 33 = .ok (.istore_n 3, 1) := by decide +kernel
theorem dX8_toStuff_34 : decode cX8_toStuff 34 = .ok (.iload_n 3, 1) := by decide +kernel
theorem dX8_toStuff_35 : decode cX8_toStuff 35 = .ok (.bipush 20, 2) := by decide +kernel
theorem dX8_toStuff_37 : decode cX8_toStuff 37 = .ok (.if_icmp .gt 7, 3) := by decide +kernel
theorem dX8_toStuff_40 : decode cX8_toStuff 40 = .ok (.iload_n 3, 1) := by decide +kernel
theorem dX8_toStuff_41 : decode cX8_toStuff 41 = .ok (.goto 4, 3) := by decide +kernel
theorem dX8_toStuff_44 : decode cX8_toStuff 44 = .ok (.iconst (-1), 1) := by decide +kernel
theorem dX8_toStuff_45 : decode cX8_toStuff 45 = .ok (.ireturn, 1) := by decide +kernel
theorem dX8_toWait_0 : decode cX8_toWait 0 = .ok (.aload_n 0, 1) := by decide +kernel
theorem dX8_toWait_1 : decode cX8_toWait 1 = .ok (.iload_n 1, 1) := by decide +kernel
theorem dX8_toWait_2 : decode cX8_toWait 2 = .ok (.invokevirtual 223, 3) := by decide +kernel
theorem dX8_toWait_5 : decode cX8_toWait 5 = .ok (.aload_n 0, 1) := by decide +kernel
theorem dX8_toWait_6 : decode cX8_toWait 6 = .ok (.iload_n 2, 1) := by decide +kernel
theorem dX8_toWait_7 : decode cX8_toWait 7 = .ok (.invokevirtual 186, 3) := by decide +kernel
theorem dX8_toWait_10 : decode cX8_toWait 10 = .ok (.aload_n 0, 1) := by decide +kernel
theorem dX8_toWait_11 : decode cX8_toWait 11 = .ok (.getfield 37, 3) := by decide +kernel
theorem dX8_toWait_14 : decode cX8_toWait 14 = .ok (.aload_n 0, 1) := by decide +kernel
theorem dX8_toWait_15 : decode cX8_toWait 15 = .ok (.getfield 33, 3) := by decide +kernel
theorem dX8_toWait_18 : decode cX8_toWait 18 = .ok (.invokevirtual 274, 3) := by decide +kernel
theorem dX8_toWait_21 : decode cX8_toWait 21 = .ok (.iconst 0, 1) := by decide +kernel
theorem dX8_toWait_22 : decode cX8_toWait 22 = .ok (.istore_n 3, 1) := by decide +kernel
theorem dX8_toWait_23 : decode cX8_toWait 23 = .ok (.iload_n 3, 1) := by decide +kernel
theorem dX8_toWait_24 : decode cX8_toWait 24 = .ok (.bipush 40, 2) := by decide +kernel
theorem dX8_toWait_26 : decode cX8_toWait 26 = .ok (.if_icmp .gt 47, 3) := by decide +kernel
theorem dX8_toWait_29 : decode cX8_toWait 29 = .ok (.aload_n 0, 1) := by decide +kernel
theorem dX8_toWait_30 : decode cX8_toWait 30 = .ok (.getfield 23, 3) := by decide +kernel
theorem dX8_toWait_33 : decode cX8_toWait 33 = .ok (.aload_n 0, 1) := by decide +kernel
theorem dX8_toWait_34 : decode cX8_toWait 34 = .ok (.getfield 37, 3) := by decide +kernel
theorem dX8_toWait_37 : decode cX8_toWait 37 = .ok (.iload_n 1, 1) := by decide +kernel
theorem dX8_toWait_38 : decode cX8_toWait 38 = .ok (.iload_n 2, 1) := by decide +kernel
theorem dX8_toWait_39 : decode cX8_toWait 39 = .ok (.aload_n 0, 1) := by decide +kernel
theorem dX8_toWait_40 : decode cX8_toWait 40 = .ok (.getfield 23, 3) := by decide +kernel
theorem dX8_toWait_43 : decode cX8_toWait 43 = .ok (.aload_n 0, 1) := by decide +kernel
theorem dX8_toWait_44 : decode cX8_toWait 44 = .ok (.getfield 37, 3) := by decide +kernel
theorem dX8_toWait_47 : decode cX8_toWait 47 = .ok (.invokevirtual 128, 3) := by decide +kernel
theorem dX8_toWait_50 : decode cX8_toWait 50 = .ok (.invokevirtual 235, 3) := by decide +kernel
theorem dX8_toWait_53 : decode cX8_toWait 53 = .ok (.ifCond .eq 5, 3) := by decide +kernel
theorem dX8_toWait_56 : decode cX8_toWait 56 = .ok (.iload_n 3, 1) := by decide +kernel
theorem dX8_toWait_57 : decode cX8_toWait 57 = .ok (.ireturn, 1) := by decide +kernel
theorem dX8_toWait_58 : decode cX8_toWait 58 = .ok (.aload_n 0, 1) := by decide +kernel
theorem dX8_toWait_59 : decode cX8_toWait 59 = .ok (.aload_n 0, 1) := by decide +kernel
theorem dX8_toWait_60 : decode cX8_toWait 60 = .ok (.getfield 37, 3) := by decide +kernel
theorem dX8_toWait_63 : decode cX8_toWait 63 = .ok (.iconst 1, 1) := by decide +kernel
theorem dX8_toWait_64 : decode cX8_toWait 64 = .ok (.invokevirtual 245, 3) := by decide +kernel
theorem dX8_toWait_67 : decode cX8_toWait 67 = .ok (.iinc 3 1, 3) := by decide +kernel
theorem dX8_toWait_70 : decode cX8_toWait 70 = .ok (.goto (-47), 3) := by decide +kernel
theorem dX8_toWait_73 : decode cX8_toWait 73 = .ok (.iconst (-1), 1) := by decide +kernel
theorem dX8_toWait_74 : decode cX8_toWait 74 = .ok (.ireturn, 1) := by decide +kernel
theorem dX8_round_0 : decode cX8_round 0 = .ok (.iload_n 1, 1) := by decide +kernel
theorem dX8_round_1 : decode cX8_round 1 = .ok (.ifCond .lt 9, 3) := by decide +kernel
theorem dX8_round_4 : decode cX8_round 4 = .ok (.iload_n 1, 1) := by decide +kernel
theorem dX8_round_5 : decode cX8_round 5 = .ok (.bipush 30, 2) := by decide +kernel
theorem dX8_round_7 : decode cX8_round 7 = .ok (.if_icmp .le 14, 3) := by decide +kernel
theorem dX8_round_10 : decode cX8_round 10 = .ok (.new 97, 3) := by decide +kernel
theorem dX8_round_13 : decode cX8_round 13 = .ok (.dup, 1) := by decide +kernel
theorem dX8_round_14 : decode cX8_round 14 = .ok (.ldc_w 306, 3) := by decide +kernel
theorem dX8_round_17 : decode cX8_round 17 = .ok (.invokespecial 101, 3) := by decide +kernel
theorem dX8_round_20 : decode cX8_round 20 = .ok (.athrow, 1) := by decide +kernel
theorem dX8_round_21 : decode cX8_round 21 = .ok (.bipush 31, 2) := by decide +kernel
theorem dX8_round_23 : decode cX8_round 23 = .ok (.istore_n 2, 1) := by decide +kernel
theorem dX8_round_24 : decode cX8_round 24 = .ok (.iconst (-1), 1) := by decide +kernel
theorem dX8_round_25 : decode cX8_round 25 = .ok (.istore_n 3, 1) := by decide +kernel
theorem dX8_round_26 : decode cX8_round 26 = .ok (.iconst 0, 1) := by decide +kernel
theorem dX8_round_27 : decode cX8_round 27 = .ok (.istore 4, 2) := by decide +kernel
theorem dX8_round_29 : decode cX8_round 29 = .ok (.iload 4, 2) := by decide +kernel
theorem dX8_round_31 : decode cX8_round 31 = .ok (.aload_n 0, 1) := by decide +kernel
theorem dX8_round_32 : decode cX8_round 32 = .ok (.getfield 23, 3) := by decide +kernel
theorem dX8_round_35 : decode cX8_round 35 = .ok (.getfield 122, 3) := by decide +kernel
theorem dX8_round_38 : decode cX8_round 38 = .ok (.if_icmp .ge 67, 3) := by decide +kernel
theorem dX8_round_41 : decode cX8_round 41 = .ok (.aload_n 0, 1) := by decide +kernel
theorem dX8_round_42 : decode cX8_round 42 = .ok (.getfield 33, 3) := by decide +kernel
theorem dX8_round_45 : decode cX8_round 45 = .ok (.getfield 162, 3) := by decide +kernel
theorem dX8_round_48 : decode cX8_round 48 = .ok (.iload 4, 2) := by decide +kernel
theorem dX8_round_50 : decode cX8_round 50 = .ok (.iaload, 1) := by decide +kernel
theorem dX8_round_51 : decode cX8_round 51 = .ok (.istore 5, 2) := by decide +kernel
theorem dX8_round_53 : decode cX8_round 53 = .ok (.iload 5, 2) := by decide +kernel
theorem dX8_round_55 : decode cX8_round 55 = .ok (.iconst (-1), 1) := by decide +kernel
theorem dX8_round_56 : decode cX8_round 56 = .ok (.if_icmp .eq 43, 3) := by decide +kernel
theorem dX8_round_59 : decode cX8_round 59 = .ok (.aload_n 0, 1) := by decide +kernel
theorem dX8_round_60 : decode cX8_round 60 = .ok (.getfield 33, 3) := by decide +kernel
theorem dX8_round_63 : decode cX8_round 63 = .ok (.iload 4, 2) := by decide +kernel
theorem dX8_round_65 : decode cX8_round 65 = .ok (.iload 5, 2) := by decide +kernel
theorem dX8_round_67 : decode cX8_round 67 = .ok (.invokevirtual 172, 3) := by decide +kernel
theorem dX8_round_70 : decode cX8_round 70 = .ok (.ifCond .le 29, 3) := by decide +kernel
theorem dX8_round_73 : decode cX8_round 73 = .ok (.aload_n 0, 1) := by decide +kernel
theorem dX8_round_74 : decode cX8_round 74 = .ok (.getfield 23, 3) := by decide +kernel
theorem dX8_round_77 : decode cX8_round 77 = .ok (.getfield 195, 3) := by decide +kernel
theorem dX8_round_80 : decode cX8_round 80 = .ok (.iload 5, 2) := by decide +kernel
theorem dX8_round_82 : decode cX8_round 82 = .ok (.iaload, 1) := by decide +kernel
theorem dX8_round_83 : decode cX8_round 83 = .ok (.istore 6, 2) := by decide +kernel
theorem dX8_round_85 : decode cX8_round 85 = .ok (.iload_n 2, 1) := by decide +kernel
theorem dX8_round_86 : decode cX8_round 86 = .ok (.iload 6, 2) := by decide +kernel
theorem dX8_round_88 : decode cX8_round 88 = .ok (.invokestatic 308, 3) := by decide +kernel
theorem dX8_round_91 : decode cX8_round 91 = .ok (.istore_n 2, 1) := by decide +kernel
theorem dX8_round_92 : decode cX8_round 92 = .ok (.iload_n 3, 1) := by decide +kernel
theorem dX8_round_93 : decode cX8_round 93 = .ok (.iload 6, 2) := by decide +kernel
theorem dX8_round_95 : decode cX8_round 95 = .ok (.invokestatic 215, 3) := by decide +kernel
theorem dX8_round_98 : decode cX8_round 98 = .ok (.istore_n 3, 1) := by decide +kernel
theorem dX8_round_99 : decode cX8_round 99 = .ok (.iinc 4 1, 3) := by decide +kernel
theorem dX8_round_102 : decode cX8_round 102 = .ok (.goto (-73), 3) := by decide +kernel
theorem dX8_round_105 : decode cX8_round 105 = .ok (.iload_n 3, 1) := by decide +kernel
theorem dX8_round_106 : decode cX8_round 106 = .ok (.iconst (-1), 1) := by decide +kernel
theorem dX8_round_107 : decode cX8_round 107 = .ok (.if_icmp .ne 5, 3) := by decide +kernel
theorem dX8_round_110 : decode cX8_round 110 = .ok (.iconst 0, 1) := by decide +kernel
theorem dX8_round_111 : decode cX8_round 111 = .ok (.ireturn, 1) := by decide +kernel
theorem dX8_round_112 : decode cX8_round 112 = .ok (.iload_n 3, 1) := by decide +kernel
theorem dX8_round_113 : decode cX8_round 113 = .ok (.iload_n 2, 1) := by decide +kernel
theorem dX8_round_114 : decode cX8_round 114 = .ok (.isub, 1) := by decide +kernel
theorem dX8_round_115 : decode cX8_round 115 = .ok (.iload_n 1, 1) := by decide +kernel
theorem dX8_round_116 : decode cX8_round 116 = .ok (.iload_n 2, 1) := by decide +kernel
theorem dX8_round_117 : decode cX8_round 117 = .ok (.isub, 1) := by decide +kernel
theorem dX8_round_118 : decode cX8_round 118 = .ok (.invokestatic 220, 3) := by decide +kernel
theorem dX8_round_121 : decode cX8_round 121 = .ok (.iload_n 1, 1) := by decide +kernel
theorem dX8_round_122 : decode cX8_round 122 = .ok (.iload_n 3, 1) := by decide +kernel
theorem dX8_round_123 : decode cX8_round 123 = .ok (.isub, 1) := by decide +kernel
theorem dX8_round_124 : decode cX8_round 124 = .ok (.invokestatic 220, 3) := by decide +kernel
theorem dX8_round_127 : decode cX8_round 127 = .ok (.invokestatic 308, 3) := by decide +kernel
theorem dX8_round_130 : decode cX8_round 130 = .ok (.iadd, 1) := by decide +kernel
theorem dX8_round_131 : decode cX8_round 131 = .ok (.ireturn, 1) := by decide +kernel
theorem dX8_see_0 : decode cX8_see 0 = .ok (.aload_n 0, 1) := by decide +kernel
theorem dX8_see_1 : decode cX8_see 1 = .ok (.iload_n 1, 1) := by decide +kernel
theorem dX8_see_2 : decode cX8_see 2 = .ok (.invokevirtual 186, 3) := by decide +kernel
theorem dX8_see_5 : decode cX8_see 5 = .ok (.iload_n 2, 1) := by decide +kernel
theorem dX8_see_6 : decode cX8_see 6 = .ok (.ifCond .lt 23, 3) := by decide +kernel
theorem dX8_see_9 : decode cX8_see 9 = .ok (.iload_n 2, 1) := by decide +kernel
theorem dX8_see_10 : decode cX8_see 10 = .ok (.bipush 20, 2) := by decide +kernel
theorem dX8_see_12 : decode cX8_see 12 = .ok (.if_icmp .gt 17, 3) := by decide +kernel
theorem dX8_see_15 : decode cX8_see 15 = .ok (.iload_n 3, 1) := by decide +kernel
theorem dX8_see_16 : decode cX8_see 16 = .ok (.ifCond .lt 13, 3) := by decide +kernel
theorem dX8_see_19 : decode cX8_see 19 = .ok (.iload_n 3, 1) := by decide +kernel
theorem dX8_see_20 : decode cX8_see 20 = .ok (.bipush 99, 2) := by decide +kernel
theorem dX8_see_22 : decode cX8_see 22 = .ok (.if_icmp .gt 7, 3) := by decide +kernel
theorem dX8_see_25 : decode cX8_see 25 = .ok (.iconst 1, 1) := by decide +kernel
theorem dX8_see_26 : decode cX8_see 26 = .ok (.goto 4, 3) := by decide +kernel
theorem dX8_see_29 : decode cX8_see 29 = .ok (.iconst 0, 1) := by decide +kernel
theorem dX8_see_30 : decode cX8_see 30 = .ok (.istore 4, 2) := by decide +kernel
theorem dX8_see_32 : decode cX8_see 32 = .ok (.iload 4, 2) := by decide +kernel
theorem dX8_see_34 : decode cX8_see 34 = .ok (.ifCond .eq 15, 3) := by decide +kernel
theorem dX8_see_37 : decode cX8_see 37 = .ok (.aload_n 0, 1) := by decide +kernel
theorem dX8_see_38 : decode cX8_see 38 = .ok (.getfield 50, 3) := by decide +kernel
theorem dX8_see_41 : decode cX8_see 41 = .ok (.invokevirtual 153, 3) := by decide +kernel
theorem dX8_see_44 : decode cX8_see 44 = .ok (.bipush 8, 2) := by decide +kernel
theorem dX8_see_46 : decode cX8_see 46 = .ok (.if_icmp .lt 15, 3) := by decide +kernel
theorem dX8_see_49 : decode cX8_see 49 = .ok (.aload_n 0, 1) := by decide +kernel
theorem dX8_see_50 : decode cX8_see 50 = .ok (.getfield 67, 3) := by decide +kernel
theorem dX8_see_53 : decode cX8_see 53 = .ok (.iconst 2, 1) := by decide +kernel
theorem dX8_see_54 : decode cX8_see 54 = .ok (.dup2, 1) := by decide +kernel
theorem dX8_see_55 : decode cX8_see 55 = .ok (.iaload, 1) := by decide +kernel
theorem dX8_see_56 : decode cX8_see 56 = .ok (.iconst 1, 1) := by decide +kernel
theorem dX8_see_57 : decode cX8_see 57 = .ok (.iadd, 1) := by decide +kernel
theorem dX8_see_58 : decode cX8_see 58 = .ok (.iastore, 1) := by decide +kernel
theorem dX8_see_59 : decode cX8_see 59 = .ok (.iconst (-1), 1) := by decide +kernel
theorem dX8_see_60 : decode cX8_see 60 = .ok (.ireturn, 1) := by decide +kernel
theorem dX8_see_61 : decode cX8_see 61 = .ok (.aload_n 0, 1) := by decide +kernel
theorem dX8_see_62 : decode cX8_see 62 = .ok (.getfield 50, 3) := by decide +kernel
theorem dX8_see_65 : decode cX8_see 65 = .ok (.iload_n 1, 1) := by decide +kernel
theorem dX8_see_66 : decode cX8_see 66 = .ok (.iload_n 2, 1) := by decide +kernel
theorem dX8_see_67 : decode cX8_see 67 = .ok (.iload_n 3, 1) := by decide +kernel
theorem dX8_see_68 : decode cX8_see 68 = .ok (.invokevirtual 311, 3) := by decide +kernel
theorem dX8_see_71 : decode cX8_see 71 = .ok (.aload_n 0, 1) := by decide +kernel
theorem dX8_see_72 : decode cX8_see 72 = .ok (.getfield 50, 3) := by decide +kernel
theorem dX8_see_75 : decode cX8_see 75 = .ok (.invokevirtual 153, 3) := by decide +kernel
theorem dX8_see_78 : decode cX8_see 78 = .ok (.ireturn, 1) := by decide +kernel
theorem dX8_forget_0 : decode cX8_forget 0 = .ok (.aload_n 0, 1) := by decide +kernel
theorem dX8_forget_1 : decode cX8_forget 1 = .ok (.getfield 50, 3) := by decide +kernel
theorem dX8_forget_4 : decode cX8_forget 4 = .ok (.invokevirtual 118, 3) := by decide +kernel
theorem dX8_forget_7 : decode cX8_forget 7 = .ok (.return_, 1) := by decide +kernel
theorem dX8_large_0 : decode cX8_large 0 = .ok (.iload_n 1, 1) := by decide +kernel
theorem dX8_large_1 : decode cX8_large 1 = .ok (.iconst 2, 1) := by decide +kernel
theorem dX8_large_2 : decode cX8_large 2 = .ok (.invokestatic 277, 3) := by decide +kernel
theorem dX8_large_5 : decode cX8_large 5 = .ok (.iload_n 1, 1) := by decide +kernel
theorem dX8_large_6 : decode cX8_large 6 = .ok (.iconst 2, 1) := by decide +kernel
theorem dX8_large_7 : decode cX8_large 7 = .ok (.if_icmp .ne 20, 3) := by decide +kernel
theorem dX8_large_10 : decode cX8_large 10 = .ok (.aload_n 0, 1) := by decide +kernel
theorem dX8_large_11 : decode cX8_large 11 = .ok (.invokevirtual 315, 3) := by decide +kernel
theorem dX8_large_14 : decode cX8_large 14 = .ok (.aload_n 0, 1) := by decide +kernel
theorem dX8_large_15 : decode cX8_large 15 = .ok (.invokevirtual 318, 3) := by decide +kernel
theorem dX8_large_18 : decode cX8_large 18 = .ok (.if_icmp .ne 7, 3) := by decide +kernel
theorem dX8_large_21 : decode cX8_large 21 = .ok (.iconst 1, 1) := by decide +kernel
theorem dX8_large_22 : decode cX8_large 22 = .ok (.goto 4, 3) := by decide +kernel
theorem dX8_large_25 : decode cX8_large 25 = .ok (.iconst 0, 1) := by decide +kernel
theorem dX8_large_26 : decode cX8_large 26 = .ok (.ireturn, 1) := by decide +kernel
theorem dX8_large_27 : decode cX8_large 27 = .ok (.aload_n 0, 1) := by decide +kernel
theorem dX8_large_28 : decode cX8_large 28 = .ok (.invokevirtual 321, 3) := by decide +kernel
theorem dX8_large_31 : decode cX8_large 31 = .ok (.iconst 0, 1) := by decide +kernel
theorem dX8_large_32 : decode cX8_large 32 = .ok (.istore_n 2, 1) := by decide +kernel
theorem dX8_large_33 : decode cX8_large 33 = .ok (.iconst (-1), 1) := by decide +kernel
theorem dX8_large_34 : decode cX8_large 34 = .ok (.istore_n 3, 1) := by decide +kernel
theorem dX8_large_35 : decode cX8_large 35 = .ok (.iconst 0, 1) := by decide +kernel
theorem dX8_large_36 : decode cX8_large 36 = .ok (.istore 4, 2) := by decide +kernel
theorem dX8_large_38 : decode cX8_large 38 = .ok (.iload 4, 2) := by decide +kernel
theorem dX8_large_40 : decode cX8_large 40 = .ok (.aload_n 0, 1) := by decide +kernel
theorem dX8_large_41 : decode cX8_large 41 = .ok (.getfield 23, 3) := by decide +kernel
theorem dX8_large_44 : decode cX8_large 44 = .ok (.getfield 122, 3) := by decide +kernel
theorem dX8_large_47 : decode cX8_large 47 = .ok (.if_icmp .ge 56, 3) := by decide +kernel
theorem dX8_large_50 : decode cX8_large 50 = .ok (.iload_n 3, 1) := by decide +kernel
theorem dX8_large_51 : decode cX8_large 51 = .ok (.iconst (-1), 1) := by decide +kernel
theorem dX8_large_52 : decode cX8_large 52 = .ok (.if_icmp .ne 32, 3) := by decide +kernel
theorem dX8_large_55 : decode cX8_large 55 = .ok (.aload_n 0, 1) := by decide +kernel
theorem dX8_large_56 : decode cX8_large 56 = .ok (.getfield 85, 3) := by decide +kernel
theorem dX8_large_59 : decode cX8_large 59 = .ok (.iload 4, 2) := by decide +kernel
theorem dX8_large_61 : decode cX8_large 61 = .ok (.laload, 1) := by decide +kernel
theorem dX8_large_62 : decode cX8_large 62 = .ok (.lconst 0, 1) := by decide +kernel
theorem dX8_large_63 : decode cX8_large 63 = .ok (.lcmp, 1) := by decide +kernel
theorem dX8_large_64 : decode cX8_large 64 = .ok (.ifCond .eq 20, 3) := by decide +kernel
theorem dX8_large_67 : decode cX8_large 67 = .ok (.bipush 100, 2) := by decide +kernel
theorem dX8_large_69 : decode cX8_large 69 = .ok (.iload 4, 2) := by decide +kernel
theorem dX8_large_71 : decode cX8_large 71 = .ok (.imul, 1) := by decide +kernel
theorem dX8_large_72 : decode cX8_large 72 = .ok (.aload_n 0, 1) := by decide +kernel
theorem dX8_large_73 : decode cX8_large 73 = .ok (.getfield 85, 3) := by decide +kernel
theorem dX8_large_76 : decode cX8_large 76 = .ok (.iload 4, 2) := by decide +kernel
theorem dX8_large_78 : decode cX8_large 78 = .ok (.laload, 1) := by decide +kernel
theorem dX8_large_79 : decode cX8_large 79 = .ok (.invokestatic 324, 3) := by decide +kernel
theorem dX8_large_82 : decode cX8_large 82 = .ok (.iadd, 1) := by decide +kernel
theorem dX8_large_83 : decode cX8_large 83 = .ok (.istore_n 3, 1) := by decide +kernel
theorem dX8_large_84 : decode cX8_large 84 = .ok (.iload_n 2, 1) := by decide +kernel
theorem dX8_large_85 : decode cX8_large 85 = .ok (.aload_n 0, 1) := by decide +kernel
theorem dX8_large_86 : decode cX8_large 86 = .ok (.getfield 85, 3) := by decide +kernel
theorem dX8_large_89 : decode cX8_large 89 = .ok (.iload 4, 2) := by decide +kernel
theorem dX8_large_91 : decode cX8_large 91 = .ok (.laload, 1) := by decide +kernel
theorem dX8_large_92 : decode cX8_large 92 = .ok (.invokestatic 328, 3) := by decide +kernel
theorem dX8_large_95 : decode cX8_large 95 = .ok (.iadd, 1) := by decide +kernel
theorem dX8_large_96 : decode cX8_large 96 = .ok (.istore_n 2, 1) := by decide +kernel
theorem dX8_large_97 : decode cX8_large 97 = .ok (.iinc 4 1, 3) := by decide +kernel
theorem dX8_large_100 : decode cX8_large 100 = .ok (.goto (-62), 3) := by decide +kernel
theorem dX8_large_103 : decode cX8_large 103 = .ok (.iload_n 1, 1) := by decide +kernel
theorem dX8_large_104 : decode cX8_large 104 = .ok (.ifCond .ne 7, 3) := by decide +kernel
theorem dX8_large_107 : decode cX8_large 107 = .ok (.iload_n 2, 1) := by decide +kernel
theorem dX8_large_108 : decode cX8_large 108 = .ok (.goto 4, 3) := by decide +kernel
theorem dX8_large_111 : decode cX8_large 111 = .ok (.iload_n 3, 1) := by decide +kernel
theorem dX8_large_112 : decode cX8_large 112 = .ok (.ireturn, 1) := by decide +kernel
theorem dX8_leastSize_0 : decode cX8_leastSize 0 = .ok (.iconst 1, 1) := by decide +kernel
theorem dX8_leastSize_1 : decode cX8_leastSize 1 = .ok (.istore_n 2, 1) := by decide +kernel
theorem dX8_leastSize_2 : decode cX8_leastSize 2 = .ok (.iload_n 2, 1) := by decide +kernel
theorem dX8_leastSize_3 : decode cX8_leastSize 3 = .ok (.bipush 60, 2) := by decide +kernel
theorem dX8_leastSize_5 : decode cX8_leastSize 5 = .ok (.if_icmp .gt 21, 3) := by decide +kernel
theorem dX8_leastSize_8 : decode cX8_leastSize 8 = .ok (.lload_n 0, 1) := by decide +kernel
theorem dX8_leastSize_9 : decode cX8_leastSize 9 = .ok (.iload_n 2, 1) := by decide +kernel
theorem dX8_leastSize_10 : decode cX8_leastSize 10 = .ok (.lshr, 1) := by decide +kernel
theorem dX8_leastSize_11 : decode cX8_leastSize 11 = .ok (.lconst 1, 1) := by decide +kernel
theorem dX8_leastSize_12 : decode cX8_leastSize 12 = .ok (.land, 1) := by decide +kernel
theorem dX8_leastSize_13 : decode cX8_leastSize 13 = .ok (.lconst 1, 1) := by decide +kernel
theorem dX8_leastSize_14 : decode cX8_leastSize 14 = .ok (.lcmp, 1) := by decide +kernel
theorem dX8_leastSize_15 : decode cX8_leastSize 15 = .ok (.ifCond .ne 5, 3) := by decide +kernel
theorem dX8_leastSize_18 : decode cX8_leastSize 18 = .ok (.iload_n 2, 1) := by decide +kernel
theorem dX8_leastSize_19 : decode cX8_leastSize 19 = .ok (.ireturn, 1) := by decide +kernel
theorem dX8_leastSize_20 : decode cX8_leastSize 20 = .ok (.iinc 2 1, 3) := by decide +kernel
theorem dX8_leastSize_23 : decode cX8_leastSize 23 = .ok (.goto (-21), 3) := by decide +kernel
theorem dX8_leastSize_26 : decode cX8_leastSize 26 = .ok (.iconst 0, 1) := by decide +kernel
theorem dX8_leastSize_27 : decode cX8_leastSize 27 = .ok (.ireturn, 1) := by decide +kernel
theorem dX8_allHouses_0 : decode cX8_allHouses 0 = .ok (.iconst 1, 1) := by decide +kernel
theorem dX8_allHouses_1 : decode cX8_allHouses 1 = .ok (.aload_n 0, 1) := by decide +kernel
theorem dX8_allHouses_2 : decode cX8_allHouses 2 = .ok (.getfield 23, 3) := by decide +kernel
theorem dX8_allHouses_5 : decode cX8_allHouses 5 = .ok (.getfield 119, 3) := by decide +kernel
theorem dX8_allHouses_8 : decode cX8_allHouses 8 = .ok (.ishl, 1) := by decide +kernel
theorem dX8_allHouses_9 : decode cX8_allHouses 9 = .ok (.iconst 1, 1) := by decide +kernel
theorem dX8_allHouses_10 : decode cX8_allHouses 10 = .ok (.isub, 1) := by decide +kernel
theorem dX8_allHouses_11 : decode cX8_allHouses 11 = .ok (.ireturn, 1) := by decide +kernel
theorem dX8_agreeingHouses_0 : decode cX8_agreeingHouses 0 = .ok (.iconst 0, 1) := by decide +kernel
theorem dX8_agreeingHouses_1 : decode cX8_agreeingHouses 1 = .ok (.istore_n 1, 1) := by decide +kernel
theorem dX8_agreeingHouses_2 : decode cX8_agreeingHouses 2 = .ok (.iconst 0, 1) := by decide +kernel
theorem dX8_agreeingHouses_3 : decode cX8_agreeingHouses 3 = .ok (.istore_n 2, 1) := by decide +kernel
theorem dX8_agreeingHouses_4 : decode cX8_agreeingHouses 4 = .ok (.iload_n 2, 1) := by decide +kernel
theorem dX8_agreeingHouses_5 : decode cX8_agreeingHouses 5 = .ok (.aload_n 0, 1) := by decide +kernel
theorem dX8_agreeingHouses_6 : decode cX8_agreeingHouses 6 = .ok (.getfield 23, 3) := by decide +kernel
theorem dX8_agreeingHouses_9 : decode cX8_agreeingHouses 9 = .ok (.getfield 119, 3) := by decide +kernel
theorem dX8_agreeingHouses_12 : decode cX8_agreeingHouses 12 = .ok (.if_icmp .ge 34, 3) := by decide +kernel
theorem dX8_agreeingHouses_15 : decode cX8_agreeingHouses 15 = .ok (.aload_n 0, 1) := by decide +kernel
theorem dX8_agreeingHouses_16 : decode cX8_agreeingHouses 16 = .ok (.getfield 37, 3) := by decide +kernel
theorem dX8_agreeingHouses_19 : decode cX8_agreeingHouses 19 = .ok (.aload_n 0, 1) := by decide +kernel
theorem dX8_agreeingHouses_20 : decode cX8_agreeingHouses 20 = .ok (.getfield 33, 3) := by decide +kernel
theorem dX8_agreeingHouses_23 : decode cX8_agreeingHouses 23 = .ok (.invokevirtual 274, 3) := by decide +kernel
theorem dX8_agreeingHouses_26 : decode cX8_agreeingHouses 26 = .ok (.aload_n 0, 1) := by decide +kernel
theorem dX8_agreeingHouses_27 : decode cX8_agreeingHouses 27 = .ok (.iload_n 2, 1) := by decide +kernel
theorem dX8_agreeingHouses_28 : decode cX8_agreeingHouses 28 = .ok (.invokevirtual 333, 3) := by decide +kernel
theorem dX8_agreeingHouses_31 : decode cX8_agreeingHouses 31 = .ok (.ifCond .eq 9, 3) := by decide +kernel
theorem dX8_agreeingHouses_34 : decode cX8_agreeingHouses 34 = .ok (.iload_n 1, 1) := by decide +kernel
theorem dX8_agreeingHouses_35 : decode cX8_agreeingHouses 35 = .ok (.iconst 1, 1) := by decide +kernel
theorem dX8_agreeingHouses_36 : decode cX8_agreeingHouses 36 = .ok (.iload_n 2, 1) := by decide +kernel
theorem dX8_agreeingHouses_37 : decode cX8_agreeingHouses 37 = .ok (.ishl, 1) := by decide +kernel
theorem dX8_agreeingHouses_38 : decode cX8_agreeingHouses 38 = .ok (.ior, 1) := by decide +kernel
theorem dX8_agreeingHouses_39 : decode cX8_agreeingHouses 39 = .ok (.istore_n 1, 1) := by decide +kernel
theorem dX8_agreeingHouses_40 : decode cX8_agreeingHouses 40 = .ok (.iinc 2 1, 3) := by decide +kernel
theorem dX8_agreeingHouses_43 : decode cX8_agreeingHouses 43 = .ok (.goto (-39), 3) := by decide +kernel
theorem dX8_agreeingHouses_46 : decode cX8_agreeingHouses 46 = .ok (.iload_n 1, 1) := by decide +kernel
theorem dX8_agreeingHouses_47 : decode cX8_agreeingHouses 47 = .ok (.ireturn, 1) := by decide +kernel
theorem dX8_agreesFromLater_0 : decode cX8_agreesFromLater 0 = .ok (.aload_n 0, 1) := by decide +kernel
theorem dX8_agreesFromLater_1 : decode cX8_agreesFromLater 1 = .ok (.getfield 50, 3) := by decide +kernel
theorem dX8_agreesFromLater_4 : decode cX8_agreesFromLater 4 = .ok (.iload_n 1, 1) := by decide +kernel
theorem dX8_agreesFromLater_5 : decode cX8_agreesFromLater 5 = .ok (.invokevirtual 336, 3) := by decide +kernel
theorem dX8_agreesFromLater_8 : decode cX8_agreesFromLater 8 = .ok (.istore_n 2, 1) := by decide +kernel
theorem dX8_agreesFromLater_9 : decode cX8_agreesFromLater 9 = .ok (.iconst 0, 1) := by decide +kernel
theorem dX8_agreesFromLater_10 : decode cX8_agreesFromLater 10 = .ok (.istore_n 3, 1) := by decide +kernel
theorem dX8_agreesFromLater_11 : decode cX8_agreesFromLater 11 = .ok (.iload_n 3, 1) := by decide +kernel
theorem dX8_agreesFromLater_12 : decode cX8_agreesFromLater 12 = .ok (.iload_n 2, 1) := by decide +kernel
theorem dX8_agreesFromLater_13 : decode cX8_agreesFromLater 13 = .ok (.if_icmp .gt 55, 3) := by decide +kernel
theorem dX8_agreesFromLater_16 : decode cX8_agreesFromLater 16 = .ok (.aload_n 0, 1) := by decide +kernel
theorem dX8_agreesFromLater_17 : decode cX8_agreesFromLater 17 = .ok (.getfield 50, 3) := by decide +kernel
theorem dX8_agreesFromLater_20 : decode cX8_agreesFromLater 20 = .ok (.iload_n 1, 1) := by decide +kernel
theorem dX8_agreesFromLater_21 : decode cX8_agreesFromLater 21 = .ok (.iload_n 3, 1) := by decide +kernel
theorem dX8_agreesFromLater_22 : decode cX8_agreesFromLater 22 = .ok (.aload_n 0, 1) := by decide +kernel
theorem dX8_agreesFromLater_23 : decode cX8_agreesFromLater 23 = .ok (.getfield 37, 3) := by decide +kernel
theorem dX8_agreesFromLater_26 : decode cX8_agreesFromLater 26 = .ok (.getfield 197, 3) := by decide +kernel
theorem dX8_agreesFromLater_29 : decode cX8_agreesFromLater 29 = .ok (.iload_n 1, 1) := by decide +kernel
theorem dX8_agreesFromLater_30 : decode cX8_agreesFromLater 30 = .ok (.iaload, 1) := by decide +kernel
theorem dX8_agreesFromLater_31 : decode cX8_agreesFromLater 31 = .ok (.invokevirtual 339, 3) := by decide +kernel
theorem dX8_agreesFromLater_34 : decode cX8_agreesFromLater 34 = .ok (.ifCond .ne 5, 3) := by decide +kernel
theorem dX8_agreesFromLater_37 : decode cX8_agreesFromLater 37 = .ok (.iconst 0, 1) := by decide +kernel
theorem dX8_agreesFromLater_38 : decode cX8_agreesFromLater 38 = .ok (.ireturn, 1) := by decide +kernel
theorem dX8_agreesFromLater_39 : decode cX8_agreesFromLater 39 = .ok (.aload_n 0, 1) := by decide +kernel
theorem dX8_agreesFromLater_40 : decode cX8_agreesFromLater 40 = .ok (.getfield 23, 3) := by decide +kernel
theorem dX8_agreesFromLater_43 : decode cX8_agreesFromLater 43 = .ok (.aload_n 0, 1) := by decide +kernel
theorem dX8_agreesFromLater_44 : decode cX8_agreesFromLater 44 = .ok (.getfield 37, 3) := by decide +kernel
theorem dX8_agreesFromLater_47 : decode cX8_agreesFromLater 47 = .ok (.iload_n 1, 1) := by decide +kernel
theorem dX8_agreesFromLater_48 : decode cX8_agreesFromLater 48 = .ok (.aload_n 0, 1) := by decide +kernel
theorem dX8_agreesFromLater_49 : decode cX8_agreesFromLater 49 = .ok (.getfield 23, 3) := by decide +kernel
theorem dX8_agreesFromLater_52 : decode cX8_agreesFromLater 52 = .ok (.aload_n 0, 1) := by decide +kernel
theorem dX8_agreesFromLater_53 : decode cX8_agreesFromLater 53 = .ok (.getfield 37, 3) := by decide +kernel
theorem dX8_agreesFromLater_56 : decode cX8_agreesFromLater 56 = .ok (.invokevirtual 128, 3) := by decide +kernel
theorem dX8_agreesFromLater_59 : decode cX8_agreesFromLater 59 = .ok (.invokevirtual 290, 3) := by decide +kernel
theorem dX8_agreesFromLater_62 : decode cX8_agreesFromLater 62 = .ok (.iinc 3 1, 3) := by decide +kernel
theorem dX8_agreesFromLater_65 : decode cX8_agreesFromLater 65 = .ok (.goto (-54), 3) := by decide +kernel
theorem dX8_agreesFromLater_68 : decode cX8_agreesFromLater 68 = .ok (.iconst 1, 1) := by decide +kernel
theorem dX8_agreesFromLater_69 : decode cX8_agreesFromLater 69 = .ok (.ireturn, 1) := by decide +kernel
theorem dX8_findFitting_0 : decode cX8_findFitting 0 = .ok (.aload_n 0, 1) := by decide +kernel
theorem dX8_findFitting_1 : decode cX8_findFitting 1 = .ok (.invokevirtual 315, 3) := by decide +kernel
theorem dX8_findFitting_4 : decode cX8_findFitting 4 = .ok (.istore_n 1, 1) := by decide +kernel
theorem dX8_findFitting_5 : decode cX8_findFitting 5 = .ok (.iconst 0, 1) := by decide +kernel
theorem dX8_findFitting_6 : decode cX8_findFitting 6 = .ok (.istore_n 2, 1) := by decide +kernel
theorem dX8_findFitting_7 : decode cX8_findFitting 7 = .ok (.iload_n 2, 1) := by decide +kernel
theorem dX8_findFitting_8 : decode cX8_findFitting 8 = .ok (.aload_n 0, 1) := by decide +kernel
theorem dX8_findFitting_9 : decode cX8_findFitting 9 = .ok (.getfield 23, 3) := by decide +kernel
theorem dX8_findFitting_12 : decode cX8_findFitting 12 = .ok (.getfield 122, 3) := by decide +kernel
theorem dX8_findFitting_15 : decode cX8_findFitting 15 = .ok (.if_icmp .ge 68, 3) := by decide +kernel
theorem dX8_findFitting_18 : decode cX8_findFitting 18 = .ok (.aload_n 0, 1) := by decide +kernel
theorem dX8_findFitting_19 : decode cX8_findFitting 19 = .ok (.getfield 33, 3) := by decide +kernel
theorem dX8_findFitting_22 : decode cX8_findFitting 22 = .ok (.getfield 162, 3) := by decide +kernel
theorem dX8_findFitting_25 : decode cX8_findFitting 25 = .ok (.iload_n 2, 1) := by decide +kernel
theorem dX8_findFitting_26 : decode cX8_findFitting 26 = .ok (.iaload, 1) := by decide +kernel
theorem dX8_findFitting_27 : decode cX8_findFitting 27 = .ok (.istore_n 3, 1) := by decide +kernel
theorem dX8_findFitting_28 : decode cX8_findFitting 28 = .ok (.iload_n 3, 1) := by decide +kernel
theorem dX8_findFitting_29 : decode cX8_findFitting 29 = .ok (.iconst (-1), 1) := by decide +kernel
theorem dX8_findFitting_30 : decode cX8_findFitting 30 = .ok (.if_icmp .ne 10, 3) := by decide +kernel
theorem dX8_findFitting_33 : decode cX8_findFitting 33 = .ok (.aload_n 0, 1) := by decide +kernel
theorem dX8_findFitting_34 : decode cX8_findFitting 34 = .ok (.invokevirtual 318, 3) := by decide +kernel
theorem dX8_findFitting_37 : decode cX8_findFitting 37 = .ok (.goto 13, 3) := by decide +kernel
theorem dX8_findFitting_40 : decode cX8_findFitting 40 = .ok (.aload_n 0, 1) := by decide +kernel
theorem dX8_findFitting_41 : decode cX8_findFitting 41 = .ok (.invokevirtual 318, 3) := by decide +kernel
theorem dX8_findFitting_44 : decode cX8_findFitting 44 = .ok (.iconst 1, 1) := by decide +kernel
theorem dX8_findFitting_45 : decode cX8_findFitting 45 = .ok (.iload_n 3, 1) := by decide +kernel
theorem dX8_findFitting_46 : decode cX8_findFitting 46 = .ok (.ishl, 1) := by decide +kernel
theorem dX8_findFitting_47 : decode cX8_findFitting 47 = .ok (.iconst (-1), 1) := by decide +kernel
theorem dX8_findFitting_48 : decode cX8_findFitting 48 = .ok (.ixor, 1) := by decide +kernel
theorem dX8_findFitting_49 : decode cX8_findFitting 49 = .ok (.iand, 1) := by decide +kernel
theorem dX8_findFitting_50 : decode cX8_findFitting 50 = .ok (.istore 4, 2) := by decide +kernel
theorem dX8_findFitting_52 : decode cX8_findFitting 52 = .ok (.aload_n 0, 1) := by decide +kernel
theorem dX8_findFitting_53 : decode cX8_findFitting 53 = .ok (.getfield 85, 3) := by decide +kernel
theorem dX8_findFitting_56 : decode cX8_findFitting 56 = .ok (.iload_n 2, 1) := by decide +kernel
theorem dX8_findFitting_57 : decode cX8_findFitting 57 = .ok (.iload_n 1, 1) := by decide +kernel
theorem dX8_findFitting_58 : decode cX8_findFitting 58 = .ok (.iload 4, 2) := by decide +kernel
theorem dX8_findFitting_60 : decode cX8_findFitting 60 = .ok (.iand, 1) := by decide +kernel
theorem dX8_findFitting_61 : decode cX8_findFitting 61 = .ok (.iload 4, 2) := by decide +kernel
theorem dX8_findFitting_63 : decode cX8_findFitting 63 = .ok (.if_icmp .ne 12, 3) := by decide +kernel
theorem dX8_findFitting_66 : decode cX8_findFitting 66 = .ok (.aload_n 0, 1) := by decide +kernel
theorem dX8_findFitting_67 : decode cX8_findFitting 67 = .ok (.iload_n 2, 1) := by decide +kernel
theorem dX8_findFitting_68 : decode cX8_findFitting 68 = .ok (.iload_n 3, 1) := by decide +kernel
theorem dX8_findFitting_69 : decode cX8_findFitting 69 = .ok (.invokevirtual 343, 3) := by decide +kernel
theorem dX8_findFitting_72 : decode cX8_findFitting 72 = .ok (.goto 4, 3) := by decide +kernel
theorem dX8_findFitting_75 : decode cX8_findFitting 75 = .ok (.lconst 0, 1) := by decide +kernel
theorem dX8_findFitting_76 : decode cX8_findFitting 76 = .ok (.lastore, 1) := by decide +kernel
theorem dX8_findFitting_77 : decode cX8_findFitting 77 = .ok (.iinc 2 1, 3) := by decide +kernel
theorem dX8_findFitting_80 : decode cX8_findFitting 80 = .ok (.goto (-73), 3) := by decide +kernel
theorem dX8_findFitting_83 : decode cX8_findFitting 83 = .ok (.return_, 1) := by decide +kernel
theorem dX8_fittingSizes_0 : decode cX8_fittingSizes 0 = .ok (.lconst 0, 1) := by decide +kernel
theorem dX8_fittingSizes_1 : decode cX8_fittingSizes 1 = .ok (.lstore_n 3, 1) := by decide +kernel
theorem dX8_fittingSizes_2 : decode cX8_fittingSizes 2 = .ok (.iconst 1, 1) := by decide +kernel
theorem dX8_fittingSizes_3 : decode cX8_fittingSizes 3 = .ok (.istore 5, 2) := by decide +kernel
theorem dX8_fittingSizes_5 : decode cX8_fittingSizes 5 = .ok (.iload 5, 2) := by decide +kernel
theorem dX8_fittingSizes_7 : decode cX8_fittingSizes 7 = .ok (.bipush 60, 2) := by decide +kernel
theorem dX8_fittingSizes_9 : decode cX8_fittingSizes 9 = .ok (.if_icmp .gt 65, 3) := by decide +kernel
theorem dX8_fittingSizes_12 : decode cX8_fittingSizes 12 = .ok (.aload_n 0, 1) := by decide +kernel
theorem dX8_fittingSizes_13 : decode cX8_fittingSizes 13 = .ok (.getfield 37, 3) := by decide +kernel
theorem dX8_fittingSizes_16 : decode cX8_fittingSizes 16 = .ok (.aload_n 0, 1) := by decide +kernel
theorem dX8_fittingSizes_17 : decode cX8_fittingSizes 17 = .ok (.getfield 33, 3) := by decide +kernel
theorem dX8_fittingSizes_20 : decode cX8_fittingSizes 20 = .ok (.invokevirtual 274, 3) := by decide +kernel
theorem dX8_fittingSizes_23 : decode cX8_fittingSizes 23 = .ok (.aload_n 0, 1) := by decide +kernel
theorem dX8_fittingSizes_24 : decode cX8_fittingSizes 24 = .ok (.getfield 37, 3) := by decide +kernel
theorem dX8_fittingSizes_27 : decode cX8_fittingSizes 27 = .ok (.getfield 212, 3) := by decide +kernel
theorem dX8_fittingSizes_30 : decode cX8_fittingSizes 30 = .ok (.iload_n 1, 1) := by decide +kernel
theorem dX8_fittingSizes_31 : decode cX8_fittingSizes 31 = .ok (.iload 5, 2) := by decide +kernel
theorem dX8_fittingSizes_33 : decode cX8_fittingSizes 33 = .ok (.iastore, 1) := by decide +kernel
theorem dX8_fittingSizes_34 : decode cX8_fittingSizes 34 = .ok (.iload 5, 2) := by decide +kernel
theorem dX8_fittingSizes_36 : decode cX8_fittingSizes 36 = .ok (.aload_n 0, 1) := by decide +kernel
theorem dX8_fittingSizes_37 : decode cX8_fittingSizes 37 = .ok (.getfield 33, 3) := by decide +kernel
theorem dX8_fittingSizes_40 : decode cX8_fittingSizes 40 = .ok (.getfield 212, 3) := by decide +kernel
theorem dX8_fittingSizes_43 : decode cX8_fittingSizes 43 = .ok (.iload_n 1, 1) := by decide +kernel
theorem dX8_fittingSizes_44 : decode cX8_fittingSizes 44 = .ok (.iaload, 1) := by decide +kernel
theorem dX8_fittingSizes_45 : decode cX8_fittingSizes 45 = .ok (.if_icmp .eq 23, 3) := by decide +kernel
theorem dX8_fittingSizes_48 : decode cX8_fittingSizes 48 = .ok (.iload_n 2, 1) := by decide +kernel
theorem dX8_fittingSizes_49 : decode cX8_fittingSizes 49 = .ok (.iconst (-1), 1) := by decide +kernel
theorem dX8_fittingSizes_50 : decode cX8_fittingSizes 50 = .ok (.if_icmp .eq 11, 3) := by decide +kernel
theorem dX8_fittingSizes_53 : decode cX8_fittingSizes 53 = .ok (.aload_n 0, 1) := by decide +kernel
theorem dX8_fittingSizes_54 : decode cX8_fittingSizes 54 = .ok (.iload_n 2, 1) := by decide +kernel
theorem dX8_fittingSizes_55 : decode cX8_fittingSizes 55 = .ok (.invokevirtual 333, 3) := by decide +kernel
theorem dX8_fittingSizes_58 : decode cX8_fittingSizes 58 = .ok (.ifCond .eq 10, 3) := by decide +kernel
theorem dX8_fittingSizes_61 : decode cX8_fittingSizes 61 = .ok (.lload_n 3, 1) := by decide +kernel
theorem dX8_fittingSizes_62 : decode cX8_fittingSizes 62 = .ok (.lconst 1, 1) := by decide +kernel
theorem dX8_fittingSizes_63 : decode cX8_fittingSizes 63 = .ok (.iload 5, 2) := by decide +kernel
theorem dX8_fittingSizes_65 : decode cX8_fittingSizes 65 = .ok (.lshl, 1) := by decide +kernel
theorem dX8_fittingSizes_66 : decode cX8_fittingSizes 66 = .ok (.lor, 1) := by decide +kernel
theorem dX8_fittingSizes_67 : decode cX8_fittingSizes 67 = .ok (.lstore_n 3, 1) := by decide +kernel
theorem dX8_fittingSizes_68 : decode cX8_fittingSizes 68 = .ok (.iinc 5 1, 3) := by decide +kernel
theorem dX8_fittingSizes_71 : decode cX8_fittingSizes 71 = .ok (.goto (-66), 3) := by decide +kernel
theorem dX8_fittingSizes_74 : decode cX8_fittingSizes 74 = .ok (.lload_n 3, 1) := by decide +kernel
theorem dX8_fittingSizes_75 : decode cX8_fittingSizes 75 = .ok (.lreturn, 1) := by decide +kernel
theorem dX8_next_0 : decode cX8_next 0 = .ok (.iload_n 1, 1) := by decide +kernel
theorem dX8_next_1 : decode cX8_next 1 = .ok (.iconst 1, 1) := by decide +kernel
theorem dX8_next_2 : decode cX8_next 2 = .ok (.invokestatic 277, 3) := by decide +kernel
theorem dX8_next_5 : decode cX8_next 5 = .ok (.aload_n 0, 1) := by decide +kernel
theorem dX8_next_6 : decode cX8_next 6 = .ok (.invokevirtual 321, 3) := by decide +kernel
theorem dX8_next_9 : decode cX8_next 9 = .ok (.iconst (-1), 1) := by decide +kernel
theorem dX8_next_10 : decode cX8_next 10 = .ok (.istore_n 2, 1) := by decide +kernel
theorem dX8_next_11 : decode cX8_next 11 = .ok (.iconst 0, 1) := by decide +kernel
theorem dX8_next_12 : decode cX8_next 12 = .ok (.istore_n 3, 1) := by decide +kernel
theorem dX8_next_13 : decode cX8_next 13 = .ok (.iconst 0, 1) := by decide +kernel
theorem dX8_next_14 : decode cX8_next 14 = .ok (.istore 4, 2) := by decide +kernel
theorem dX8_next_16 : decode cX8_next 16 = .ok (.iload 4, 2) := by decide +kernel
theorem dX8_next_18 : decode cX8_next 18 = .ok (.aload_n 0, 1) := by decide +kernel
theorem dX8_next_19 : decode cX8_next 19 = .ok (.getfield 23, 3) := by decide +kernel
theorem dX8_next_22 : decode cX8_next 22 = .ok (.getfield 119, 3) := by decide +kernel
theorem dX8_next_25 : decode cX8_next 25 = .ok (.if_icmp .ge 29, 3) := by decide +kernel
theorem dX8_next_28 : decode cX8_next 28 = .ok (.aload_n 0, 1) := by decide +kernel
theorem dX8_next_29 : decode cX8_next 29 = .ok (.iload 4, 2) := by decide +kernel
theorem dX8_next_31 : decode cX8_next 31 = .ok (.invokevirtual 347, 3) := by decide +kernel
theorem dX8_next_34 : decode cX8_next 34 = .ok (.istore 5, 2) := by decide +kernel
theorem dX8_next_36 : decode cX8_next 36 = .ok (.iload 5, 2) := by decide +kernel
theorem dX8_next_38 : decode cX8_next 38 = .ok (.iload_n 3, 1) := by decide +kernel
theorem dX8_next_39 : decode cX8_next 39 = .ok (.if_icmp .le 9, 3) := by decide +kernel
theorem dX8_next_42 : decode cX8_next 42 = .ok (.iload 5, 2) := by decide +kernel
theorem dX8_next_44 : decode cX8_next 44 = .ok (.istore_n 3, 1) := by decide +kernel
theorem dX8_next_45 : decode cX8_next 45 = .ok (.iload 4, 2) := by decide +kernel
theorem dX8_next_47 : decode cX8_next 47 = .ok (.istore_n 2, 1) := by decide +kernel
theorem dX8_next_48 : decode cX8_next 48 = .ok (.iinc 4 1, 3) := by decide +kernel
theorem dX8_next_51 : decode cX8_next 51 = .ok (.goto (-35), 3) := by decide +kernel
theorem dX8_next_54 : decode cX8_next 54 = .ok (.iload_n 1, 1) := by decide +kernel
theorem dX8_next_55 : decode cX8_next 55 = .ok (.ifCond .ne 7, 3) := by decide +kernel
theorem dX8_next_58 : decode cX8_next 58 = .ok (.iload_n 2, 1) := by decide +kernel
theorem dX8_next_59 : decode cX8_next 59 = .ok (.goto 4, 3) := by decide +kernel
theorem dX8_next_62 : decode cX8_next 62 = .ok (.iload_n 3, 1) := by decide +kernel
theorem dX8_next_63 : decode cX8_next 63 = .ok (.ireturn, 1) := by decide +kernel
theorem dX8_unlikeWorn_0 : decode cX8_unlikeWorn 0 = .ok (.lconst 0, 1) := by decide +kernel
theorem dX8_unlikeWorn_1 : decode cX8_unlikeWorn 1 = .ok (.lstore_n 2, 1) := by decide +kernel
theorem dX8_unlikeWorn_2 : decode cX8_unlikeWorn 2 = .ok (.lconst 0, 1) := by decide +kernel
theorem dX8_unlikeWorn_3 : decode cX8_unlikeWorn 3 = .ok (.lstore 4, 2) := by decide +kernel
theorem dX8_unlikeWorn_5 : decode cX8_unlikeWorn 5 = .ok (.iconst 0, 1) := by decide +kernel
theorem dX8_unlikeWorn_6 : decode cX8_unlikeWorn 6 = .ok (.istore 6, 2) := by decide +kernel
theorem dX8_unlikeWorn_8 : decode cX8_unlikeWorn 8 = .ok (.iload 6, 2) := by decide +kernel
theorem dX8_unlikeWorn_10 : decode cX8_unlikeWorn 10 = .ok (.aload_n 0, 1) := by decide +kernel
theorem dX8_unlikeWorn_11 : decode cX8_unlikeWorn 11 = .ok (.getfield 23, 3) := by decide +kernel
theorem dX8_unlikeWorn_14 : decode cX8_unlikeWorn 14 = .ok (.getfield 122, 3) := by decide +kernel
theorem dX8_unlikeWorn_17 : decode cX8_unlikeWorn 17 = .ok (.if_icmp .ge 131, 3) := by decide +kernel
theorem dX8_unlikeWorn_20 : decode cX8_unlikeWorn 20 = .ok (.aload_n 0, 1) := by decide +kernel
theorem dX8_unlikeWorn_21 : decode cX8_unlikeWorn 21 = .ok (.getfield 33, 3) := by decide +kernel
theorem dX8_unlikeWorn_24 : decode cX8_unlikeWorn 24 = .ok (.getfield 162, 3) := by decide +kernel
theorem dX8_unlikeWorn_27 : decode cX8_unlikeWorn 27 = .ok (.iload 6, 2) := by decide +kernel
theorem dX8_unlikeWorn_29 : decode cX8_unlikeWorn 29 = .ok (.iaload, 1) := by decide +kernel
theorem dX8_unlikeWorn_30 : decode cX8_unlikeWorn 30 = .ok (.iload_n 1, 1) := by decide +kernel
theorem dX8_unlikeWorn_31 : decode cX8_unlikeWorn 31 = .ok (.if_icmp .ne 13, 3) := by decide +kernel
theorem dX8_unlikeWorn_34 : decode cX8_unlikeWorn 34 = .ok (.aload_n 0, 1) := by decide +kernel
theorem dX8_unlikeWorn_35 : decode cX8_unlikeWorn 35 = .ok (.getfield 85, 3) := by decide +kernel
theorem dX8_unlikeWorn_38 : decode cX8_unlikeWorn 38 = .ok (.iload 6, 2) := by decide +kernel
theorem dX8_unlikeWorn_40 : decode cX8_unlikeWorn 40 = .ok (.laload, 1) := by decide +kernel
theorem dX8_unlikeWorn_41 : decode cX8_unlikeWorn 41 = .ok (.goto 19, 3) := by decide +kernel
theorem dX8_unlikeWorn_44 : decode cX8_unlikeWorn 44 = .ok (.aload_n 0, 1) := by decide +kernel
theorem dX8_unlikeWorn_45 : decode cX8_unlikeWorn 45 = .ok (.getfield 85, 3) := by decide +kernel
theorem dX8_unlikeWorn_48 : decode cX8_unlikeWorn 48 = .ok (.iload 6, 2) := by decide +kernel
theorem dX8_unlikeWorn_50 : decode cX8_unlikeWorn 50 = .ok (.laload, 1) := by decide +kernel
theorem dX8_unlikeWorn_51 : decode cX8_unlikeWorn 51 = .ok (.aload_n 0, 1) := by decide +kernel
theorem dX8_unlikeWorn_52 : decode cX8_unlikeWorn 52 = .ok (.getfield 85, 3) := by decide +kernel
theorem dX8_unlikeWorn_55 : decode cX8_unlikeWorn 55 = .ok (.iload 6, 2) := by decide +kernel
theorem dX8_unlikeWorn_57 : decode cX8_unlikeWorn 57 = .ok (.laload, 1) := by decide +kernel
theorem dX8_unlikeWorn_58 : decode cX8_unlikeWorn 58 = .ok (.lneg, 1) := by decide +kernel
theorem dX8_unlikeWorn_59 : decode cX8_unlikeWorn 59 = .ok (.land, 1) := by decide +kernel
theorem dX8_unlikeWorn_60 : decode cX8_unlikeWorn 60 = .ok (.lstore 7, 2) := by decide +kernel
theorem dX8_unlikeWorn_62 : decode cX8_unlikeWorn 62 = .ok (.iconst 1, 1) := by decide +kernel
theorem dX8_unlikeWorn_63 : decode cX8_unlikeWorn 63 = .ok (.istore 9, 2) := by decide +kernel
theorem dX8_unlikeWorn_65 : decode cX8_unlikeWorn 65 = .ok (.iload 9, 2) := by decide +kernel
theorem dX8_unlikeWorn_67 : decode cX8_unlikeWorn 67 = .ok (.bipush 60, 2) := by decide +kernel
theorem dX8_unlikeWorn_69 : decode cX8_unlikeWorn 69 = .ok (.if_icmp .gt 73, 3) := by decide +kernel
theorem dX8_unlikeWorn_72 : decode cX8_unlikeWorn 72 = .ok (.lload 7, 2) := by decide +kernel
theorem dX8_unlikeWorn_74 : decode cX8_unlikeWorn 74 = .ok (.iload 9, 2) := by decide +kernel
theorem dX8_unlikeWorn_76 : decode cX8_unlikeWorn 76 = .ok (.lshr, 1) := by decide +kernel
theorem dX8_unlikeWorn_77 : decode cX8_unlikeWorn 77 = .ok (.lconst 1, 1) := by decide +kernel
theorem dX8_unlikeWorn_78 : decode cX8_unlikeWorn 78 = .ok (.land, 1) := by decide +kernel
theorem dX8_unlikeWorn_79 : decode cX8_unlikeWorn 79 = .ok (.lconst 1, 1) := by decide +kernel
theorem dX8_unlikeWorn_80 : decode cX8_unlikeWorn 80 = .ok (.lcmp, 1) := by decide +kernel
theorem dX8_unlikeWorn_81 : decode cX8_unlikeWorn 81 = .ok (.ifCond .ne 55, 3) := by decide +kernel
theorem dX8_unlikeWorn_84 : decode cX8_unlikeWorn 84 = .ok (.aload_n 0, 1) := by decide +kernel
theorem dX8_unlikeWorn_85 : decode cX8_unlikeWorn 85 = .ok (.iload 6, 2) := by decide +kernel
theorem dX8_unlikeWorn_87 : decode cX8_unlikeWorn 87 = .ok (.iload 9, 2) := by decide +kernel
theorem dX8_unlikeWorn_89 : decode cX8_unlikeWorn 89 = .ok (.iload_n 1, 1) := by decide +kernel
theorem dX8_unlikeWorn_90 : decode cX8_unlikeWorn 90 = .ok (.invokevirtual 350, 3) := by decide +kernel
theorem dX8_unlikeWorn_93 : decode cX8_unlikeWorn 93 = .ok (.istore 10, 2) := by decide +kernel
theorem dX8_unlikeWorn_95 : decode cX8_unlikeWorn 95 = .ok (.lload_n 2, 1) := by decide +kernel
theorem dX8_unlikeWorn_96 : decode cX8_unlikeWorn 96 = .ok (.iload 10, 2) := by decide +kernel
theorem dX8_unlikeWorn_98 : decode cX8_unlikeWorn 98 = .ok (.bipush 50, 2) := by decide +kernel
theorem dX8_unlikeWorn_100 : decode cX8_unlikeWorn 100 = .ok (.if_icmp .ge 10, 3) := by decide +kernel
theorem dX8_unlikeWorn_103 : decode cX8_unlikeWorn 103 = .ok (.lconst 1, 1) := by decide +kernel
theorem dX8_unlikeWorn_104 : decode cX8_unlikeWorn 104 = .ok (.iload 10, 2) := by decide +kernel
theorem dX8_unlikeWorn_106 : decode cX8_unlikeWorn 106 = .ok (.lshl, 1) := by decide +kernel
theorem dX8_unlikeWorn_107 : decode cX8_unlikeWorn 107 = .ok (.goto 4, 3) := by decide +kernel
theorem dX8_unlikeWorn_110 : decode cX8_unlikeWorn 110 = .ok (.lconst 0, 1) := by decide +kernel
theorem dX8_unlikeWorn_111 : decode cX8_unlikeWorn 111 = .ok (.lor, 1) := by decide +kernel
theorem dX8_unlikeWorn_112 : decode cX8_unlikeWorn 112 = .ok (.lstore_n 2, 1) := by decide +kernel
theorem dX8_unlikeWorn_113 : decode cX8_unlikeWorn 113 = .ok (.lload 4, 2) := by decide +kernel
theorem dX8_unlikeWorn_115 : decode cX8_unlikeWorn 115 = .ok (.iload 10, 2) := by decide +kernel
theorem dX8_unlikeWorn_117 : decode cX8_unlikeWorn 117 = .ok (.bipush 50, 2) := by decide +kernel
theorem dX8_unlikeWorn_119 : decode cX8_unlikeWorn 119 = .ok (.if_icmp .ge 7, 3) := by decide +kernel
theorem dX8_unlikeWorn_122 : decode cX8_unlikeWorn 122 = .ok (.lconst 0, 1) := by decide +kernel
theorem dX8_unlikeWorn_123 : decode cX8_unlikeWorn 123 = .ok (.goto 10, 3) := by decide +kernel
theorem dX8_unlikeWorn_126 : decode cX8_unlikeWorn 126 = .ok (.lconst 1, 1) := by decide +kernel
theorem dX8_unlikeWorn_127 : decode cX8_unlikeWorn 127 = .ok (.iload 10, 2) := by decide +kernel
theorem dX8_unlikeWorn_129 : decode cX8_unlikeWorn 129 = .ok (.bipush 50, 2) := by decide +kernel
theorem dX8_unlikeWorn_131 : decode cX8_unlikeWorn 131 = .ok (.isub, 1) := by decide +kernel
theorem dX8_unlikeWorn_132 : decode cX8_unlikeWorn 132 = .ok (.lshl, 1) := by decide +kernel
theorem dX8_unlikeWorn_133 : decode cX8_unlikeWorn 133 = .ok (.lor, 1) := by decide +kernel
theorem dX8_unlikeWorn_134 : decode cX8_unlikeWorn 134 = .ok (.lstore 4, 2) := by decide +kernel
theorem dX8_unlikeWorn_136 : decode cX8_unlikeWorn 136 = .ok (.iinc 9 1, 3) := by decide +kernel
theorem dX8_unlikeWorn_139 : decode cX8_unlikeWorn 139 = .ok (.goto (-74), 3) := by decide +kernel
theorem dX8_unlikeWorn_142 : decode cX8_unlikeWorn 142 = .ok (.iinc 6 1, 3) := by decide +kernel
theorem dX8_unlikeWorn_145 : decode cX8_unlikeWorn 145 = .ok (.goto (-137), 3) := by decide +kernel
theorem dX8_unlikeWorn_148 : decode cX8_unlikeWorn 148 = .ok (.lload_n 2, 1) := by decide +kernel
theorem dX8_unlikeWorn_149 : decode cX8_unlikeWorn 149 = .ok (.invokestatic 328, 3) := by decide +kernel
theorem dX8_unlikeWorn_152 : decode cX8_unlikeWorn 152 = .ok (.lload 4, 2) := by decide +kernel
theorem dX8_unlikeWorn_154 : decode cX8_unlikeWorn 154 = .ok (.invokestatic 328, 3) := by decide +kernel
theorem dX8_unlikeWorn_157 : decode cX8_unlikeWorn 157 = .ok (.iadd, 1) := by decide +kernel
theorem dX8_unlikeWorn_158 : decode cX8_unlikeWorn 158 = .ok (.ireturn, 1) := by decide +kernel
theorem dX8_wornAtSill_0 : decode cX8_wornAtSill 0 = .ok (.aload_n 0, 1) := by decide +kernel
theorem dX8_wornAtSill_1 : decode cX8_wornAtSill 1 = .ok (.getfield 37, 3) := by decide +kernel
theorem dX8_wornAtSill_4 : decode cX8_wornAtSill 4 = .ok (.aload_n 0, 1) := by decide +kernel
theorem dX8_wornAtSill_5 : decode cX8_wornAtSill 5 = .ok (.getfield 33, 3) := by decide +kernel
theorem dX8_wornAtSill_8 : decode cX8_wornAtSill 8 = .ok (.invokevirtual 274, 3) := by decide +kernel
theorem dX8_wornAtSill_11 : decode cX8_wornAtSill 11 = .ok (.aload_n 0, 1) := by decide +kernel
theorem dX8_wornAtSill_12 : decode cX8_wornAtSill 12 = .ok (.getfield 37, 3) := by decide +kernel
theorem dX8_wornAtSill_15 : decode cX8_wornAtSill 15 = .ok (.getfield 212, 3) := by decide +kernel
theorem dX8_wornAtSill_18 : decode cX8_wornAtSill 18 = .ok (.iload_n 1, 1) := by decide +kernel
theorem dX8_wornAtSill_19 : decode cX8_wornAtSill 19 = .ok (.iload_n 2, 1) := by decide +kernel
theorem dX8_wornAtSill_20 : decode cX8_wornAtSill 20 = .ok (.iastore, 1) := by decide +kernel
theorem dX8_wornAtSill_21 : decode cX8_wornAtSill 21 = .ok (.iconst 0, 1) := by decide +kernel
theorem dX8_wornAtSill_22 : decode cX8_wornAtSill 22 = .ok (.istore 4, 2) := by decide +kernel
theorem dX8_wornAtSill_24 : decode cX8_wornAtSill 24 = .ok (.iload 4, 2) := by decide +kernel
theorem dX8_wornAtSill_26 : decode cX8_wornAtSill 26 = .ok (.iconst 5, 1) := by decide +kernel
theorem dX8_wornAtSill_27 : decode cX8_wornAtSill 27 = .ok (.if_icmp .ge 32, 3) := by decide +kernel
theorem dX8_wornAtSill_30 : decode cX8_wornAtSill 30 = .ok (.aload_n 0, 1) := by decide +kernel
theorem dX8_wornAtSill_31 : decode cX8_wornAtSill 31 = .ok (.getfield 23, 3) := by decide +kernel
theorem dX8_wornAtSill_34 : decode cX8_wornAtSill 34 = .ok (.aload_n 0, 1) := by decide +kernel
theorem dX8_wornAtSill_35 : decode cX8_wornAtSill 35 = .ok (.getfield 37, 3) := by decide +kernel
theorem dX8_wornAtSill_38 : decode cX8_wornAtSill 38 = .ok (.iload_n 3, 1) := by decide +kernel
theorem dX8_wornAtSill_39 : decode cX8_wornAtSill 39 = .ok (.aload_n 0, 1) := by decide +kernel
theorem dX8_wornAtSill_40 : decode cX8_wornAtSill 40 = .ok (.getfield 23, 3) := by decide +kernel
theorem dX8_wornAtSill_43 : decode cX8_wornAtSill 43 = .ok (.aload_n 0, 1) := by decide +kernel
theorem dX8_wornAtSill_44 : decode cX8_wornAtSill 44 = .ok (.getfield 37, 3) := by decide +kernel
theorem dX8_wornAtSill_47 : decode cX8_wornAtSill 47 = .ok (.invokevirtual 128, 3) := by decide +kernel
theorem dX8_wornAtSill_50 : decode cX8_wornAtSill 50 = .ok (.invokevirtual 290, 3) := by decide +kernel
theorem dX8_wornAtSill_53 : decode cX8_wornAtSill 53 = .ok (.iinc 4 1, 3) := by decide +kernel
theorem dX8_wornAtSill_56 : decode cX8_wornAtSill 56 = .ok (.goto (-32), 3) := by decide +kernel
theorem dX8_wornAtSill_59 : decode cX8_wornAtSill 59 = .ok (.aload_n 0, 1) := by decide +kernel
theorem dX8_wornAtSill_60 : decode cX8_wornAtSill 60 = .ok (.getfield 37, 3) := by decide +kernel
theorem dX8_wornAtSill_63 : decode cX8_wornAtSill 63 = .ok (.getfield 197, 3) := by decide +kernel
theorem dX8_wornAtSill_66 : decode cX8_wornAtSill 66 = .ok (.iload_n 3, 1) := by decide +kernel
theorem dX8_wornAtSill_67 : decode cX8_wornAtSill 67 = .ok (.iaload, 1) := by decide +kernel
theorem dX8_wornAtSill_68 : decode cX8_wornAtSill 68 = .ok (.ireturn, 1) := by decide +kernel
theorem dX8_byDamp_0 : decode cX8_byDamp 0 = .ok (.aload_n 0, 1) := by decide +kernel
theorem dX8_byDamp_1 : decode cX8_byDamp 1 = .ok (.iload_n 1, 1) := by decide +kernel
theorem dX8_byDamp_2 : decode cX8_byDamp 2 = .ok (.invokevirtual 186, 3) := by decide +kernel
theorem dX8_byDamp_5 : decode cX8_byDamp 5 = .ok (.iload_n 2, 1) := by decide +kernel
theorem dX8_byDamp_6 : decode cX8_byDamp 6 = .ok (.iconst 1, 1) := by decide +kernel
theorem dX8_byDamp_7 : decode cX8_byDamp 7 = .ok (.if_icmp .lt 18, 3) := by decide +kernel
theorem dX8_byDamp_10 : decode cX8_byDamp 10 = .ok (.iload_n 2, 1) := by decide +kernel
theorem dX8_byDamp_11 : decode cX8_byDamp 11 = .ok (.iconst 5, 1) := by decide +kernel
theorem dX8_byDamp_12 : decode cX8_byDamp 12 = .ok (.if_icmp .gt 13, 3) := by decide +kernel
theorem dX8_byDamp_15 : decode cX8_byDamp 15 = .ok (.iload_n 3, 1) := by decide +kernel
theorem dX8_byDamp_16 : decode cX8_byDamp 16 = .ok (.ifCond .lt 9, 3) := by decide +kernel
theorem dX8_byDamp_19 : decode cX8_byDamp 19 = .ok (.iload_n 3, 1) := by decide +kernel
theorem dX8_byDamp_20 : decode cX8_byDamp 20 = .ok (.bipush 10, 2) := by decide +kernel
theorem dX8_byDamp_22 : decode cX8_byDamp 22 = .ok (.if_icmp .le 14, 3) := by decide +kernel
theorem dX8_byDamp_25 : decode cX8_byDamp 25 = .ok (.new 97, 3) := by decide +kernel
theorem dX8_byDamp_28 : decode cX8_byDamp 28 = .ok (.dup, 1) := by decide +kernel
theorem dX8_byDamp_29 : decode cX8_byDamp 29 = .ok (.ldc_w 354, 3) := by decide +kernel
theorem dX8_byDamp_32 : decode cX8_byDamp 32 = .ok (.invokespecial 101, 3) := by decide +kernel
theorem dX8_byDamp_35 : decode cX8_byDamp 35 = .ok (.athrow, 1) := by decide +kernel
theorem dX8_byDamp_36 : decode cX8_byDamp 36 = .ok (.iconst 0, 1) := by decide +kernel
theorem dX8_byDamp_37 : decode cX8_byDamp 37 = .ok (.istore 4, 2) := by decide +kernel
theorem dX8_byDamp_39 : decode cX8_byDamp 39 = .ok (.iconst 0, 1) := by decide +kernel
theorem dX8_byDamp_40 : decode cX8_byDamp 40 = .ok (.istore 5, 2) := by decide +kernel
theorem dX8_byDamp_42 : decode cX8_byDamp 42 = .ok (.iload 5, 2) := by decide +kernel
theorem dX8_byDamp_44 : decode cX8_byDamp 44 = .ok (.iconst 1, 1) := by decide +kernel
theorem dX8_byDamp_45 : decode cX8_byDamp 45 = .ok (.iload_n 2, 1) := by decide +kernel
theorem dX8_byDamp_46 : decode cX8_byDamp 46 = .ok (.ishl, 1) := by decide +kernel
theorem dX8_byDamp_47 : decode cX8_byDamp 47 = .ok (.if_icmp .ge 32, 3) := by decide +kernel
theorem dX8_byDamp_50 : decode cX8_byDamp 50 = .ok (.aload_n 0, 1) := by decide +kernel
theorem dX8_byDamp_51 : decode cX8_byDamp 51 = .ok (.iload_n 1, 1) := by decide +kernel
theorem dX8_byDamp_52 : decode cX8_byDamp 52 = .ok (.iload_n 2, 1) := by decide +kernel
theorem dX8_byDamp_53 : decode cX8_byDamp 53 = .ok (.iload 5, 2) := by decide +kernel
theorem dX8_byDamp_55 : decode cX8_byDamp 55 = .ok (.invokevirtual 356, 3) := by decide +kernel
theorem dX8_byDamp_58 : decode cX8_byDamp 58 = .ok (.ifCond .eq 15, 3) := by decide +kernel
theorem dX8_byDamp_61 : decode cX8_byDamp 61 = .ok (.iload 4, 2) := by decide +kernel
theorem dX8_byDamp_63 : decode cX8_byDamp 63 = .ok (.iload_n 2, 1) := by decide +kernel
theorem dX8_byDamp_64 : decode cX8_byDamp 64 = .ok (.iload 5, 2) := by decide +kernel
theorem dX8_byDamp_66 : decode cX8_byDamp 66 = .ok (.iload_n 3, 1) := by decide +kernel
theorem dX8_byDamp_67 : decode cX8_byDamp 67 = .ok (.invokestatic 359, 3) := by decide +kernel
theorem dX8_byDamp_70 : decode cX8_byDamp 70 = .ok (.iadd, 1) := by decide +kernel
theorem dX8_byDamp_71 : decode cX8_byDamp 71 = .ok (.istore 4, 2) := by decide +kernel
theorem dX8_byDamp_73 : decode cX8_byDamp 73 = .ok (.iinc 5 1, 3) := by decide +kernel
theorem dX8_byDamp_76 : decode cX8_byDamp 76 = .ok (.goto (-34), 3) := by decide +kernel
theorem dX8_byDamp_79 : decode cX8_byDamp 79 = .ok (.iload 4, 2) := by decide +kernel
theorem dX8_byDamp_81 : decode cX8_byDamp 81 = .ok (.ireturn, 1) := by decide +kernel
theorem dX8_burstsByDamps_0 : decode cX8_burstsByDamps 0 = .ok (.aload_n 0, 1) := by decide +kernel
theorem dX8_burstsByDamps_1 : decode cX8_burstsByDamps 1 = .ok (.getfield 37, 3) := by decide +kernel
theorem dX8_burstsByDamps_4 : decode cX8_burstsByDamps 4 = .ok (.aload_n 0, 1) := by decide +kernel
theorem dX8_burstsByDamps_5 : decode cX8_burstsByDamps 5 = .ok (.getfield 33, 3) := by decide +kernel
theorem dX8_burstsByDamps_8 : decode cX8_burstsByDamps 8 = .ok (.invokevirtual 274, 3) := by decide +kernel
theorem dX8_burstsByDamps_11 : decode cX8_burstsByDamps 11 = .ok (.iconst 0, 1) := by decide +kernel
theorem dX8_burstsByDamps_12 : decode cX8_burstsByDamps 12 = .ok (.istore 4, 2) := by decide +kernel
theorem dX8_burstsByDamps_14 : decode cX8_burstsByDamps 14 = .ok (.iload 4, 2) := by decide +kernel
theorem dX8_burstsByDamps_16 : decode cX8_burstsByDamps 16 = .ok (.iload_n 2, 1) := by decide +kernel
theorem dX8_burstsByDamps_17 : decode cX8_burstsByDamps 17 = .ok (.if_icmp .ge 37, 3) := by decide +kernel
theorem dX8_burstsByDamps_20 : decode cX8_burstsByDamps 20 = .ok (.aload_n 0, 1) := by decide +kernel
theorem dX8_burstsByDamps_21 : decode cX8_burstsByDamps 21 = .ok (.getfield 23, 3) := by decide +kernel
theorem dX8_burstsByDamps_24 : decode cX8_burstsByDamps 24 = .ok (.aload_n 0, 1) := by decide +kernel
theorem dX8_burstsByDamps_25 : decode cX8_burstsByDamps 25 = .ok (.getfield 37, 3) := by decide +kernel
theorem dX8_burstsByDamps_28 : decode cX8_burstsByDamps 28 = .ok (.iload_n 1, 1) := by decide +kernel
theorem dX8_burstsByDamps_29 : decode cX8_burstsByDamps 29 = .ok (.iload_n 3, 1) := by decide +kernel
theorem dX8_burstsByDamps_30 : decode cX8_burstsByDamps 30 = .ok (.iload 4, 2) := by decide +kernel
theorem dX8_burstsByDamps_32 : decode cX8_burstsByDamps 32 = .ok (.ishr, 1) := by decide +kernel
theorem dX8_burstsByDamps_33 : decode cX8_burstsByDamps 33 = .ok (.iconst 1, 1) := by decide +kernel
theorem dX8_burstsByDamps_34 : decode cX8_burstsByDamps 34 = .ok (.iand, 1) := by decide +kernel
theorem dX8_burstsByDamps_35 : decode cX8_burstsByDamps 35 = .ok (.iconst 1, 1) := by decide +kernel
theorem dX8_burstsByDamps_36 : decode cX8_burstsByDamps 36 = .ok (.if_icmp .ne 8, 3) := by decide +kernel
theorem dX8_burstsByDamps_39 : decode cX8_burstsByDamps 39 = .ok (.bipush 9, 2) := by decide +kernel
theorem dX8_burstsByDamps_41 : decode cX8_burstsByDamps 41 = .ok (.goto 4, 3) := by decide +kernel
theorem dX8_burstsByDamps_44 : decode cX8_burstsByDamps 44 = .ok (.iconst 0, 1) := by decide +kernel
theorem dX8_burstsByDamps_45 : decode cX8_burstsByDamps 45 = .ok (.invokevirtual 290, 3) := by decide +kernel
theorem dX8_burstsByDamps_48 : decode cX8_burstsByDamps 48 = .ok (.iinc 4 1, 3) := by decide +kernel
theorem dX8_burstsByDamps_51 : decode cX8_burstsByDamps 51 = .ok (.goto (-37), 3) := by decide +kernel
theorem dX8_burstsByDamps_54 : decode cX8_burstsByDamps 54 = .ok (.aload_n 0, 1) := by decide +kernel
theorem dX8_burstsByDamps_55 : decode cX8_burstsByDamps 55 = .ok (.getfield 37, 3) := by decide +kernel
theorem dX8_burstsByDamps_58 : decode cX8_burstsByDamps 58 = .ok (.iload_n 1, 1) := by decide +kernel
theorem dX8_burstsByDamps_59 : decode cX8_burstsByDamps 59 = .ok (.invokevirtual 200, 3) := by decide +kernel
theorem dX8_burstsByDamps_62 : decode cX8_burstsByDamps 62 = .ok (.ireturn, 1) := by decide +kernel
theorem dX8_weight_0 : decode cX8_weight 0 = .ok (.iconst 1, 1) := by decide +kernel
theorem dX8_weight_1 : decode cX8_weight 1 = .ok (.istore_n 3, 1) := by decide +kernel
theorem dX8_weight_2 : decode cX8_weight 2 = .ok (.iconst 0, 1) := by decide +kernel
theorem dX8_weight_3 : decode cX8_weight 3 = .ok (.istore 4, 2) := by decide +kernel
theorem dX8_weight_5 : decode cX8_weight 5 = .ok (.iload 4, 2) := by decide +kernel
theorem dX8_weight_7 : decode cX8_weight 7 = .ok (.iload_n 0, 1) := by decide +kernel
theorem dX8_weight_8 : decode cX8_weight 8 = .ok (.if_icmp .ge 30, 3) := by decide +kernel
theorem dX8_weight_11 : decode cX8_weight 11 = .ok (.iload_n 3, 1) := by decide +kernel
theorem dX8_weight_12 : decode cX8_weight 12 = .ok (.iload_n 1, 1) := by decide +kernel
theorem dX8_weight_13 : decode cX8_weight 13 = .ok (.iload 4, 2) := by decide +kernel
theorem dX8_weight_15 : decode cX8_weight 15 = .ok (.ishr, 1) := by decide +kernel
theorem dX8_weight_16 : decode cX8_weight 16 = .ok (.iconst 1, 1) := by decide +kernel
theorem dX8_weight_17 : decode cX8_weight 17 = .ok (.iand, 1) := by decide +kernel
theorem dX8_weight_18 : decode cX8_weight 18 = .ok (.iconst 1, 1) := by decide +kernel
theorem dX8_weight_19 : decode cX8_weight 19 = .ok (.if_icmp .ne 7, 3) := by decide +kernel
theorem dX8_weight_22 : decode cX8_weight 22 = .ok (.iload_n 2, 1) := by decide +kernel
theorem dX8_weight_23 : decode cX8_weight 23 = .ok (.goto 7, 3) := by decide +kernel
theorem dX8_weight_26 : decode cX8_weight 26 = .ok (.bipush 10, 2) := by decide +kernel
theorem dX8_weight_28 : decode cX8_weight 28 = .ok (.iload_n 2, 1) := by decide +kernel
theorem dX8_weight_29 : decode cX8_weight 29 = .ok (.isub, 1) := by decide +kernel
theorem dX8_weight_30 : decode cX8_weight 30 = .ok (.imul, 1) := by decide +kernel
theorem dX8_weight_31 : decode cX8_weight 31 = .ok (.istore_n 3, 1) := by decide +kernel
theorem dX8_weight_32 : decode cX8_weight 32 = .ok (.iinc 4 1, 3) := by decide +kernel
theorem dX8_weight_35 : decode cX8_weight 35 = .ok (.goto (-30), 3) := by decide +kernel
theorem dX8_weight_38 : decode cX8_weight 38 = .ok (.iload_n 3, 1) := by decide +kernel
theorem dX8_weight_39 : decode cX8_weight 39 = .ok (.ireturn, 1) := by decide +kernel
theorem dX8_game_0 : decode cX8_game 0 = .ok (.aload_n 0, 1) := by decide +kernel
theorem dX8_game_1 : decode cX8_game 1 = .ok (.iload_n 1, 1) := by decide +kernel
theorem dX8_game_2 : decode cX8_game 2 = .ok (.invokevirtual 223, 3) := by decide +kernel
theorem dX8_game_5 : decode cX8_game 5 = .ok (.aload_n 0, 1) := by decide +kernel
theorem dX8_game_6 : decode cX8_game 6 = .ok (.iload_n 2, 1) := by decide +kernel
theorem dX8_game_7 : decode cX8_game 7 = .ok (.invokevirtual 223, 3) := by decide +kernel
theorem dX8_game_10 : decode cX8_game 10 = .ok (.aload_n 0, 1) := by decide +kernel
theorem dX8_game_11 : decode cX8_game 11 = .ok (.iload_n 3, 1) := by decide +kernel
theorem dX8_game_12 : decode cX8_game 12 = .ok (.invokevirtual 186, 3) := by decide +kernel
theorem dX8_game_15 : decode cX8_game 15 = .ok (.iload 4, 2) := by decide +kernel
theorem dX8_game_17 : decode cX8_game 17 = .ok (.iconst 1, 1) := by decide +kernel
theorem dX8_game_18 : decode cX8_game 18 = .ok (.invokestatic 277, 3) := by decide +kernel
theorem dX8_game_21 : decode cX8_game 21 = .ok (.iload_n 1, 1) := by decide +kernel
theorem dX8_game_22 : decode cX8_game 22 = .ok (.iload_n 2, 1) := by decide +kernel
theorem dX8_game_23 : decode cX8_game 23 = .ok (.if_icmp .ne 14, 3) := by decide +kernel
theorem dX8_game_26 : decode cX8_game 26 = .ok (.new 97, 3) := by decide +kernel
theorem dX8_game_29 : decode cX8_game 29 = .ok (.dup, 1) := by decide +kernel
theorem dX8_game_30 : decode cX8_game 30 = .ok (.ldc_w 362, 3) := by decide +kernel
theorem dX8_game_33 : decode cX8_game 33 = .ok (.invokespecial 101, 3) := by decide +kernel
theorem dX8_game_36 : decode cX8_game 36 = .ok (.athrow, 1) := by decide +kernel
theorem dX8_game_37 : decode cX8_game 37 = .ok (.iconst 0, 1) := by decide +kernel
theorem dX8_game_38 : decode cX8_game 38 = .ok (.istore 5, 2) := by decide +kernel
theorem dX8_game_40 : decode cX8_game 40 = .ok (.iconst (-1), 1) := by decide +kernel
theorem dX8_game_41 : decode cX8_game 41 = .ok (.istore 6, 2) := by decide +kernel
theorem dX8_game_43 : decode cX8_game 43 = .ok (.iconst 0, 1) := by decide +kernel
theorem dX8_game_44 : decode cX8_game 44 = .ok (.istore 7, 2) := by decide +kernel
theorem dX8_game_46 : decode cX8_game 46 = .ok (.iload 7, 2) := by decide +kernel
theorem dX8_game_48 : decode cX8_game 48 = .ok (.iconst 4, 1) := by decide +kernel
theorem dX8_game_49 : decode cX8_game 49 = .ok (.if_icmp .ge 103, 3) := by decide +kernel
theorem dX8_game_52 : decode cX8_game 52 = .ok (.iload 7, 2) := by decide +kernel
theorem dX8_game_54 : decode cX8_game 54 = .ok (.iconst 2, 1) := by decide +kernel
theorem dX8_game_55 : decode cX8_game 55 = .ok (.if_icmp .lt 7, 3) := by decide +kernel
theorem dX8_game_58 : decode cX8_game 58 = .ok (.iconst 1, 1) := by decide +kernel
theorem dX8_game_59 : decode cX8_game 59 = .ok (.goto 4, 3) := by decide +kernel
theorem dX8_game_62 : decode cX8_game 62 = .ok (.iconst 0, 1) := by decide +kernel
theorem dX8_game_63 : decode cX8_game 63 = .ok (.istore 8, 2) := by decide +kernel
theorem dX8_game_65 : decode cX8_game 65 = .ok (.iload 7, 2) := by decide +kernel
theorem dX8_game_67 : decode cX8_game 67 = .ok (.iconst 2, 1) := by decide +kernel
theorem dX8_game_68 : decode cX8_game 68 = .ok (.irem, 1) := by decide +kernel
theorem dX8_game_69 : decode cX8_game 69 = .ok (.iconst 1, 1) := by decide +kernel
theorem dX8_game_70 : decode cX8_game 70 = .ok (.if_icmp .ne 7, 3) := by decide +kernel
theorem dX8_game_73 : decode cX8_game 73 = .ok (.iconst 1, 1) := by decide +kernel
theorem dX8_game_74 : decode cX8_game 74 = .ok (.goto 4, 3) := by decide +kernel
theorem dX8_game_77 : decode cX8_game 77 = .ok (.iconst 0, 1) := by decide +kernel
theorem dX8_game_78 : decode cX8_game 78 = .ok (.istore 9, 2) := by decide +kernel
theorem dX8_game_80 : decode cX8_game 80 = .ok (.aload_n 0, 1) := by decide +kernel
theorem dX8_game_81 : decode cX8_game 81 = .ok (.iload_n 1, 1) := by decide +kernel
theorem dX8_game_82 : decode cX8_game 82 = .ok (.iload 8, 2) := by decide +kernel
theorem dX8_game_84 : decode cX8_game 84 = .ok (.iload_n 2, 1) := by decide +kernel
theorem dX8_game_85 : decode cX8_game 85 = .ok (.iload 9, 2) := by decide +kernel
theorem dX8_game_87 : decode cX8_game 87 = .ok (.iload_n 3, 1) := by decide +kernel
theorem dX8_game_88 : decode cX8_game 88 = .ok (.invokevirtual 364, 3) := by decide +kernel
theorem dX8_game_91 : decode cX8_game 91 = .ok (.ifCond .eq 55, 3) := by decide +kernel
theorem dX8_game_94 : decode cX8_game 94 = .ok (.aload_n 0, 1) := by decide +kernel
theorem dX8_game_95 : decode cX8_game 95 = .ok (.iload_n 2, 1) := by decide +kernel
theorem dX8_game_96 : decode cX8_game 96 = .ok (.iload 9, 2) := by decide +kernel
theorem dX8_game_98 : decode cX8_game 98 = .ok (.iload_n 1, 1) := by decide +kernel
theorem dX8_game_99 : decode cX8_game 99 = .ok (.iload 8, 2) := by decide +kernel
theorem dX8_game_101 : decode cX8_game 101 = .ok (.iload_n 3, 1) := by decide +kernel
theorem dX8_game_102 : decode cX8_game 102 = .ok (.invokevirtual 364, 3) := by decide +kernel
theorem dX8_game_105 : decode cX8_game 105 = .ok (.ifCond .eq 41, 3) := by decide +kernel
theorem dX8_game_108 : decode cX8_game 108 = .ok (.iinc 5 1, 3) := by decide +kernel
theorem dX8_game_111 : decode cX8_game 111 = .ok (.iload 6, 2) := by decide +kernel
theorem dX8_game_113 : decode cX8_game 113 = .ok (.iconst (-1), 1) := by decide +kernel
theorem dX8_game_114 : decode cX8_game 114 = .ok (.if_icmp .ne 28, 3) := by decide +kernel
theorem dX8_game_117 : decode cX8_game 117 = .ok (.iload 8, 2) := by decide +kernel
theorem dX8_game_119 : decode cX8_game 119 = .ok (.ifCond .eq 8, 3) := by decide +kernel
theorem dX8_game_122 : decode cX8_game 122 = .ok (.bipush 10, 2) := by decide +kernel
theorem dX8_game_124 : decode cX8_game 124 = .ok (.goto 4, 3) := by decide +kernel
theorem dX8_game_127 : decode cX8_game 127 = .ok (.iconst 0, 1) := by decide +kernel
theorem dX8_game_128 : decode cX8_game 128 = .ok (.iload 9, 2) := by decide +kernel
theorem dX8_game_130 : decode cX8_game 130 = .ok (.ifCond .eq 7, 3) := by decide +kernel
theorem dX8_game_133 : decode cX8_game 133 = .ok (.iconst 1, 1) := by decide +kernel
theorem dX8_game_134 : decode cX8_game 134 = .ok (.goto 4, 3) := by decide +kernel
theorem dX8_game_137 : decode cX8_game 137 = .ok (.iconst 0, 1) := by decide +kernel
theorem dX8_game_138 : decode cX8_game 138 = .ok (.iadd, 1) := by decide +kernel
theorem dX8_game_139 : decode cX8_game 139 = .ok (.goto 5, 3) := by decide +kernel
theorem dX8_game_142 : decode cX8_game 142 = .ok (.iload 6, 2) := by decide +kernel
theorem dX8_game_144 : decode cX8_game 144 = .ok (.istore 6, 2) := by decide +kernel
theorem dX8_game_146 : decode cX8_game 146 = .ok (.iinc 7 1, 3) := by decide +kernel
theorem dX8_game_149 : decode cX8_game 149 = .ok (.goto (-103), 3) := by decide +kernel
theorem dX8_game_152 : decode cX8_game 152 = .ok (.iload 4, 2) := by decide +kernel
theorem dX8_game_154 : decode cX8_game 154 = .ok (.ifCond .ne 8, 3) := by decide +kernel
theorem dX8_game_157 : decode cX8_game 157 = .ok (.iload 5, 2) := by decide +kernel
theorem dX8_game_159 : decode cX8_game 159 = .ok (.goto 5, 3) := by decide +kernel
theorem dX8_game_162 : decode cX8_game 162 = .ok (.iload 6, 2) := by decide +kernel
theorem dX8_game_164 : decode cX8_game 164 = .ok (.ireturn, 1) := by decide +kernel
theorem dX8_stays_0 : decode cX8_stays 0 = .ok (.aload_n 0, 1) := by decide +kernel
theorem dX8_stays_1 : decode cX8_stays 1 = .ok (.iload_n 1, 1) := by decide +kernel
theorem dX8_stays_2 : decode cX8_stays 2 = .ok (.iload_n 2, 1) := by decide +kernel
theorem dX8_stays_3 : decode cX8_stays 3 = .ok (.iload_n 3, 1) := by decide +kernel
theorem dX8_stays_4 : decode cX8_stays 4 = .ok (.iload 4, 2) := by decide +kernel
theorem dX8_stays_6 : decode cX8_stays 6 = .ok (.iload 5, 2) := by decide +kernel
theorem dX8_stays_8 : decode cX8_stays 8 = .ok (.invokevirtual 368, 3) := by decide +kernel
theorem dX8_stays_11 : decode cX8_stays 11 = .ok (.istore 6, 2) := by decide +kernel
theorem dX8_stays_13 : decode cX8_stays 13 = .ok (.aload_n 0, 1) := by decide +kernel
theorem dX8_stays_14 : decode cX8_stays 14 = .ok (.iload_n 1, 1) := by decide +kernel
theorem dX8_stays_15 : decode cX8_stays 15 = .ok (.iload_n 2, 1) := by decide +kernel
theorem dX8_stays_16 : decode cX8_stays 16 = .ok (.ifCond .ne 7, 3) := by decide +kernel
theorem dX8_stays_19 : decode cX8_stays 19 = .ok (.iconst 1, 1) := by decide +kernel
theorem dX8_stays_20 : decode cX8_stays 20 = .ok (.goto 4, 3) := by decide +kernel
theorem dX8_stays_23 : decode cX8_stays 23 = .ok (.iconst 0, 1) := by decide +kernel
theorem dX8_stays_24 : decode cX8_stays 24 = .ok (.iload_n 3, 1) := by decide +kernel
theorem dX8_stays_25 : decode cX8_stays 25 = .ok (.iload 4, 2) := by decide +kernel
theorem dX8_stays_27 : decode cX8_stays 27 = .ok (.iload 5, 2) := by decide +kernel
theorem dX8_stays_29 : decode cX8_stays 29 = .ok (.invokevirtual 368, 3) := by decide +kernel
theorem dX8_stays_32 : decode cX8_stays 32 = .ok (.iload 6, 2) := by decide +kernel
theorem dX8_stays_34 : decode cX8_stays 34 = .ok (.if_icmp .gt 7, 3) := by decide +kernel
theorem dX8_stays_37 : decode cX8_stays 37 = .ok (.iconst 1, 1) := by decide +kernel
theorem dX8_stays_38 : decode cX8_stays 38 = .ok (.goto 4, 3) := by decide +kernel
theorem dX8_stays_41 : decode cX8_stays 41 = .ok (.iconst 0, 1) := by decide +kernel
theorem dX8_stays_42 : decode cX8_stays 42 = .ok (.ireturn, 1) := by decide +kernel
theorem dX8_gain_0 : decode cX8_gain 0 = .ok (.iload_n 2, 1) := by decide +kernel
theorem dX8_gain_1 : decode cX8_gain 1 = .ok (.ifCond .ne 5, 3) := by decide +kernel
theorem dX8_gain_4 : decode cX8_gain 4 = .ok (.iconst 2, 1) := by decide +kernel
theorem dX8_gain_5 : decode cX8_gain 5 = .ok (.ireturn, 1) := by decide +kernel
theorem dX8_gain_6 : decode cX8_gain 6 = .ok (.iload 4, 2) := by decide +kernel
theorem dX8_gain_8 : decode cX8_gain 8 = .ok (.ifCond .eq 17, 3) := by decide +kernel
theorem dX8_gain_11 : decode cX8_gain 11 = .ok (.aload_n 0, 1) := by decide +kernel
theorem dX8_gain_12 : decode cX8_gain 12 = .ok (.iload_n 1, 1) := by decide +kernel
theorem dX8_gain_13 : decode cX8_gain 13 = .ok (.iload_n 3, 1) := by decide +kernel
theorem dX8_gain_14 : decode cX8_gain 14 = .ok (.iload 5, 2) := by decide +kernel
theorem dX8_gain_16 : decode cX8_gain 16 = .ok (.invokevirtual 372, 3) := by decide +kernel
theorem dX8_gain_19 : decode cX8_gain 19 = .ok (.ifCond .ne 6, 3) := by decide +kernel
theorem dX8_gain_22 : decode cX8_gain 22 = .ok (.bipush (-5), 2) := by decide +kernel
theorem dX8_gain_24 : decode cX8_gain 24 = .ok (.ireturn, 1) := by decide +kernel
theorem dX8_gain_25 : decode cX8_gain 25 = .ok (.aload_n 0, 1) := by decide +kernel
theorem dX8_gain_26 : decode cX8_gain 26 = .ok (.iload_n 1, 1) := by decide +kernel
theorem dX8_gain_27 : decode cX8_gain 27 = .ok (.iload 5, 2) := by decide +kernel
theorem dX8_gain_29 : decode cX8_gain 29 = .ok (.invokevirtual 249, 3) := by decide +kernel
theorem dX8_gain_32 : decode cX8_gain 32 = .ok (.ifCond .eq 21, 3) := by decide +kernel
theorem dX8_gain_35 : decode cX8_gain 35 = .ok (.bipush 20, 2) := by decide +kernel
theorem dX8_gain_37 : decode cX8_gain 37 = .ok (.iconst 2, 1) := by decide +kernel
theorem dX8_gain_38 : decode cX8_gain 38 = .ok (.aload_n 0, 1) := by decide +kernel
theorem dX8_gain_39 : decode cX8_gain 39 = .ok (.getfield 33, 3) := by decide +kernel
theorem dX8_gain_42 : decode cX8_gain 42 = .ok (.iload_n 1, 1) := by decide +kernel
theorem dX8_gain_43 : decode cX8_gain 43 = .ok (.iload 5, 2) := by decide +kernel
theorem dX8_gain_45 : decode cX8_gain 45 = .ok (.invokevirtual 172, 3) := by decide +kernel
theorem dX8_gain_48 : decode cX8_gain 48 = .ok (.imul, 1) := by decide +kernel
theorem dX8_gain_49 : decode cX8_gain 49 = .ok (.isub, 1) := by decide +kernel
theorem dX8_gain_50 : decode cX8_gain 50 = .ok (.goto 5, 3) := by decide +kernel
theorem dX8_gain_53 : decode cX8_gain 53 = .ok (.bipush (-3), 2) := by decide +kernel
theorem dX8_gain_55 : decode cX8_gain 55 = .ok (.ireturn, 1) := by decide +kernel
theorem dX8_comesFirst_0 : decode cX8_comesFirst 0 = .ok (.aload_n 0, 1) := by decide +kernel
theorem dX8_comesFirst_1 : decode cX8_comesFirst 1 = .ok (.getfield 33, 3) := by decide +kernel
theorem dX8_comesFirst_4 : decode cX8_comesFirst 4 = .ok (.iload_n 1, 1) := by decide +kernel
theorem dX8_comesFirst_5 : decode cX8_comesFirst 5 = .ok (.iload_n 3, 1) := by decide +kernel
theorem dX8_comesFirst_6 : decode cX8_comesFirst 6 = .ok (.invokevirtual 172, 3) := by decide +kernel
theorem dX8_comesFirst_9 : decode cX8_comesFirst 9 = .ok (.istore 4, 2) := by decide +kernel
theorem dX8_comesFirst_11 : decode cX8_comesFirst 11 = .ok (.aload_n 0, 1) := by decide +kernel
theorem dX8_comesFirst_12 : decode cX8_comesFirst 12 = .ok (.getfield 33, 3) := by decide +kernel
theorem dX8_comesFirst_15 : decode cX8_comesFirst 15 = .ok (.iload_n 2, 1) := by decide +kernel
theorem dX8_comesFirst_16 : decode cX8_comesFirst 16 = .ok (.iload_n 3, 1) := by decide +kernel
theorem dX8_comesFirst_17 : decode cX8_comesFirst 17 = .ok (.invokevirtual 172, 3) := by decide +kernel
theorem dX8_comesFirst_20 : decode cX8_comesFirst 20 = .ok (.istore 5, 2) := by decide +kernel
theorem dX8_comesFirst_22 : decode cX8_comesFirst 22 = .ok (.iload 4, 2) := by decide +kernel
theorem dX8_comesFirst_24 : decode cX8_comesFirst 24 = .ok (.iload 5, 2) := by decide +kernel
theorem dX8_comesFirst_26 : decode cX8_comesFirst 26 = .ok (.if_icmp .lt 15, 3) := by decide +kernel
theorem dX8_comesFirst_29 : decode cX8_comesFirst 29 = .ok (.iload 4, 2) := by decide +kernel
theorem dX8_comesFirst_31 : decode cX8_comesFirst 31 = .ok (.iload 5, 2) := by decide +kernel
theorem dX8_comesFirst_33 : decode cX8_comesFirst 33 = .ok (.if_icmp .ne 12, 3) := by decide +kernel
theorem dX8_comesFirst_36 : decode cX8_comesFirst 36 = .ok (.iload_n 1, 1) := by decide +kernel
theorem dX8_comesFirst_37 : decode cX8_comesFirst 37 = .ok (.iload_n 2, 1) := by decide +kernel
theorem dX8_comesFirst_38 : decode cX8_comesFirst 38 = .ok (.if_icmp .ge 7, 3) := by decide +kernel
theorem dX8_comesFirst_41 : decode cX8_comesFirst 41 = .ok (.iconst 1, 1) := by decide +kernel
theorem dX8_comesFirst_42 : decode cX8_comesFirst 42 = .ok (.goto 4, 3) := by decide +kernel
theorem dX8_comesFirst_45 : decode cX8_comesFirst 45 = .ok (.iconst 0, 1) := by decide +kernel
theorem dX8_comesFirst_46 : decode cX8_comesFirst 46 = .ok (.ireturn, 1) := by decide +kernel
theorem dX8_years_0 : decode cX8_years 0 = .ok (.iload_n 3, 1) := by decide +kernel
theorem dX8_years_1 : decode cX8_years 1 = .ok (.iconst 2, 1) := by decide +kernel
theorem dX8_years_2 : decode cX8_years 2 = .ok (.invokestatic 277, 3) := by decide +kernel
theorem dX8_years_5 : decode cX8_years 5 = .ok (.iload_n 2, 1) := by decide +kernel
theorem dX8_years_6 : decode cX8_years 6 = .ok (.iconst 0, 1) := by decide +kernel
theorem dX8_years_7 : decode cX8_years 7 = .ok (.invokestatic 280, 3) := by decide +kernel
theorem dX8_years_10 : decode cX8_years 10 = .ok (.aload_n 0, 1) := by decide +kernel
theorem dX8_years_11 : decode cX8_years 11 = .ok (.getfield 37, 3) := by decide +kernel
theorem dX8_years_14 : decode cX8_years 14 = .ok (.aload_n 0, 1) := by decide +kernel
theorem dX8_years_15 : decode cX8_years 15 = .ok (.getfield 33, 3) := by decide +kernel
theorem dX8_years_18 : decode cX8_years 18 = .ok (.invokevirtual 274, 3) := by decide +kernel
theorem dX8_years_21 : decode cX8_years 21 = .ok (.iload_n 1, 1) := by decide +kernel
theorem dX8_years_22 : decode cX8_years 22 = .ok (.istore 4, 2) := by decide +kernel
theorem dX8_years_24 : decode cX8_years 24 = .ok (.iconst 0, 1) := by decide +kernel
theorem dX8_years_25 : decode cX8_years 25 = .ok (.istore 5, 2) := by decide +kernel
theorem dX8_years_27 : decode cX8_years 27 = .ok (.iload 5, 2) := by decide +kernel
theorem dX8_years_29 : decode cX8_years 29 = .ok (.iload_n 2, 1) := by decide +kernel
theorem dX8_years_30 : decode cX8_years 30 = .ok (.if_icmp .ge 106, 3) := by decide +kernel
theorem dX8_years_33 : decode cX8_years 33 = .ok (.iload 4, 2) := by decide +kernel
theorem dX8_years_35 : decode cX8_years 35 = .ok (.invokestatic 375, 3) := by decide +kernel
theorem dX8_years_38 : decode cX8_years 38 = .ok (.istore 4, 2) := by decide +kernel
theorem dX8_years_40 : decode cX8_years 40 = .ok (.iload 4, 2) := by decide +kernel
theorem dX8_years_42 : decode cX8_years 42 = .ok (.bipush 10, 2) := by decide +kernel
theorem dX8_years_44 : decode cX8_years 44 = .ok (.invokestatic 378, 3) := by decide +kernel
theorem dX8_years_47 : decode cX8_years 47 = .ok (.istore 6, 2) := by decide +kernel
theorem dX8_years_49 : decode cX8_years 49 = .ok (.aload_n 0, 1) := by decide +kernel
theorem dX8_years_50 : decode cX8_years 50 = .ok (.getfield 23, 3) := by decide +kernel
theorem dX8_years_53 : decode cX8_years 53 = .ok (.getfield 122, 3) := by decide +kernel
theorem dX8_years_56 : decode cX8_years 56 = .ok (.ifCond .le 61, 3) := by decide +kernel
theorem dX8_years_59 : decode cX8_years 59 = .ok (.aload_n 0, 1) := by decide +kernel
theorem dX8_years_60 : decode cX8_years 60 = .ok (.getfield 23, 3) := by decide +kernel
theorem dX8_years_63 : decode cX8_years 63 = .ok (.getfield 119, 3) := by decide +kernel
theorem dX8_years_66 : decode cX8_years 66 = .ok (.ifCond .le 51, 3) := by decide +kernel
theorem dX8_years_69 : decode cX8_years 69 = .ok (.iload 4, 2) := by decide +kernel
theorem dX8_years_71 : decode cX8_years 71 = .ok (.invokestatic 375, 3) := by decide +kernel
theorem dX8_years_74 : decode cX8_years 74 = .ok (.istore 4, 2) := by decide +kernel
theorem dX8_years_76 : decode cX8_years 76 = .ok (.iload 4, 2) := by decide +kernel
theorem dX8_years_78 : decode cX8_years 78 = .ok (.aload_n 0, 1) := by decide +kernel
theorem dX8_years_79 : decode cX8_years 79 = .ok (.getfield 23, 3) := by decide +kernel
theorem dX8_years_82 : decode cX8_years 82 = .ok (.getfield 122, 3) := by decide +kernel
theorem dX8_years_85 : decode cX8_years 85 = .ok (.invokestatic 378, 3) := by decide +kernel
theorem dX8_years_88 : decode cX8_years 88 = .ok (.istore 7, 2) := by decide +kernel
theorem dX8_years_90 : decode cX8_years 90 = .ok (.iload 4, 2) := by decide +kernel
theorem dX8_years_92 : decode cX8_years 92 = .ok (.invokestatic 375, 3) := by decide +kernel
theorem dX8_years_95 : decode cX8_years 95 = .ok (.istore 4, 2) := by decide +kernel
theorem dX8_years_97 : decode cX8_years 97 = .ok (.aload_n 0, 1) := by decide +kernel
theorem dX8_years_98 : decode cX8_years 98 = .ok (.iload 7, 2) := by decide +kernel
theorem dX8_years_100 : decode cX8_years 100 = .ok (.iload 4, 2) := by decide +kernel
theorem dX8_years_102 : decode cX8_years 102 = .ok (.aload_n 0, 1) := by decide +kernel
theorem dX8_years_103 : decode cX8_years 103 = .ok (.getfield 23, 3) := by decide +kernel
theorem dX8_years_106 : decode cX8_years 106 = .ok (.getfield 119, 3) := by decide +kernel
theorem dX8_years_109 : decode cX8_years 109 = .ok (.invokestatic 378, 3) := by decide +kernel
theorem dX8_years_112 : decode cX8_years 112 = .ok (.iload 6, 2) := by decide +kernel
theorem dX8_years_114 : decode cX8_years 114 = .ok (.invokevirtual 381, 3) := by decide +kernel
theorem dX8_years_117 : decode cX8_years 117 = .ok (.aload_n 0, 1) := by decide +kernel
theorem dX8_years_118 : decode cX8_years 118 = .ok (.getfield 23, 3) := by decide +kernel
theorem dX8_years_121 : decode cX8_years 121 = .ok (.aload_n 0, 1) := by decide +kernel
theorem dX8_years_122 : decode cX8_years 122 = .ok (.getfield 37, 3) := by decide +kernel
theorem dX8_years_125 : decode cX8_years 125 = .ok (.iload 6, 2) := by decide +kernel
theorem dX8_years_127 : decode cX8_years 127 = .ok (.invokevirtual 273, 3) := by decide +kernel
theorem dX8_years_130 : decode cX8_years 130 = .ok (.iinc 5 1, 3) := by decide +kernel
theorem dX8_years_133 : decode cX8_years 133 = .ok (.goto (-106), 3) := by decide +kernel
theorem dX8_years_136 : decode cX8_years 136 = .ok (.iload_n 3, 1) := by decide +kernel
theorem dX8_years_137 : decode cX8_years 137 = .ok (.lookupswitch 47 #[(0, 27), (1, 38)], 27) := by decide +kernel
theorem dX8_years_164 : decode cX8_years 164 = .ok (.aload_n 0, 1) := by decide +kernel
theorem dX8_years_165 : decode cX8_years 165 = .ok (.getfield 37, 3) := by decide +kernel
theorem dX8_years_168 : decode cX8_years 168 = .ok (.getfield 132, 3) := by decide +kernel
theorem dX8_years_171 : decode cX8_years 171 = .ok (.invokestatic 384, 3) := by decide +kernel
theorem dX8_years_174 : decode cX8_years 174 = .ok (.ireturn, 1) := by decide +kernel
theorem dX8_years_175 : decode cX8_years 175 = .ok (.aload_n 0, 1) := by decide +kernel
theorem dX8_years_176 : decode cX8_years 176 = .ok (.aload_n 0, 1) := by decide +kernel
theorem dX8_years_177 : decode cX8_years 177 = .ok (.getfield 37, 3) := by decide +kernel
theorem dX8_years_180 : decode cX8_years 180 = .ok (.invokevirtual 141, 3) := by decide +kernel
theorem dX8_years_183 : decode cX8_years 183 = .ok (.ireturn, 1) := by decide +kernel
theorem dX8_years_184 : decode cX8_years 184 = .ok (.aload_n 0, 1) := by decide +kernel
theorem dX8_years_185 : decode cX8_years 185 = .ok (.aload_n 0, 1) := by decide +kernel
theorem dX8_years_186 : decode cX8_years 186 = .ok (.getfield 37, 3) := by decide +kernel
theorem dX8_years_189 : decode cX8_years 189 = .ok (.invokevirtual 138, 3) := by decide +kernel
theorem dX8_years_192 : decode cX8_years 192 = .ok (.invokestatic 384, 3) := by decide +kernel
theorem dX8_years_195 : decode cX8_years 195 = .ok (.ireturn, 1) := by decide +kernel
theorem dX8_tryIn_0 : decode cX8_tryIn 0 = .ok (.aload_n 0, 1) := by decide +kernel
theorem dX8_tryIn_1 : decode cX8_tryIn 1 = .ok (.getfield 37, 3) := by decide +kernel
theorem dX8_tryIn_4 : decode cX8_tryIn 4 = .ok (.getfield 162, 3) := by decide +kernel
theorem dX8_tryIn_7 : decode cX8_tryIn 7 = .ok (.iload_n 1, 1) := by decide +kernel
theorem dX8_tryIn_8 : decode cX8_tryIn 8 = .ok (.iaload, 1) := by decide +kernel
theorem dX8_tryIn_9 : decode cX8_tryIn 9 = .ok (.iconst (-1), 1) := by decide +kernel
theorem dX8_tryIn_10 : decode cX8_tryIn 10 = .ok (.if_icmp .ne 20, 3) := by decide +kernel
theorem dX8_tryIn_13 : decode cX8_tryIn 13 = .ok (.aload_n 0, 1) := by decide +kernel
theorem dX8_tryIn_14 : decode cX8_tryIn 14 = .ok (.getfield 37, 3) := by decide +kernel
theorem dX8_tryIn_17 : decode cX8_tryIn 17 = .ok (.getfield 159, 3) := by decide +kernel
theorem dX8_tryIn_20 : decode cX8_tryIn 20 = .ok (.iload_n 2, 1) := by decide +kernel
theorem dX8_tryIn_21 : decode cX8_tryIn 21 = .ok (.iaload, 1) := by decide +kernel
theorem dX8_tryIn_22 : decode cX8_tryIn 22 = .ok (.iconst (-1), 1) := by decide +kernel
theorem dX8_tryIn_23 : decode cX8_tryIn 23 = .ok (.if_icmp .ne 7, 3) := by decide +kernel
theorem dX8_tryIn_26 : decode cX8_tryIn 26 = .ok (.iconst 1, 1) := by decide +kernel
theorem dX8_tryIn_27 : decode cX8_tryIn 27 = .ok (.goto 4, 3) := by decide +kernel
theorem dX8_tryIn_30 : decode cX8_tryIn 30 = .ok (.iconst 0, 1) := by decide +kernel
theorem dX8_tryIn_31 : decode cX8_tryIn 31 = .ok (.istore 4, 2) := by decide +kernel
theorem dX8_tryIn_33 : decode cX8_tryIn 33 = .ok (.iload 4, 2) := by decide +kernel
theorem dX8_tryIn_35 : decode cX8_tryIn 35 = .ok (.ifCond .eq 29, 3) := by decide +kernel
theorem dX8_tryIn_38 : decode cX8_tryIn 38 = .ok (.aload_n 0, 1) := by decide +kernel
theorem dX8_tryIn_39 : decode cX8_tryIn 39 = .ok (.getfield 23, 3) := by decide +kernel
theorem dX8_tryIn_42 : decode cX8_tryIn 42 = .ok (.aload_n 0, 1) := by decide +kernel
theorem dX8_tryIn_43 : decode cX8_tryIn 43 = .ok (.getfield 37, 3) := by decide +kernel
theorem dX8_tryIn_46 : decode cX8_tryIn 46 = .ok (.iload_n 1, 1) := by decide +kernel
theorem dX8_tryIn_47 : decode cX8_tryIn 47 = .ok (.iload_n 2, 1) := by decide +kernel
theorem dX8_tryIn_48 : decode cX8_tryIn 48 = .ok (.iload_n 3, 1) := by decide +kernel
theorem dX8_tryIn_49 : decode cX8_tryIn 49 = .ok (.invokevirtual 235, 3) := by decide +kernel
theorem dX8_tryIn_52 : decode cX8_tryIn 52 = .ok (.ifCond .eq 12, 3) := by decide +kernel
theorem dX8_tryIn_55 : decode cX8_tryIn 55 = .ok (.aload_n 0, 1) := by decide +kernel
theorem dX8_tryIn_56 : decode cX8_tryIn 56 = .ok (.getfield 37, 3) := by decide +kernel
theorem dX8_tryIn_59 : decode cX8_tryIn 59 = .ok (.iload_n 1, 1) := by decide +kernel
theorem dX8_tryIn_60 : decode cX8_tryIn 60 = .ok (.iload_n 2, 1) := by decide +kernel
theorem dX8_tryIn_61 : decode cX8_tryIn 61 = .ok (.invokevirtual 253, 3) := by decide +kernel
theorem dX8_tryIn_64 : decode cX8_tryIn 64 = .ok (.return_, 1) := by decide +kernel
theorem dX8_drawAfter_0 : decode cX8_drawAfter 0 = .ok (.iload_n 0, 1) := by decide +kernel
theorem dX8_drawAfter_1 : decode cX8_drawAfter 1 = .ok (.ldc_w 388, 3) := by decide +kernel
theorem dX8_drawAfter_4 : decode cX8_drawAfter 4 = .ok (.imul, 1) := by decide +kernel
theorem dX8_drawAfter_5 : decode cX8_drawAfter 5 = .ok (.sipush 12345, 3) := by decide +kernel
theorem dX8_drawAfter_8 : decode cX8_drawAfter 8 = .ok (.iadd, 1) := by decide +kernel
theorem dX8_drawAfter_9 : decode cX8_drawAfter 9 = .ok (.ireturn, 1) := by decide +kernel
theorem dX8_draw_0 : decode cX8_draw 0 = .ok (.iload_n 1, 1) := by decide +kernel
theorem dX8_draw_1 : decode cX8_draw 1 = .ok (.ifCond .le 16, 3) := by decide +kernel
theorem dX8_draw_4 : decode cX8_draw 4 = .ok (.iload_n 0, 1) := by decide +kernel
theorem dX8_draw_5 : decode cX8_draw 5 = .ok (.bipush 16, 2) := by decide +kernel
theorem dX8_draw_7 : decode cX8_draw 7 = .ok (.iushr, 1) := by decide +kernel
theorem dX8_draw_8 : decode cX8_draw 8 = .ok (.sipush 32767, 3) := by decide +kernel
theorem dX8_draw_11 : decode cX8_draw 11 = .ok (.iand, 1) := by decide +kernel
theorem dX8_draw_12 : decode cX8_draw 12 = .ok (.iload_n 1, 1) := by decide +kernel
theorem dX8_draw_13 : decode cX8_draw 13 = .ok (.irem, 1) := by decide +kernel
theorem dX8_draw_14 : decode cX8_draw 14 = .ok (.goto 4, 3) := by decide +kernel
theorem dX8_draw_17 : decode cX8_draw 17 = .ok (.iconst 0, 1) := by decide +kernel
theorem dX8_draw_18 : decode cX8_draw 18 = .ok (.ireturn, 1) := by decide +kernel
theorem dX8_heirs_0 : decode cX8_heirs 0 = .ok (.aload_n 0, 1) := by decide +kernel
theorem dX8_heirs_1 : decode cX8_heirs 1 = .ok (.iload_n 1, 1) := by decide +kernel
theorem dX8_heirs_2 : decode cX8_heirs 2 = .ok (.invokevirtual 186, 3) := by decide +kernel
theorem dX8_heirs_5 : decode cX8_heirs 5 = .ok (.iconst 0, 1) := by decide +kernel
theorem dX8_heirs_6 : decode cX8_heirs 6 = .ok (.istore_n 2, 1) := by decide +kernel
theorem dX8_heirs_7 : decode cX8_heirs 7 = .ok (.iconst 0, 1) := by decide +kernel
theorem dX8_heirs_8 : decode cX8_heirs 8 = .ok (.istore_n 3, 1) := by decide +kernel
theorem dX8_heirs_9 : decode cX8_heirs 9 = .ok (.iload_n 3, 1) := by decide +kernel
theorem dX8_heirs_10 : decode cX8_heirs 10 = .ok (.aload_n 0, 1) := by decide +kernel
theorem dX8_heirs_11 : decode cX8_heirs 11 = .ok (.getfield 23, 3) := by decide +kernel
theorem dX8_heirs_14 : decode cX8_heirs 14 = .ok (.getfield 122, 3) := by decide +kernel
theorem dX8_heirs_17 : decode cX8_heirs 17 = .ok (.if_icmp .ge 24, 3) := by decide +kernel
theorem dX8_heirs_20 : decode cX8_heirs 20 = .ok (.aload_n 0, 1) := by decide +kernel
theorem dX8_heirs_21 : decode cX8_heirs 21 = .ok (.iload_n 3, 1) := by decide +kernel
theorem dX8_heirs_22 : decode cX8_heirs 22 = .ok (.iload_n 1, 1) := by decide +kernel
theorem dX8_heirs_23 : decode cX8_heirs 23 = .ok (.invokevirtual 249, 3) := by decide +kernel
theorem dX8_heirs_26 : decode cX8_heirs 26 = .ok (.ifCond .eq 9, 3) := by decide +kernel
theorem dX8_heirs_29 : decode cX8_heirs 29 = .ok (.iload_n 2, 1) := by decide +kernel
theorem dX8_heirs_30 : decode cX8_heirs 30 = .ok (.iconst 1, 1) := by decide +kernel
theorem dX8_heirs_31 : decode cX8_heirs 31 = .ok (.iload_n 3, 1) := by decide +kernel
theorem dX8_heirs_32 : decode cX8_heirs 32 = .ok (.ishl, 1) := by decide +kernel
theorem dX8_heirs_33 : decode cX8_heirs 33 = .ok (.ior, 1) := by decide +kernel
theorem dX8_heirs_34 : decode cX8_heirs 34 = .ok (.istore_n 2, 1) := by decide +kernel
theorem dX8_heirs_35 : decode cX8_heirs 35 = .ok (.iinc 3 1, 3) := by decide +kernel
theorem dX8_heirs_38 : decode cX8_heirs 38 = .ok (.goto (-29), 3) := by decide +kernel
theorem dX8_heirs_41 : decode cX8_heirs 41 = .ok (.iload_n 2, 1) := by decide +kernel
theorem dX8_heirs_42 : decode cX8_heirs 42 = .ok (.ireturn, 1) := by decide +kernel
theorem dX8_toGrow_0 : decode cX8_toGrow 0 = .ok (.aload_n 0, 1) := by decide +kernel
theorem dX8_toGrow_1 : decode cX8_toGrow 1 = .ok (.iload_n 1, 1) := by decide +kernel
theorem dX8_toGrow_2 : decode cX8_toGrow 2 = .ok (.invokevirtual 223, 3) := by decide +kernel
theorem dX8_toGrow_5 : decode cX8_toGrow 5 = .ok (.aload_n 0, 1) := by decide +kernel
theorem dX8_toGrow_6 : decode cX8_toGrow 6 = .ok (.iload_n 2, 1) := by decide +kernel
theorem dX8_toGrow_7 : decode cX8_toGrow 7 = .ok (.invokevirtual 186, 3) := by decide +kernel
theorem dX8_toGrow_10 : decode cX8_toGrow 10 = .ok (.aload_n 0, 1) := by decide +kernel
theorem dX8_toGrow_11 : decode cX8_toGrow 11 = .ok (.getfield 37, 3) := by decide +kernel
theorem dX8_toGrow_14 : decode cX8_toGrow 14 = .ok (.aload_n 0, 1) := by decide +kernel
theorem dX8_toGrow_15 : decode cX8_toGrow 15 = .ok (.getfield 33, 3) := by decide +kernel
theorem dX8_toGrow_18 : decode cX8_toGrow 18 = .ok (.invokevirtual 274, 3) := by decide +kernel
theorem dX8_toGrow_21 : decode cX8_toGrow 21 = .ok (.iconst 0, 1) := by decide +kernel
theorem dX8_toGrow_22 : decode cX8_toGrow 22 = .ok (.istore_n 3, 1) := by decide +kernel
theorem dX8_toGrow_23 : decode cX8_toGrow 23 = .ok (.iload_n 3, 1) := by decide +kernel
theorem dX8_toGrow_24 : decode cX8_toGrow 24 = .ok (.bipush 40, 2) := by decide +kernel
theorem dX8_toGrow_26 : decode cX8_toGrow 26 = .ok (.if_icmp .gt 44, 3) := by decide +kernel
theorem dX8_toGrow_29 : decode cX8_toGrow 29 = .ok (.aload_n 0, 1) := by decide +kernel
theorem dX8_toGrow_30 : decode cX8_toGrow 30 = .ok (.getfield 37, 3) := by decide +kernel
theorem dX8_toGrow_33 : decode cX8_toGrow 33 = .ok (.getfield 212, 3) := by decide +kernel
theorem dX8_toGrow_36 : decode cX8_toGrow 36 = .ok (.iload_n 1, 1) := by decide +kernel
theorem dX8_toGrow_37 : decode cX8_toGrow 37 = .ok (.iaload, 1) := by decide +kernel
theorem dX8_toGrow_38 : decode cX8_toGrow 38 = .ok (.aload_n 0, 1) := by decide +kernel
theorem dX8_toGrow_39 : decode cX8_toGrow 39 = .ok (.getfield 33, 3) := by decide +kernel
theorem dX8_toGrow_42 : decode cX8_toGrow 42 = .ok (.getfield 189, 3) := by decide +kernel
theorem dX8_toGrow_45 : decode cX8_toGrow 45 = .ok (.iload_n 2, 1) := by decide +kernel
theorem dX8_toGrow_46 : decode cX8_toGrow 46 = .ok (.iaload, 1) := by decide +kernel
theorem dX8_toGrow_47 : decode cX8_toGrow 47 = .ok (.if_icmp .lt 5, 3) := by decide +kernel
theorem dX8_toGrow_50 : decode cX8_toGrow 50 = .ok (.iload_n 3, 1) := by decide +kernel
theorem dX8_toGrow_51 : decode cX8_toGrow 51 = .ok (.ireturn, 1) := by decide +kernel
theorem dX8_toGrow_52 : decode cX8_toGrow 52 = .ok (.aload_n 0, 1) := by decide +kernel
theorem dX8_toGrow_53 : decode cX8_toGrow 53 = .ok (.getfield 23, 3) := by decide +kernel
theorem dX8_toGrow_56 : decode cX8_toGrow 56 = .ok (.aload_n 0, 1) := by decide +kernel
theorem dX8_toGrow_57 : decode cX8_toGrow 57 = .ok (.getfield 37, 3) := by decide +kernel
theorem dX8_toGrow_60 : decode cX8_toGrow 60 = .ok (.iload_n 1, 1) := by decide +kernel
theorem dX8_toGrow_61 : decode cX8_toGrow 61 = .ok (.invokevirtual 389, 3) := by decide +kernel
theorem dX8_toGrow_64 : decode cX8_toGrow 64 = .ok (.iinc 3 1, 3) := by decide +kernel
theorem dX8_toGrow_67 : decode cX8_toGrow 67 = .ok (.goto (-44), 3) := by decide +kernel
theorem dX8_toGrow_70 : decode cX8_toGrow 70 = .ok (.iconst (-1), 1) := by decide +kernel
theorem dX8_toGrow_71 : decode cX8_toGrow 71 = .ok (.ireturn, 1) := by decide +kernel
theorem dX8_paid_0 : decode cX8_paid 0 = .ok (.iload_n 1, 1) := by decide +kernel
theorem dX8_paid_1 : decode cX8_paid 1 = .ok (.iconst 0, 1) := by decide +kernel
theorem dX8_paid_2 : decode cX8_paid 2 = .ok (.invokestatic 280, 3) := by decide +kernel
theorem dX8_paid_5 : decode cX8_paid 5 = .ok (.aload_n 0, 1) := by decide +kernel
theorem dX8_paid_6 : decode cX8_paid 6 = .ok (.aload_n 0, 1) := by decide +kernel
theorem dX8_paid_7 : decode cX8_paid 7 = .ok (.iload_n 1, 1) := by decide +kernel
theorem dX8_paid_8 : decode cX8_paid 8 = .ok (.invokevirtual 283, 3) := by decide +kernel
theorem dX8_paid_11 : decode cX8_paid 11 = .ok (.invokevirtual 141, 3) := by decide +kernel
theorem dX8_paid_14 : decode cX8_paid 14 = .ok (.aload_n 0, 1) := by decide +kernel
theorem dX8_paid_15 : decode cX8_paid 15 = .ok (.aload_n 0, 1) := by decide +kernel
theorem dX8_paid_16 : decode cX8_paid 16 = .ok (.getfield 33, 3) := by decide +kernel
theorem dX8_paid_19 : decode cX8_paid 19 = .ok (.invokevirtual 141, 3) := by decide +kernel
theorem dX8_paid_22 : decode cX8_paid 22 = .ok (.isub, 1) := by decide +kernel
theorem dX8_paid_23 : decode cX8_paid 23 = .ok (.ireturn, 1) := by decide +kernel
theorem dX8_wornest_0 : decode cX8_wornest 0 = .ok (.iload_n 1, 1) := by decide +kernel
theorem dX8_wornest_1 : decode cX8_wornest 1 = .ok (.iconst 0, 1) := by decide +kernel
theorem dX8_wornest_2 : decode cX8_wornest 2 = .ok (.invokestatic 280, 3) := by decide +kernel
theorem dX8_wornest_5 : decode cX8_wornest 5 = .ok (.aload_n 0, 1) := by decide +kernel
theorem dX8_wornest_6 : decode cX8_wornest 6 = .ok (.iload_n 1, 1) := by decide +kernel
theorem dX8_wornest_7 : decode cX8_wornest 7 = .ok (.invokevirtual 283, 3) := by decide +kernel
theorem dX8_wornest_10 : decode cX8_wornest 10 = .ok (.getfield 197, 3) := by decide +kernel
theorem dX8_wornest_13 : decode cX8_wornest 13 = .ok (.aload_n 0, 1) := by decide +kernel
theorem dX8_wornest_14 : decode cX8_wornest 14 = .ok (.getfield 23, 3) := by decide +kernel
theorem dX8_wornest_17 : decode cX8_wornest 17 = .ok (.getfield 119, 3) := by decide +kernel
theorem dX8_wornest_20 : decode cX8_wornest 20 = .ok (.invokestatic 392, 3) := by decide +kernel
theorem dX8_wornest_23 : decode cX8_wornest 23 = .ok (.ireturn, 1) := by decide +kernel
theorem dX8_sorest_0 : decode cX8_sorest 0 = .ok (.iload_n 1, 1) := by decide +kernel
theorem dX8_sorest_1 : decode cX8_sorest 1 = .ok (.iconst 0, 1) := by decide +kernel
theorem dX8_sorest_2 : decode cX8_sorest 2 = .ok (.invokestatic 280, 3) := by decide +kernel
theorem dX8_sorest_5 : decode cX8_sorest 5 = .ok (.aload_n 0, 1) := by decide +kernel
theorem dX8_sorest_6 : decode cX8_sorest 6 = .ok (.iload_n 1, 1) := by decide +kernel
theorem dX8_sorest_7 : decode cX8_sorest 7 = .ok (.invokevirtual 283, 3) := by decide +kernel
theorem dX8_sorest_10 : decode cX8_sorest 10 = .ok (.getfield 165, 3) := by decide +kernel
theorem dX8_sorest_13 : decode cX8_sorest 13 = .ok (.aload_n 0, 1) := by decide +kernel
theorem dX8_sorest_14 : decode cX8_sorest 14 = .ok (.getfield 23, 3) := by decide +kernel
theorem dX8_sorest_17 : decode cX8_sorest 17 = .ok (.getfield 122, 3) := by decide +kernel
theorem dX8_sorest_20 : decode cX8_sorest 20 = .ok (.invokestatic 392, 3) := by decide +kernel
theorem dX8_sorest_23 : decode cX8_sorest 23 = .ok (.ireturn, 1) := by decide +kernel
theorem dX8_leastOfMost_0 : decode cX8_leastOfMost 0 = .ok (.iconst (-1), 1) := by decide +kernel
theorem dX8_leastOfMost_1 : decode cX8_leastOfMost 1 = .ok (.istore_n 2, 1) := by decide +kernel
theorem dX8_leastOfMost_2 : decode cX8_leastOfMost 2 = .ok (.iconst (-1), 1) := by decide +kernel
theorem dX8_leastOfMost_3 : decode cX8_leastOfMost 3 = .ok (.istore_n 3, 1) := by decide +kernel
theorem dX8_leastOfMost_4 : decode cX8_leastOfMost 4 = .ok (.iconst 0, 1) := by decide +kernel
theorem dX8_leastOfMost_5 : decode cX8_leastOfMost 5 = .ok (.istore 4, 2) := by decide +kernel
theorem dX8_leastOfMost_7 : decode cX8_leastOfMost 7 = .ok (.iload 4, 2) := by decide +kernel
theorem dX8_leastOfMost_9 : decode cX8_leastOfMost 9 = .ok (.iload_n 1, 1) := by decide +kernel
theorem dX8_leastOfMost_10 : decode cX8_leastOfMost 10 = .ok (.if_icmp .ge 32, 3) := by decide +kernel
theorem dX8_leastOfMost_13 : decode cX8_leastOfMost 13 = .ok (.iload 4, 2) := by decide +kernel
theorem dX8_leastOfMost_15 : decode cX8_leastOfMost 15 = .ok (.aload_n 0, 1) := by decide +kernel
theorem dX8_leastOfMost_16 : decode cX8_leastOfMost 16 = .ok (.arraylength, 1) := by decide +kernel
theorem dX8_leastOfMost_17 : decode cX8_leastOfMost 17 = .ok (.if_icmp .ge 25, 3) := by decide +kernel
theorem dX8_leastOfMost_20 : decode cX8_leastOfMost 20 = .ok (.aload_n 0, 1) := by decide +kernel
theorem dX8_leastOfMost_21 : decode cX8_leastOfMost 21 = .ok (.iload 4, 2) := by decide +kernel
theorem dX8_leastOfMost_23 : decode cX8_leastOfMost 23 = .ok (.iaload, 1) := by decide +kernel
theorem dX8_leastOfMost_24 : decode cX8_leastOfMost 24 = .ok (.iload_n 3, 1) := by decide +kernel
theorem dX8_leastOfMost_25 : decode cX8_leastOfMost 25 = .ok (.if_icmp .le 11, 3) := by decide +kernel
theorem dX8_leastOfMost_28 : decode cX8_leastOfMost 28 = .ok (.aload_n 0, 1) := by decide +kernel
theorem dX8_leastOfMost_29 : decode cX8_leastOfMost 29 = .ok (.iload 4, 2) := by decide +kernel
theorem dX8_leastOfMost_31 : decode cX8_leastOfMost 31 = .ok (.iaload, 1) := by decide +kernel
theorem dX8_leastOfMost_32 : decode cX8_leastOfMost 32 = .ok (.istore_n 3, 1) := by decide +kernel
theorem dX8_leastOfMost_33 : decode cX8_leastOfMost 33 = .ok (.iload 4, 2) := by decide +kernel
theorem dX8_leastOfMost_35 : decode cX8_leastOfMost 35 = .ok (.istore_n 2, 1) := by decide +kernel
theorem dX8_leastOfMost_36 : decode cX8_leastOfMost 36 = .ok (.iinc 4 1, 3) := by decide +kernel
theorem dX8_leastOfMost_39 : decode cX8_leastOfMost 39 = .ok (.goto (-32), 3) := by decide +kernel
theorem dX8_leastOfMost_42 : decode cX8_leastOfMost 42 = .ok (.iload_n 2, 1) := by decide +kernel
theorem dX8_leastOfMost_43 : decode cX8_leastOfMost 43 = .ok (.ireturn, 1) := by decide +kernel
theorem dX8_dampest_0 : decode cX8_dampest 0 = .ok (.iload_n 1, 1) := by decide +kernel
theorem dX8_dampest_1 : decode cX8_dampest 1 = .ok (.iconst 1, 1) := by decide +kernel
theorem dX8_dampest_2 : decode cX8_dampest 2 = .ok (.invokestatic 280, 3) := by decide +kernel
theorem dX8_dampest_5 : decode cX8_dampest 5 = .ok (.iconst 0, 1) := by decide +kernel
theorem dX8_dampest_6 : decode cX8_dampest 6 = .ok (.istore_n 2, 1) := by decide +kernel
theorem dX8_dampest_7 : decode cX8_dampest 7 = .ok (.aload_n 0, 1) := by decide +kernel
theorem dX8_dampest_8 : decode cX8_dampest 8 = .ok (.getfield 23, 3) := by decide +kernel
theorem dX8_dampest_11 : decode cX8_dampest 11 = .ok (.aload_n 0, 1) := by decide +kernel
theorem dX8_dampest_12 : decode cX8_dampest 12 = .ok (.getfield 33, 3) := by decide +kernel
theorem dX8_dampest_15 : decode cX8_dampest 15 = .ok (.invokevirtual 128, 3) := by decide +kernel
theorem dX8_dampest_18 : decode cX8_dampest 18 = .ok (.istore_n 3, 1) := by decide +kernel
theorem dX8_dampest_19 : decode cX8_dampest 19 = .ok (.iconst 1, 1) := by decide +kernel
theorem dX8_dampest_20 : decode cX8_dampest 20 = .ok (.istore 4, 2) := by decide +kernel
theorem dX8_dampest_22 : decode cX8_dampest 22 = .ok (.iload 4, 2) := by decide +kernel
theorem dX8_dampest_24 : decode cX8_dampest 24 = .ok (.iload_n 1, 1) := by decide +kernel
theorem dX8_dampest_25 : decode cX8_dampest 25 = .ok (.if_icmp .ge 40, 3) := by decide +kernel
theorem dX8_dampest_28 : decode cX8_dampest 28 = .ok (.aload_n 0, 1) := by decide +kernel
theorem dX8_dampest_29 : decode cX8_dampest 29 = .ok (.getfield 23, 3) := by decide +kernel
theorem dX8_dampest_32 : decode cX8_dampest 32 = .ok (.aload_n 0, 1) := by decide +kernel
theorem dX8_dampest_33 : decode cX8_dampest 33 = .ok (.getfield 33, 3) := by decide +kernel
theorem dX8_dampest_36 : decode cX8_dampest 36 = .ok (.getfield 125, 3) := by decide +kernel
theorem dX8_dampest_39 : decode cX8_dampest 39 = .ok (.iload 4, 2) := by decide +kernel
theorem dX8_dampest_41 : decode cX8_dampest 41 = .ok (.iadd, 1) := by decide +kernel
theorem dX8_dampest_42 : decode cX8_dampest 42 = .ok (.invokevirtual 396, 3) := by decide +kernel
theorem dX8_dampest_45 : decode cX8_dampest 45 = .ok (.istore 5, 2) := by decide +kernel
theorem dX8_dampest_47 : decode cX8_dampest 47 = .ok (.iload 5, 2) := by decide +kernel
theorem dX8_dampest_49 : decode cX8_dampest 49 = .ok (.iload_n 3, 1) := by decide +kernel
theorem dX8_dampest_50 : decode cX8_dampest 50 = .ok (.if_icmp .le 9, 3) := by decide +kernel
theorem dX8_dampest_53 : decode cX8_dampest 53 = .ok (.iload 5, 2) := by decide +kernel
theorem dX8_dampest_55 : decode cX8_dampest 55 = .ok (.istore_n 3, 1) := by decide +kernel
theorem dX8_dampest_56 : decode cX8_dampest 56 = .ok (.iload 4, 2) := by decide +kernel
theorem dX8_dampest_58 : decode cX8_dampest 58 = .ok (.istore_n 2, 1) := by decide +kernel
theorem dX8_dampest_59 : decode cX8_dampest 59 = .ok (.iinc 4 1, 3) := by decide +kernel
theorem dX8_dampest_62 : decode cX8_dampest 62 = .ok (.goto (-40), 3) := by decide +kernel
theorem dX8_dampest_65 : decode cX8_dampest 65 = .ok (.iload_n 2, 1) := by decide +kernel
theorem dX8_dampest_66 : decode cX8_dampest 66 = .ok (.ireturn, 1) := by decide +kernel
theorem dX8_kept_0 : decode cX8_kept 0 = .ok (.iload_n 1, 1) := by decide +kernel
theorem dX8_kept_1 : decode cX8_kept 1 = .ok (.iconst 0, 1) := by decide +kernel
theorem dX8_kept_2 : decode cX8_kept 2 = .ok (.invokestatic 280, 3) := by decide +kernel
theorem dX8_kept_5 : decode cX8_kept 5 = .ok (.aload_n 0, 1) := by decide +kernel
theorem dX8_kept_6 : decode cX8_kept 6 = .ok (.iload_n 1, 1) := by decide +kernel
theorem dX8_kept_7 : decode cX8_kept 7 = .ok (.invokevirtual 283, 3) := by decide +kernel
theorem dX8_kept_10 : decode cX8_kept 10 = .ok (.astore_n 2, 1) := by decide +kernel
theorem dX8_kept_11 : decode cX8_kept 11 = .ok (.iconst 0, 1) := by decide +kernel
theorem dX8_kept_12 : decode cX8_kept 12 = .ok (.istore_n 3, 1) := by decide +kernel
theorem dX8_kept_13 : decode cX8_kept 13 = .ok (.iconst 0, 1) := by decide +kernel
theorem dX8_kept_14 : decode cX8_kept 14 = .ok (.istore 4, 2) := by decide +kernel
theorem dX8_kept_16 : decode cX8_kept 16 = .ok (.iload 4, 2) := by decide +kernel
theorem dX8_kept_18 : decode cX8_kept 18 = .ok (.aload_n 0, 1) := by decide +kernel
theorem dX8_kept_19 : decode cX8_kept 19 = .ok (.getfield 23, 3) := by decide +kernel
theorem dX8_kept_22 : decode cX8_kept 22 = .ok (.getfield 122, 3) := by decide +kernel
theorem dX8_kept_25 : decode cX8_kept 25 = .ok (.if_icmp .ge 50, 3) := by decide +kernel
theorem dX8_kept_28 : decode cX8_kept 28 = .ok (.aload_n 0, 1) := by decide +kernel
theorem dX8_kept_29 : decode cX8_kept 29 = .ok (.getfield 33, 3) := by decide +kernel
theorem dX8_kept_32 : decode cX8_kept 32 = .ok (.getfield 162, 3) := by decide +kernel
theorem dX8_kept_35 : decode cX8_kept 35 = .ok (.iload 4, 2) := by decide +kernel
theorem dX8_kept_37 : decode cX8_kept 37 = .ok (.iaload, 1) := by decide +kernel
theorem dX8_kept_38 : decode cX8_kept 38 = .ok (.iconst (-1), 1) := by decide +kernel
theorem dX8_kept_39 : decode cX8_kept 39 = .ok (.if_icmp .eq 30, 3) := by decide +kernel
theorem dX8_kept_42 : decode cX8_kept 42 = .ok (.aload_n 2, 1) := by decide +kernel
theorem dX8_kept_43 : decode cX8_kept 43 = .ok (.getfield 162, 3) := by decide +kernel
theorem dX8_kept_46 : decode cX8_kept 46 = .ok (.iload 4, 2) := by decide +kernel
theorem dX8_kept_48 : decode cX8_kept 48 = .ok (.iaload, 1) := by decide +kernel
theorem dX8_kept_49 : decode cX8_kept 49 = .ok (.aload_n 0, 1) := by decide +kernel
theorem dX8_kept_50 : decode cX8_kept 50 = .ok (.getfield 33, 3) := by decide +kernel
theorem dX8_kept_53 : decode cX8_kept 53 = .ok (.getfield 162, 3) := by decide +kernel
theorem dX8_kept_56 : decode cX8_kept 56 = .ok (.iload 4, 2) := by decide +kernel
theorem dX8_kept_58 : decode cX8_kept 58 = .ok (.iaload, 1) := by decide +kernel
theorem dX8_kept_59 : decode cX8_kept 59 = .ok (.if_icmp .ne 10, 3) := by decide +kernel
theorem dX8_kept_62 : decode cX8_kept 62 = .ok (.iload_n 3, 1) := by decide +kernel
theorem dX8_kept_63 : decode cX8_kept 63 = .ok (.iconst 1, 1) := by decide +kernel
theorem dX8_kept_64 : decode cX8_kept 64 = .ok (.iload 4, 2) := by decide +kernel
theorem dX8_kept_66 : decode cX8_kept 66 = .ok (.ishl, 1) := by decide +kernel
theorem dX8_kept_67 : decode cX8_kept 67 = .ok (.ior, 1) := by decide +kernel
theorem dX8_kept_68 : decode cX8_kept 68 = .ok (.istore_n 3, 1) := by decide +kernel
theorem dX8_kept_69 : decode cX8_kept 69 = .ok (.iinc 4 1, 3) := by decide +kernel
theorem dX8_kept_72 : decode cX8_kept 72 = .ok (.goto (-56), 3) := by decide +kernel
theorem dX8_kept_75 : decode cX8_kept 75 = .ok (.iload_n 3, 1) := by decide +kernel
theorem dX8_kept_76 : decode cX8_kept 76 = .ok (.ireturn, 1) := by decide +kernel
theorem dX8_eased_0 : decode cX8_eased 0 = .ok (.aload_n 0, 1) := by decide +kernel
theorem dX8_eased_1 : decode cX8_eased 1 = .ok (.iload_n 1, 1) := by decide +kernel
theorem dX8_eased_2 : decode cX8_eased 2 = .ok (.invokevirtual 223, 3) := by decide +kernel
theorem dX8_eased_5 : decode cX8_eased 5 = .ok (.aload_n 0, 1) := by decide +kernel
theorem dX8_eased_6 : decode cX8_eased 6 = .ok (.iload_n 2, 1) := by decide +kernel
theorem dX8_eased_7 : decode cX8_eased 7 = .ok (.invokevirtual 186, 3) := by decide +kernel
theorem dX8_eased_10 : decode cX8_eased 10 = .ok (.iload_n 3, 1) := by decide +kernel
theorem dX8_eased_11 : decode cX8_eased 11 = .ok (.iconst 1, 1) := by decide +kernel
theorem dX8_eased_12 : decode cX8_eased 12 = .ok (.invokestatic 280, 3) := by decide +kernel
theorem dX8_eased_15 : decode cX8_eased 15 = .ok (.aload_n 0, 1) := by decide +kernel
theorem dX8_eased_16 : decode cX8_eased 16 = .ok (.getfield 37, 3) := by decide +kernel
theorem dX8_eased_19 : decode cX8_eased 19 = .ok (.aload_n 0, 1) := by decide +kernel
theorem dX8_eased_20 : decode cX8_eased 20 = .ok (.getfield 33, 3) := by decide +kernel
theorem dX8_eased_23 : decode cX8_eased 23 = .ok (.invokevirtual 274, 3) := by decide +kernel
theorem dX8_eased_26 : decode cX8_eased 26 = .ok (.iconst 0, 1) := by decide +kernel
theorem dX8_eased_27 : decode cX8_eased 27 = .ok (.istore 4, 2) := by decide +kernel
theorem dX8_eased_29 : decode cX8_eased 29 = .ok (.iconst (-1), 1) := by decide +kernel
theorem dX8_eased_30 : decode cX8_eased 30 = .ok (.istore 5, 2) := by decide +kernel
theorem dX8_eased_32 : decode cX8_eased 32 = .ok (.iconst 0, 1) := by decide +kernel
theorem dX8_eased_33 : decode cX8_eased 33 = .ok (.istore 6, 2) := by decide +kernel
theorem dX8_eased_35 : decode cX8_eased 35 = .ok (.iload 6, 2) := by decide +kernel
theorem dX8_eased_37 : decode cX8_eased 37 = .ok (.iload_n 3, 1) := by decide +kernel
theorem dX8_eased_38 : decode cX8_eased 38 = .ok (.if_icmp .ge 59, 3) := by decide +kernel
theorem dX8_eased_41 : decode cX8_eased 41 = .ok (.aload_n 0, 1) := by decide +kernel
theorem dX8_eased_42 : decode cX8_eased 42 = .ok (.getfield 23, 3) := by decide +kernel
theorem dX8_eased_45 : decode cX8_eased 45 = .ok (.aload_n 0, 1) := by decide +kernel
theorem dX8_eased_46 : decode cX8_eased 46 = .ok (.getfield 37, 3) := by decide +kernel
theorem dX8_eased_49 : decode cX8_eased 49 = .ok (.iload_n 1, 1) := by decide +kernel
theorem dX8_eased_50 : decode cX8_eased 50 = .ok (.iload_n 2, 1) := by decide +kernel
theorem dX8_eased_51 : decode cX8_eased 51 = .ok (.aload_n 0, 1) := by decide +kernel
theorem dX8_eased_52 : decode cX8_eased 52 = .ok (.getfield 23, 3) := by decide +kernel
theorem dX8_eased_55 : decode cX8_eased 55 = .ok (.aload_n 0, 1) := by decide +kernel
theorem dX8_eased_56 : decode cX8_eased 56 = .ok (.getfield 37, 3) := by decide +kernel
theorem dX8_eased_59 : decode cX8_eased 59 = .ok (.invokevirtual 128, 3) := by decide +kernel
theorem dX8_eased_62 : decode cX8_eased 62 = .ok (.invokevirtual 231, 3) := by decide +kernel
theorem dX8_eased_65 : decode cX8_eased 65 = .ok (.istore 7, 2) := by decide +kernel
theorem dX8_eased_67 : decode cX8_eased 67 = .ok (.iload 7, 2) := by decide +kernel
theorem dX8_eased_69 : decode cX8_eased 69 = .ok (.iload 5, 2) := by decide +kernel
theorem dX8_eased_71 : decode cX8_eased 71 = .ok (.if_icmp .le 11, 3) := by decide +kernel
theorem dX8_eased_74 : decode cX8_eased 74 = .ok (.iload 7, 2) := by decide +kernel
theorem dX8_eased_76 : decode cX8_eased 76 = .ok (.istore 5, 2) := by decide +kernel
theorem dX8_eased_78 : decode cX8_eased 78 = .ok (.iload 6, 2) := by decide +kernel
theorem dX8_eased_80 : decode cX8_eased 80 = .ok (.istore 4, 2) := by decide +kernel
theorem dX8_eased_82 : decode cX8_eased 82 = .ok (.aload_n 0, 1) := by decide +kernel
theorem dX8_eased_83 : decode cX8_eased 83 = .ok (.aload_n 0, 1) := by decide +kernel
theorem dX8_eased_84 : decode cX8_eased 84 = .ok (.getfield 37, 3) := by decide +kernel
theorem dX8_eased_87 : decode cX8_eased 87 = .ok (.iconst 1, 1) := by decide +kernel
theorem dX8_eased_88 : decode cX8_eased 88 = .ok (.invokevirtual 245, 3) := by decide +kernel
theorem dX8_eased_91 : decode cX8_eased 91 = .ok (.iinc 6 1, 3) := by decide +kernel
theorem dX8_eased_94 : decode cX8_eased 94 = .ok (.goto (-59), 3) := by decide +kernel
theorem dX8_eased_97 : decode cX8_eased 97 = .ok (.iload 4, 2) := by decide +kernel
theorem dX8_eased_99 : decode cX8_eased 99 = .ok (.ireturn, 1) := by decide +kernel
theorem dX8_free_0 : decode cX8_free 0 = .ok (.aload_n 0, 1) := by decide +kernel
theorem dX8_free_1 : decode cX8_free 1 = .ok (.iload_n 1, 1) := by decide +kernel
theorem dX8_free_2 : decode cX8_free 2 = .ok (.invokevirtual 223, 3) := by decide +kernel
theorem dX8_free_5 : decode cX8_free 5 = .ok (.iconst (-1), 1) := by decide +kernel
theorem dX8_free_6 : decode cX8_free 6 = .ok (.istore_n 2, 1) := by decide +kernel
theorem dX8_free_7 : decode cX8_free 7 = .ok (.bipush 31, 2) := by decide +kernel
theorem dX8_free_9 : decode cX8_free 9 = .ok (.istore_n 3, 1) := by decide +kernel
theorem dX8_free_10 : decode cX8_free 10 = .ok (.iconst 0, 1) := by decide +kernel
theorem dX8_free_11 : decode cX8_free 11 = .ok (.istore 4, 2) := by decide +kernel
theorem dX8_free_13 : decode cX8_free 13 = .ok (.iload 4, 2) := by decide +kernel
theorem dX8_free_15 : decode cX8_free 15 = .ok (.aload_n 0, 1) := by decide +kernel
theorem dX8_free_16 : decode cX8_free 16 = .ok (.getfield 23, 3) := by decide +kernel
theorem dX8_free_19 : decode cX8_free 19 = .ok (.getfield 119, 3) := by decide +kernel
theorem dX8_free_22 : decode cX8_free 22 = .ok (.if_icmp .ge 73, 3) := by decide +kernel
theorem dX8_free_25 : decode cX8_free 25 = .ok (.aload_n 0, 1) := by decide +kernel
theorem dX8_free_26 : decode cX8_free 26 = .ok (.getfield 33, 3) := by decide +kernel
theorem dX8_free_29 : decode cX8_free 29 = .ok (.getfield 159, 3) := by decide +kernel
theorem dX8_free_32 : decode cX8_free 32 = .ok (.iload 4, 2) := by decide +kernel
theorem dX8_free_34 : decode cX8_free 34 = .ok (.iaload, 1) := by decide +kernel
theorem dX8_free_35 : decode cX8_free 35 = .ok (.iconst (-1), 1) := by decide +kernel
theorem dX8_free_36 : decode cX8_free 36 = .ok (.if_icmp .ne 17, 3) := by decide +kernel
theorem dX8_free_39 : decode cX8_free 39 = .ok (.aload_n 0, 1) := by decide +kernel
theorem dX8_free_40 : decode cX8_free 40 = .ok (.iload_n 1, 1) := by decide +kernel
theorem dX8_free_41 : decode cX8_free 41 = .ok (.iload 4, 2) := by decide +kernel
theorem dX8_free_43 : decode cX8_free 43 = .ok (.invokevirtual 249, 3) := by decide +kernel
theorem dX8_free_46 : decode cX8_free 46 = .ok (.ifCond .eq 7, 3) := by decide +kernel
theorem dX8_free_49 : decode cX8_free 49 = .ok (.iconst 1, 1) := by decide +kernel
theorem dX8_free_50 : decode cX8_free 50 = .ok (.goto 4, 3) := by decide +kernel
theorem dX8_free_53 : decode cX8_free 53 = .ok (.iconst 0, 1) := by decide +kernel
theorem dX8_free_54 : decode cX8_free 54 = .ok (.istore 5, 2) := by decide +kernel
theorem dX8_free_56 : decode cX8_free 56 = .ok (.iload 5, 2) := by decide +kernel
theorem dX8_free_58 : decode cX8_free 58 = .ok (.ifCond .eq 31, 3) := by decide +kernel
theorem dX8_free_61 : decode cX8_free 61 = .ok (.aload_n 0, 1) := by decide +kernel
theorem dX8_free_62 : decode cX8_free 62 = .ok (.getfield 33, 3) := by decide +kernel
theorem dX8_free_65 : decode cX8_free 65 = .ok (.iload_n 1, 1) := by decide +kernel
theorem dX8_free_66 : decode cX8_free 66 = .ok (.iload 4, 2) := by decide +kernel
theorem dX8_free_68 : decode cX8_free 68 = .ok (.invokevirtual 172, 3) := by decide +kernel
theorem dX8_free_71 : decode cX8_free 71 = .ok (.iload_n 3, 1) := by decide +kernel
theorem dX8_free_72 : decode cX8_free 72 = .ok (.if_icmp .ge 17, 3) := by decide +kernel
theorem dX8_free_75 : decode cX8_free 75 = .ok (.aload_n 0, 1) := by decide +kernel
theorem dX8_free_76 : decode cX8_free 76 = .ok (.getfield 33, 3) := by decide +kernel
theorem dX8_free_79 : decode cX8_free 79 = .ok (.iload_n 1, 1) := by decide +kernel
theorem dX8_free_80 : decode cX8_free 80 = .ok (.iload 4, 2) := by decide +kernel
theorem dX8_free_82 : decode cX8_free 82 = .ok (.invokevirtual 172, 3) := by decide +kernel
theorem dX8_free_85 : decode cX8_free 85 = .ok (.istore_n 3, 1) := by decide +kernel
theorem dX8_free_86 : decode cX8_free 86 = .ok (.iload 4, 2) := by decide +kernel
theorem dX8_free_88 : decode cX8_free 88 = .ok (.istore_n 2, 1) := by decide +kernel
theorem dX8_free_89 : decode cX8_free 89 = .ok (.iinc 4 1, 3) := by decide +kernel
theorem dX8_free_92 : decode cX8_free 92 = .ok (.goto (-79), 3) := by decide +kernel
theorem dX8_free_95 : decode cX8_free 95 = .ok (.iload_n 2, 1) := by decide +kernel
theorem dX8_free_96 : decode cX8_free 96 = .ok (.ireturn, 1) := by decide +kernel
theorem dX8_larger_0 : decode cX8_larger 0 = .ok (.aload_n 0, 1) := by decide +kernel
theorem dX8_larger_1 : decode cX8_larger 1 = .ok (.iload_n 1, 1) := by decide +kernel
theorem dX8_larger_2 : decode cX8_larger 2 = .ok (.invokevirtual 223, 3) := by decide +kernel
theorem dX8_larger_5 : decode cX8_larger 5 = .ok (.iconst 0, 1) := by decide +kernel
theorem dX8_larger_6 : decode cX8_larger 6 = .ok (.istore_n 2, 1) := by decide +kernel
theorem dX8_larger_7 : decode cX8_larger 7 = .ok (.iconst 0, 1) := by decide +kernel
theorem dX8_larger_8 : decode cX8_larger 8 = .ok (.istore_n 3, 1) := by decide +kernel
theorem dX8_larger_9 : decode cX8_larger 9 = .ok (.iload_n 3, 1) := by decide +kernel
theorem dX8_larger_10 : decode cX8_larger 10 = .ok (.aload_n 0, 1) := by decide +kernel
theorem dX8_larger_11 : decode cX8_larger 11 = .ok (.getfield 23, 3) := by decide +kernel
theorem dX8_larger_14 : decode cX8_larger 14 = .ok (.getfield 122, 3) := by decide +kernel
theorem dX8_larger_17 : decode cX8_larger 17 = .ok (.if_icmp .ge 33, 3) := by decide +kernel
theorem dX8_larger_20 : decode cX8_larger 20 = .ok (.aload_n 0, 1) := by decide +kernel
theorem dX8_larger_21 : decode cX8_larger 21 = .ok (.getfield 33, 3) := by decide +kernel
theorem dX8_larger_24 : decode cX8_larger 24 = .ok (.getfield 212, 3) := by decide +kernel
theorem dX8_larger_27 : decode cX8_larger 27 = .ok (.iload_n 3, 1) := by decide +kernel
theorem dX8_larger_28 : decode cX8_larger 28 = .ok (.iaload, 1) := by decide +kernel
theorem dX8_larger_29 : decode cX8_larger 29 = .ok (.aload_n 0, 1) := by decide +kernel
theorem dX8_larger_30 : decode cX8_larger 30 = .ok (.getfield 33, 3) := by decide +kernel
theorem dX8_larger_33 : decode cX8_larger 33 = .ok (.getfield 212, 3) := by decide +kernel
theorem dX8_larger_36 : decode cX8_larger 36 = .ok (.iload_n 1, 1) := by decide +kernel
theorem dX8_larger_37 : decode cX8_larger 37 = .ok (.iaload, 1) := by decide +kernel
theorem dX8_larger_38 : decode cX8_larger 38 = .ok (.if_icmp .le 6, 3) := by decide +kernel
theorem dX8_larger_41 : decode cX8_larger 41 = .ok (.iinc 2 1, 3) := by decide +kernel
theorem dX8_larger_44 : decode cX8_larger 44 = .ok (.iinc 3 1, 3) := by decide +kernel
theorem dX8_larger_47 : decode cX8_larger 47 = .ok (.goto (-38), 3) := by decide +kernel
theorem dX8_larger_50 : decode cX8_larger 50 = .ok (.iload_n 2, 1) := by decide +kernel
theorem dX8_larger_51 : decode cX8_larger 51 = .ok (.ireturn, 1) := by decide +kernel
theorem dX8_wide_0 : decode cX8_wide 0 = .ok (.iload_n 1, 1) := by decide +kernel
theorem dX8_wide_1 : decode cX8_wide 1 = .ok (.iconst 1, 1) := by decide +kernel
theorem dX8_wide_2 : decode cX8_wide 2 = .ok (.if_icmp .lt 9, 3) := by decide +kernel
theorem dX8_wide_5 : decode cX8_wide 5 = .ok (.iload_n 1, 1) := by decide +kernel
theorem dX8_wide_6 : decode cX8_wide 6 = .ok (.bipush 60, 2) := by decide +kernel
theorem dX8_wide_8 : decode cX8_wide 8 = .ok (.if_icmp .le 14, 3) := by decide +kernel
theorem dX8_wide_11 : decode cX8_wide 11 = .ok (.new 97, 3) := by decide +kernel
theorem dX8_wide_14 : decode cX8_wide 14 = .ok (.dup, 1) := by decide +kernel
theorem dX8_wide_15 : decode cX8_wide 15 = .ok (.ldc_w 399, 3) := by decide +kernel
theorem dX8_wide_18 : decode cX8_wide 18 = .ok (.invokespecial 101, 3) := by decide +kernel
theorem dX8_wide_21 : decode cX8_wide 21 = .ok (.athrow, 1) := by decide +kernel
theorem dX8_wide_22 : decode cX8_wide 22 = .ok (.iconst 0, 1) := by decide +kernel
theorem dX8_wide_23 : decode cX8_wide 23 = .ok (.istore_n 2, 1) := by decide +kernel
theorem dX8_wide_24 : decode cX8_wide 24 = .ok (.iconst 0, 1) := by decide +kernel
theorem dX8_wide_25 : decode cX8_wide 25 = .ok (.istore_n 3, 1) := by decide +kernel
theorem dX8_wide_26 : decode cX8_wide 26 = .ok (.iload_n 3, 1) := by decide +kernel
theorem dX8_wide_27 : decode cX8_wide 27 = .ok (.aload_n 0, 1) := by decide +kernel
theorem dX8_wide_28 : decode cX8_wide 28 = .ok (.getfield 23, 3) := by decide +kernel
theorem dX8_wide_31 : decode cX8_wide 31 = .ok (.getfield 119, 3) := by decide +kernel
theorem dX8_wide_34 : decode cX8_wide 34 = .ok (.if_icmp .ge 39, 3) := by decide +kernel
theorem dX8_wide_37 : decode cX8_wide 37 = .ok (.aload_n 0, 1) := by decide +kernel
theorem dX8_wide_38 : decode cX8_wide 38 = .ok (.getfield 33, 3) := by decide +kernel
theorem dX8_wide_41 : decode cX8_wide 41 = .ok (.iload_n 3, 1) := by decide +kernel
theorem dX8_wide_42 : decode cX8_wide 42 = .ok (.invokevirtual 200, 3) := by decide +kernel
theorem dX8_wide_45 : decode cX8_wide 45 = .ok (.ifCond .ne 22, 3) := by decide +kernel
theorem dX8_wide_48 : decode cX8_wide 48 = .ok (.aload_n 0, 1) := by decide +kernel
theorem dX8_wide_49 : decode cX8_wide 49 = .ok (.getfield 33, 3) := by decide +kernel
theorem dX8_wide_52 : decode cX8_wide 52 = .ok (.getfield 189, 3) := by decide +kernel
theorem dX8_wide_55 : decode cX8_wide 55 = .ok (.iload_n 3, 1) := by decide +kernel
theorem dX8_wide_56 : decode cX8_wide 56 = .ok (.iaload, 1) := by decide +kernel
theorem dX8_wide_57 : decode cX8_wide 57 = .ok (.iload_n 1, 1) := by decide +kernel
theorem dX8_wide_58 : decode cX8_wide 58 = .ok (.if_icmp .lt 9, 3) := by decide +kernel
theorem dX8_wide_61 : decode cX8_wide 61 = .ok (.iload_n 2, 1) := by decide +kernel
theorem dX8_wide_62 : decode cX8_wide 62 = .ok (.iconst 1, 1) := by decide +kernel
theorem dX8_wide_63 : decode cX8_wide 63 = .ok (.iload_n 3, 1) := by decide +kernel
theorem dX8_wide_64 : decode cX8_wide 64 = .ok (.ishl, 1) := by decide +kernel
theorem dX8_wide_65 : decode cX8_wide 65 = .ok (.ior, 1) := by decide +kernel
theorem dX8_wide_66 : decode cX8_wide 66 = .ok (.istore_n 2, 1) := by decide +kernel
theorem dX8_wide_67 : decode cX8_wide 67 = .ok (.iinc 3 1, 3) := by decide +kernel
theorem dX8_wide_70 : decode cX8_wide 70 = .ok (.goto (-44), 3) := by decide +kernel
theorem dX8_wide_73 : decode cX8_wide 73 = .ok (.iload_n 2, 1) := by decide +kernel
theorem dX8_wide_74 : decode cX8_wide 74 = .ok (.ireturn, 1) := by decide +kernel
theorem dX8_endures_0 : decode cX8_endures 0 = .ok (.aload_n 0, 1) := by decide +kernel
theorem dX8_endures_1 : decode cX8_endures 1 = .ok (.iload_n 1, 1) := by decide +kernel
theorem dX8_endures_2 : decode cX8_endures 2 = .ok (.invokevirtual 223, 3) := by decide +kernel
theorem dX8_endures_5 : decode cX8_endures 5 = .ok (.aload_n 0, 1) := by decide +kernel
theorem dX8_endures_6 : decode cX8_endures 6 = .ok (.iload_n 2, 1) := by decide +kernel
theorem dX8_endures_7 : decode cX8_endures 7 = .ok (.invokevirtual 186, 3) := by decide +kernel
theorem dX8_endures_10 : decode cX8_endures 10 = .ok (.aload_n 0, 1) := by decide +kernel
theorem dX8_endures_11 : decode cX8_endures 11 = .ok (.getfield 33, 3) := by decide +kernel
theorem dX8_endures_14 : decode cX8_endures 14 = .ok (.iload_n 2, 1) := by decide +kernel
theorem dX8_endures_15 : decode cX8_endures 15 = .ok (.invokevirtual 200, 3) := by decide +kernel
theorem dX8_endures_18 : decode cX8_endures 18 = .ok (.ifCond .eq 5, 3) := by decide +kernel
theorem dX8_endures_21 : decode cX8_endures 21 = .ok (.iconst (-1), 1) := by decide +kernel
theorem dX8_endures_22 : decode cX8_endures 22 = .ok (.ireturn, 1) := by decide +kernel
theorem dX8_endures_23 : decode cX8_endures 23 = .ok (.aload_n 0, 1) := by decide +kernel
theorem dX8_endures_24 : decode cX8_endures 24 = .ok (.getfield 37, 3) := by decide +kernel
theorem dX8_endures_27 : decode cX8_endures 27 = .ok (.aload_n 0, 1) := by decide +kernel
theorem dX8_endures_28 : decode cX8_endures 28 = .ok (.getfield 33, 3) := by decide +kernel
theorem dX8_endures_31 : decode cX8_endures 31 = .ok (.invokevirtual 274, 3) := by decide +kernel
theorem dX8_endures_34 : decode cX8_endures 34 = .ok (.aload_n 0, 1) := by decide +kernel
theorem dX8_endures_35 : decode cX8_endures 35 = .ok (.getfield 37, 3) := by decide +kernel
theorem dX8_endures_38 : decode cX8_endures 38 = .ok (.getfield 159, 3) := by decide +kernel
theorem dX8_endures_41 : decode cX8_endures 41 = .ok (.iload_n 2, 1) := by decide +kernel
theorem dX8_endures_42 : decode cX8_endures 42 = .ok (.iaload, 1) := by decide +kernel
theorem dX8_endures_43 : decode cX8_endures 43 = .ok (.iconst (-1), 1) := by decide +kernel
theorem dX8_endures_44 : decode cX8_endures 44 = .ok (.if_icmp .eq 19, 3) := by decide +kernel
theorem dX8_endures_47 : decode cX8_endures 47 = .ok (.aload_n 0, 1) := by decide +kernel
theorem dX8_endures_48 : decode cX8_endures 48 = .ok (.getfield 37, 3) := by decide +kernel
theorem dX8_endures_51 : decode cX8_endures 51 = .ok (.aload_n 0, 1) := by decide +kernel
theorem dX8_endures_52 : decode cX8_endures 52 = .ok (.getfield 37, 3) := by decide +kernel
theorem dX8_endures_55 : decode cX8_endures 55 = .ok (.getfield 159, 3) := by decide +kernel
theorem dX8_endures_58 : decode cX8_endures 58 = .ok (.iload_n 2, 1) := by decide +kernel
theorem dX8_endures_59 : decode cX8_endures 59 = .ok (.iaload, 1) := by decide +kernel
theorem dX8_endures_60 : decode cX8_endures 60 = .ok (.invokevirtual 257, 3) := by decide +kernel
theorem dX8_endures_63 : decode cX8_endures 63 = .ok (.aload_n 0, 1) := by decide +kernel
theorem dX8_endures_64 : decode cX8_endures 64 = .ok (.getfield 37, 3) := by decide +kernel
theorem dX8_endures_67 : decode cX8_endures 67 = .ok (.iload_n 1, 1) := by decide +kernel
theorem dX8_endures_68 : decode cX8_endures 68 = .ok (.invokevirtual 257, 3) := by decide +kernel
theorem dX8_endures_71 : decode cX8_endures 71 = .ok (.aload_n 0, 1) := by decide +kernel
theorem dX8_endures_72 : decode cX8_endures 72 = .ok (.getfield 37, 3) := by decide +kernel
theorem dX8_endures_75 : decode cX8_endures 75 = .ok (.iload_n 1, 1) := by decide +kernel
theorem dX8_endures_76 : decode cX8_endures 76 = .ok (.iload_n 2, 1) := by decide +kernel
theorem dX8_endures_77 : decode cX8_endures 77 = .ok (.invokevirtual 253, 3) := by decide +kernel
theorem dX8_endures_80 : decode cX8_endures 80 = .ok (.aload_n 0, 1) := by decide +kernel
theorem dX8_endures_81 : decode cX8_endures 81 = .ok (.iload_n 2, 1) := by decide +kernel
theorem dX8_endures_82 : decode cX8_endures 82 = .ok (.invokevirtual 287, 3) := by decide +kernel
theorem dX8_endures_85 : decode cX8_endures 85 = .ok (.ireturn, 1) := by decide +kernel
theorem dX8_ringed_0 : decode cX8_ringed 0 = .ok (.aload_n 0, 1) := by decide +kernel
theorem dX8_ringed_1 : decode cX8_ringed 1 = .ok (.iload_n 1, 1) := by decide +kernel
theorem dX8_ringed_2 : decode cX8_ringed 2 = .ok (.invokevirtual 223, 3) := by decide +kernel
theorem dX8_ringed_5 : decode cX8_ringed 5 = .ok (.aload_n 0, 1) := by decide +kernel
theorem dX8_ringed_6 : decode cX8_ringed 6 = .ok (.getfield 81, 3) := by decide +kernel
theorem dX8_ringed_9 : decode cX8_ringed 9 = .ok (.aload_n 0, 1) := by decide +kernel
theorem dX8_ringed_10 : decode cX8_ringed 10 = .ok (.getfield 23, 3) := by decide +kernel
theorem dX8_ringed_13 : decode cX8_ringed 13 = .ok (.aload_n 0, 1) := by decide +kernel
theorem dX8_ringed_14 : decode cX8_ringed 14 = .ok (.getfield 33, 3) := by decide +kernel
theorem dX8_ringed_17 : decode cX8_ringed 17 = .ok (.invokevirtual 302, 3) := by decide +kernel
theorem dX8_ringed_20 : decode cX8_ringed 20 = .ok (.aload_n 0, 1) := by decide +kernel
theorem dX8_ringed_21 : decode cX8_ringed 21 = .ok (.getfield 81, 3) := by decide +kernel
theorem dX8_ringed_24 : decode cX8_ringed 24 = .ok (.getfield 401, 3) := by decide +kernel
theorem dX8_ringed_27 : decode cX8_ringed 27 = .ok (.iload_n 1, 1) := by decide +kernel
theorem dX8_ringed_28 : decode cX8_ringed 28 = .ok (.iaload, 1) := by decide +kernel
theorem dX8_ringed_29 : decode cX8_ringed 29 = .ok (.ireturn, 1) := by decide +kernel
theorem dX8_image_0 : decode cX8_image 0 = .ok (.aload_n 0, 1) := by decide +kernel
theorem dX8_image_1 : decode cX8_image 1 = .ok (.getfield 58, 3) := by decide +kernel
theorem dX8_image_4 : decode cX8_image 4 = .ok (.aload_n 0, 1) := by decide +kernel
theorem dX8_image_5 : decode cX8_image 5 = .ok (.getfield 33, 3) := by decide +kernel
theorem dX8_image_8 : decode cX8_image 8 = .ok (.invokevirtual 274, 3) := by decide +kernel
theorem dX8_image_11 : decode cX8_image 11 = .ok (.aload_n 0, 1) := by decide +kernel
theorem dX8_image_12 : decode cX8_image 12 = .ok (.getfield 61, 3) := by decide +kernel
theorem dX8_image_15 : decode cX8_image 15 = .ok (.aload_n 0, 1) := by decide +kernel
theorem dX8_image_16 : decode cX8_image 16 = .ok (.getfield 43, 3) := by decide +kernel
theorem dX8_image_19 : decode cX8_image 19 = .ok (.invokevirtual 404, 3) := by decide +kernel
theorem dX8_image_22 : decode cX8_image 22 = .ok (.aload_n 0, 1) := by decide +kernel
theorem dX8_image_23 : decode cX8_image 23 = .ok (.getfield 64, 3) := by decide +kernel
theorem dX8_image_26 : decode cX8_image 26 = .ok (.aload_n 0, 1) := by decide +kernel
theorem dX8_image_27 : decode cX8_image 27 = .ok (.getfield 50, 3) := by decide +kernel
theorem dX8_image_30 : decode cX8_image 30 = .ok (.invokevirtual 407, 3) := by decide +kernel
theorem dX8_image_33 : decode cX8_image 33 = .ok (.aload_n 0, 1) := by decide +kernel
theorem dX8_image_34 : decode cX8_image 34 = .ok (.iconst 1, 1) := by decide +kernel
theorem dX8_image_35 : decode cX8_image 35 = .ok (.putfield 54, 3) := by decide +kernel
theorem dX8_image_38 : decode cX8_image 38 = .ok (.return_, 1) := by decide +kernel
theorem dX8_restore_0 : decode cX8_restore 0 = .ok (.aload_n 0, 1) := by decide +kernel
theorem dX8_restore_1 : decode cX8_restore 1 = .ok (.getfield 54, 3) := by decide +kernel
theorem dX8_restore_4 : decode cX8_restore 4 = .ok (.ifCond .ne 5, 3) := by decide +kernel
theorem dX8_restore_7 : decode cX8_restore 7 = .ok (.iconst 0, 1) := by decide +kernel
theorem dX8_restore_8 : decode cX8_restore 8 = .ok (.ireturn, 1) := by decide +kernel
theorem dX8_restore_9 : decode cX8_restore 9 = .ok (.aload_n 0, 1) := by decide +kernel
theorem dX8_restore_10 : decode cX8_restore 10 = .ok (.getfield 33, 3) := by decide +kernel
theorem dX8_restore_13 : decode cX8_restore 13 = .ok (.aload_n 0, 1) := by decide +kernel
theorem dX8_restore_14 : decode cX8_restore 14 = .ok (.getfield 58, 3) := by decide +kernel
theorem dX8_restore_17 : decode cX8_restore 17 = .ok (.invokevirtual 274, 3) := by decide +kernel
theorem dX8_restore_20 : decode cX8_restore 20 = .ok (.aload_n 0, 1) := by decide +kernel
theorem dX8_restore_21 : decode cX8_restore 21 = .ok (.getfield 43, 3) := by decide +kernel
theorem dX8_restore_24 : decode cX8_restore 24 = .ok (.aload_n 0, 1) := by decide +kernel
theorem dX8_restore_25 : decode cX8_restore 25 = .ok (.getfield 61, 3) := by decide +kernel
theorem dX8_restore_28 : decode cX8_restore 28 = .ok (.invokevirtual 404, 3) := by decide +kernel
theorem dX8_restore_31 : decode cX8_restore 31 = .ok (.aload_n 0, 1) := by decide +kernel
theorem dX8_restore_32 : decode cX8_restore 32 = .ok (.getfield 50, 3) := by decide +kernel
theorem dX8_restore_35 : decode cX8_restore 35 = .ok (.aload_n 0, 1) := by decide +kernel
theorem dX8_restore_36 : decode cX8_restore 36 = .ok (.getfield 64, 3) := by decide +kernel
theorem dX8_restore_39 : decode cX8_restore 39 = .ok (.invokevirtual 407, 3) := by decide +kernel
theorem dX8_restore_42 : decode cX8_restore 42 = .ok (.iconst 1, 1) := by decide +kernel
theorem dX8_restore_43 : decode cX8_restore 43 = .ok (.ireturn, 1) := by decide +kernel
theorem dX8_needHouse_0 : decode cX8_needHouse 0 = .ok (.iload_n 1, 1) := by decide +kernel
theorem dX8_needHouse_1 : decode cX8_needHouse 1 = .ok (.ifCond .lt 14, 3) := by decide +kernel
theorem dX8_needHouse_4 : decode cX8_needHouse 4 = .ok (.iload_n 1, 1) := by decide +kernel
theorem dX8_needHouse_5 : decode cX8_needHouse 5 = .ok (.aload_n 0, 1) := by decide +kernel
theorem dX8_needHouse_6 : decode cX8_needHouse 6 = .ok (.getfield 23, 3) := by decide +kernel
theorem dX8_needHouse_9 : decode cX8_needHouse 9 = .ok (.getfield 119, 3) := by decide +kernel
theorem dX8_needHouse_12 : decode cX8_needHouse 12 = .ok (.if_icmp .lt 14, 3) := by decide +kernel
theorem dX8_needHouse_15 : decode cX8_needHouse 15 = .ok (.new 154, 3) := by decide +kernel
theorem dX8_needHouse_18 : decode cX8_needHouse 18 = .ok (.dup, 1) := by decide +kernel
theorem dX8_needHouse_19 : decode cX8_needHouse 19 = .ok (.ldc_w 410, 3) := by decide +kernel
theorem dX8_needHouse_22 : decode cX8_needHouse 22 = .ok (.invokespecial 158, 3) := by decide +kernel
theorem dX8_needHouse_25 : decode cX8_needHouse 25 = .ok (.athrow, 1) := by decide +kernel
theorem dX8_needHouse_26 : decode cX8_needHouse 26 = .ok (.return_, 1) := by decide +kernel
theorem dX8_needPerson_0 : decode cX8_needPerson 0 = .ok (.iload_n 1, 1) := by decide +kernel
theorem dX8_needPerson_1 : decode cX8_needPerson 1 = .ok (.ifCond .lt 14, 3) := by decide +kernel
theorem dX8_needPerson_4 : decode cX8_needPerson 4 = .ok (.iload_n 1, 1) := by decide +kernel
theorem dX8_needPerson_5 : decode cX8_needPerson 5 = .ok (.aload_n 0, 1) := by decide +kernel
theorem dX8_needPerson_6 : decode cX8_needPerson 6 = .ok (.getfield 23, 3) := by decide +kernel
theorem dX8_needPerson_9 : decode cX8_needPerson 9 = .ok (.getfield 122, 3) := by decide +kernel
theorem dX8_needPerson_12 : decode cX8_needPerson 12 = .ok (.if_icmp .lt 14, 3) := by decide +kernel
theorem dX8_needPerson_15 : decode cX8_needPerson 15 = .ok (.new 154, 3) := by decide +kernel
theorem dX8_needPerson_18 : decode cX8_needPerson 18 = .ok (.dup, 1) := by decide +kernel
theorem dX8_needPerson_19 : decode cX8_needPerson 19 = .ok (.ldc_w 412, 3) := by decide +kernel
theorem dX8_needPerson_22 : decode cX8_needPerson 22 = .ok (.invokespecial 158, 3) := by decide +kernel
theorem dX8_needPerson_25 : decode cX8_needPerson 25 = .ok (.athrow, 1) := by decide +kernel
theorem dX8_needPerson_26 : decode cX8_needPerson 26 = .ok (.return_, 1) := by decide +kernel
theorem dX8_needWhat_0 : decode cX8_needWhat 0 = .ok (.iload_n 0, 1) := by decide +kernel
theorem dX8_needWhat_1 : decode cX8_needWhat 1 = .ok (.ifCond .lt 8, 3) := by decide +kernel
theorem dX8_needWhat_4 : decode cX8_needWhat 4 = .ok (.iload_n 0, 1) := by decide +kernel
theorem dX8_needWhat_5 : decode cX8_needWhat 5 = .ok (.iload_n 1, 1) := by decide +kernel
theorem dX8_needWhat_6 : decode cX8_needWhat 6 = .ok (.if_icmp .le 14, 3) := by decide +kernel
theorem dX8_needWhat_9 : decode cX8_needWhat 9 = .ok (.new 154, 3) := by decide +kernel
theorem dX8_needWhat_12 : decode cX8_needWhat 12 = .ok (.dup, 1) := by decide +kernel
theorem dX8_needWhat_13 : decode cX8_needWhat 13 = .ok (.ldc_w 414, 3) := by decide +kernel
theorem dX8_needWhat_16 : decode cX8_needWhat 16 = .ok (.invokespecial 158, 3) := by decide +kernel
theorem dX8_needWhat_19 : decode cX8_needWhat 19 = .ok (.athrow, 1) := by decide +kernel
theorem dX8_needWhat_20 : decode cX8_needWhat 20 = .ok (.return_, 1) := by decide +kernel
theorem dX8_needDays_0 : decode cX8_needDays 0 = .ok (.iload_n 0, 1) := by decide +kernel
theorem dX8_needDays_1 : decode cX8_needDays 1 = .ok (.iload_n 1, 1) := by decide +kernel
theorem dX8_needDays_2 : decode cX8_needDays 2 = .ok (.if_icmp .lt 9, 3) := by decide +kernel
theorem dX8_needDays_5 : decode cX8_needDays 5 = .ok (.iload_n 0, 1) := by decide +kernel
theorem dX8_needDays_6 : decode cX8_needDays 6 = .ok (.bipush 40, 2) := by decide +kernel
theorem dX8_needDays_8 : decode cX8_needDays 8 = .ok (.if_icmp .le 14, 3) := by decide +kernel
theorem dX8_needDays_11 : decode cX8_needDays 11 = .ok (.new 97, 3) := by decide +kernel
theorem dX8_needDays_14 : decode cX8_needDays 14 = .ok (.dup, 1) := by decide +kernel
theorem dX8_needDays_15 : decode cX8_needDays 15 = .ok (.ldc_w 416, 3) := by decide +kernel
theorem dX8_needDays_18 : decode cX8_needDays 18 = .ok (.invokespecial 101, 3) := by decide +kernel
theorem dX8_needDays_21 : decode cX8_needDays 21 = .ok (.athrow, 1) := by decide +kernel
theorem dX8_needDays_22 : decode cX8_needDays 22 = .ok (.return_, 1) := by decide +kernel
theorem dX9_init_0 : decode cX9_init 0 = .ok (.aload_n 0, 1) := by decide +kernel
theorem dX9_init_1 : decode cX9_init 1 = .ok (.invokespecial 1, 3) := by decide +kernel
theorem dX9_init_4 : decode cX9_init 4 = .ok (.aload_n 0, 1) := by decide +kernel
theorem dX9_init_5 : decode cX9_init 5 = .ok (.iconst (-1), 1) := by decide +kernel
theorem dX9_init_6 : decode cX9_init 6 = .ok (.putfield 9, 3) := by decide +kernel
theorem dX9_init_9 : decode cX9_init 9 = .ok (.aload_n 0, 1) := by decide +kernel
theorem dX9_init_10 : decode cX9_init 10 = .ok (.iconst (-1), 1) := by decide +kernel
theorem dX9_init_11 : decode cX9_init 11 = .ok (.putfield 13, 3) := by decide +kernel
theorem dX9_init_14 : decode cX9_init 14 = .ok (.aload_n 0, 1) := by decide +kernel
theorem dX9_init_15 : decode cX9_init 15 = .ok (.bipush 8, 2) := by decide +kernel
theorem dX9_init_17 : decode cX9_init 17 = .ok (.newarray .int, 2) := by decide +kernel
theorem dX9_init_19 : decode cX9_init 19 = .ok (.putfield 16, 3) := by decide +kernel
theorem dX9_init_22 : decode cX9_init 22 = .ok (.aload_n 0, 1) := by decide +kernel
theorem dX9_init_23 : decode cX9_init 23 = .ok (.bipush 8, 2) := by decide +kernel
theorem dX9_init_25 : decode cX9_init 25 = .ok (.newarray .int, 2) := by decide +kernel
theorem dX9_init_27 : decode cX9_init 27 = .ok (.putfield 20, 3) := by decide +kernel
theorem dX9_init_30 : decode cX9_init 30 = .ok (.aload_n 0, 1) := by decide +kernel
theorem dX9_init_31 : decode cX9_init 31 = .ok (.bipush 8, 2) := by decide +kernel
theorem dX9_init_33 : decode cX9_init 33 = .ok (.newarray .int, 2) := by decide +kernel
theorem dX9_init_35 : decode cX9_init 35 = .ok (.putfield 23, 3) := by decide +kernel
theorem dX9_init_38 : decode cX9_init 38 = .ok (.aload_n 0, 1) := by decide +kernel
theorem dX9_init_39 : decode cX9_init 39 = .ok (.bipush 8, 2) := by decide +kernel
theorem dX9_init_41 : decode cX9_init 41 = .ok (.newarray .int, 2) := by decide +kernel
theorem dX9_init_43 : decode cX9_init 43 = .ok (.putfield 26, 3) := by decide +kernel
theorem dX9_init_46 : decode cX9_init 46 = .ok (.aload_n 0, 1) := by decide +kernel
theorem dX9_init_47 : decode cX9_init 47 = .ok (.sipush 1400, 3) := by decide +kernel
theorem dX9_init_50 : decode cX9_init 50 = .ok (.newarray .int, 2) := by decide +kernel
theorem dX9_init_52 : decode cX9_init 52 = .ok (.putfield 29, 3) := by decide +kernel
theorem dX9_init_55 : decode cX9_init 55 = .ok (.aload_n 0, 1) := by decide +kernel
theorem dX9_init_56 : decode cX9_init 56 = .ok (.sipush 700, 3) := by decide +kernel
theorem dX9_init_59 : decode cX9_init 59 = .ok (.newarray .int, 2) := by decide +kernel
theorem dX9_init_61 : decode cX9_init 61 = .ok (.putfield 32, 3) := by decide +kernel
theorem dX9_init_64 : decode cX9_init 64 = .ok (.aload_n 0, 1) := by decide +kernel
theorem dX9_init_65 : decode cX9_init 65 = .ok (.iconst (-1), 1) := by decide +kernel
theorem dX9_init_66 : decode cX9_init 66 = .ok (.putfield 35, 3) := by decide +kernel
theorem dX9_init_69 : decode cX9_init 69 = .ok (.aload_n 0, 1) := by decide +kernel
theorem dX9_init_70 : decode cX9_init 70 = .ok (.iconst 3, 1) := by decide +kernel
theorem dX9_init_71 : decode cX9_init 71 = .ok (.newarray .int, 2) := by decide +kernel
