theorem dX9_init_73 : decode cX9_init 73 = .ok (.putfield 38, 3) := by decide +kernel
theorem dX9_init_76 : decode cX9_init 76 = .ok (.aload_n 0, 1) := by decide +kernel
theorem dX9_init_77 : decode cX9_init 77 = .ok (.bipush 8, 2) := by decide +kernel
theorem dX9_init_79 : decode cX9_init 79 = .ok (.newarray .int, 2) := by decide +kernel
theorem dX9_init_81 : decode cX9_init 81 = .ok (.putfield 41, 3) := by decide +kernel
theorem dX9_init_84 : decode cX9_init 84 = .ok (.aload_n 0, 1) := by decide +kernel
theorem dX9_init_85 : decode cX9_init 85 = .ok (.bipush 8, 2) := by decide +kernel
theorem dX9_init_87 : decode cX9_init 87 = .ok (.newarray .int, 2) := by decide +kernel
theorem dX9_init_89 : decode cX9_init 89 = .ok (.putfield 44, 3) := by decide +kernel
theorem dX9_init_92 : decode cX9_init 92 = .ok (.aload_n 0, 1) := by decide +kernel
theorem dX9_init_93 : decode cX9_init 93 = .ok (.bipush 8, 2) := by decide +kernel
theorem dX9_init_95 : decode cX9_init 95 = .ok (.newarray .int, 2) := by decide +kernel
theorem dX9_init_97 : decode cX9_init 97 = .ok (.putfield 47, 3) := by decide +kernel
theorem dX9_init_100 : decode cX9_init 100 = .ok (.aload_n 0, 1) := by decide +kernel
theorem dX9_init_101 : decode cX9_init 101 = .ok (.bipush 8, 2) := by decide +kernel
theorem dX9_init_103 : decode cX9_init 103 = .ok (.newarray .int, 2) := by decide +kernel
theorem dX9_init_105 : decode cX9_init 105 = .ok (.putfield 50, 3) := by decide +kernel
theorem dX9_init_108 : decode cX9_init 108 = .ok (.aload_n 0, 1) := by decide +kernel
theorem dX9_init_109 : decode cX9_init 109 = .ok (.bipush 43, 2) := by decide +kernel
theorem dX9_init_111 : decode cX9_init 111 = .ok (.newarray .int, 2) := by decide +kernel
theorem dX9_init_113 : decode cX9_init 113 = .ok (.putfield 53, 3) := by decide +kernel
theorem dX9_init_116 : decode cX9_init 116 = .ok (.aload_n 0, 1) := by decide +kernel
theorem dX9_init_117 : decode cX9_init 117 = .ok (.sipush 1400, 3) := by decide +kernel
theorem dX9_init_120 : decode cX9_init 120 = .ok (.newarray .int, 2) := by decide +kernel
theorem dX9_init_122 : decode cX9_init 122 = .ok (.putfield 56, 3) := by decide +kernel
theorem dX9_init_125 : decode cX9_init 125 = .ok (.aload_n 0, 1) := by decide +kernel
theorem dX9_init_126 : decode cX9_init 126 = .ok (.sipush 950, 3) := by decide +kernel
theorem dX9_init_129 : decode cX9_init 129 = .ok (.newarray .int, 2) := by decide +kernel
theorem dX9_init_131 : decode cX9_init 131 = .ok (.putfield 59, 3) := by decide +kernel
theorem dX9_init_134 : decode cX9_init 134 = .ok (.aload_n 0, 1) := by decide +kernel
theorem dX9_init_135 : decode cX9_init 135 = .ok (.bipush 9, 2) := by decide +kernel
theorem dX9_init_137 : decode cX9_init 137 = .ok (.newarray .boolean, 2) := by decide +kernel
theorem dX9_init_139 : decode cX9_init 139 = .ok (.putfield 62, 3) := by decide +kernel
theorem dX9_init_142 : decode cX9_init 142 = .ok (.aload_n 0, 1) := by decide +kernel
theorem dX9_init_143 : decode cX9_init 143 = .ok (.bipush 86, 2) := by decide +kernel
theorem dX9_init_145 : decode cX9_init 145 = .ok (.newarray .int, 2) := by decide +kernel
theorem dX9_init_147 : decode cX9_init 147 = .ok (.putfield 66, 3) := by decide +kernel
theorem dX9_init_150 : decode cX9_init 150 = .ok (.aload_n 0, 1) := by decide +kernel
theorem dX9_init_151 : decode cX9_init 151 = .ok (.sipush 1720, 3) := by decide +kernel
theorem dX9_init_154 : decode cX9_init 154 = .ok (.newarray .int, 2) := by decide +kernel
theorem dX9_init_156 : decode cX9_init 156 = .ok (.putfield 69, 3) := by decide +kernel
theorem dX9_init_159 : decode cX9_init 159 = .ok (.aload_n 0, 1) := by decide +kernel
theorem dX9_init_160 : decode cX9_init 160 = .ok (.bipush 7, 2) := by decide +kernel
theorem dX9_init_162 : decode cX9_init 162 = .ok (.newarray .int, 2) := by decide +kernel
theorem dX9_init_164 : decode cX9_init 164 = .ok (.putfield 72, 3) := by decide +kernel
theorem dX9_init_167 : decode cX9_init 167 = .ok (.aload_n 0, 1) := by decide +kernel
theorem dX9_init_168 : decode cX9_init 168 = .ok (.sipush 950, 3) := by decide +kernel
theorem dX9_init_171 : decode cX9_init 171 = .ok (.newarray .int, 2) := by decide +kernel
theorem dX9_init_173 : decode cX9_init 173 = .ok (.putfield 75, 3) := by decide +kernel
theorem dX9_init_176 : decode cX9_init 176 = .ok (.aload_n 0, 1) := by decide +kernel
theorem dX9_init_177 : decode cX9_init 177 = .ok (.iconst (-1), 1) := by decide +kernel
theorem dX9_init_178 : decode cX9_init 178 = .ok (.putfield 78, 3) := by decide +kernel
theorem dX9_init_181 : decode cX9_init 181 = .ok (.aload_n 0, 1) := by decide +kernel
theorem dX9_init_182 : decode cX9_init 182 = .ok (.sipush 2304, 3) := by decide +kernel
theorem dX9_init_185 : decode cX9_init 185 = .ok (.newarray .int, 2) := by decide +kernel
theorem dX9_init_187 : decode cX9_init 187 = .ok (.putfield 81, 3) := by decide +kernel
theorem dX9_init_190 : decode cX9_init 190 = .ok (.aload_n 0, 1) := by decide +kernel
theorem dX9_init_191 : decode cX9_init 191 = .ok (.bipush 8, 2) := by decide +kernel
theorem dX9_init_193 : decode cX9_init 193 = .ok (.newarray .int, 2) := by decide +kernel
theorem dX9_init_195 : decode cX9_init 195 = .ok (.putfield 84, 3) := by decide +kernel
theorem dX9_init_198 : decode cX9_init 198 = .ok (.aload_n 0, 1) := by decide +kernel
theorem dX9_init_199 : decode cX9_init 199 = .ok (.bipush 8, 2) := by decide +kernel
theorem dX9_init_201 : decode cX9_init 201 = .ok (.newarray .int, 2) := by decide +kernel
theorem dX9_init_203 : decode cX9_init 203 = .ok (.putfield 87, 3) := by decide +kernel
theorem dX9_init_206 : decode cX9_init 206 = .ok (.aload_n 0, 1) := by decide +kernel
theorem dX9_init_207 : decode cX9_init 207 = .ok (.bipush 8, 2) := by decide +kernel
theorem dX9_init_209 : decode cX9_init 209 = .ok (.newarray .int, 2) := by decide +kernel
theorem dX9_init_211 : decode cX9_init 211 = .ok (.putfield 90, 3) := by decide +kernel
theorem dX9_init_214 : decode cX9_init 214 = .ok (.aload_n 0, 1) := by decide +kernel
theorem dX9_init_215 : decode cX9_init 215 = .ok (.bipush 24, 2) := by decide +kernel
theorem dX9_init_217 : decode cX9_init 217 = .ok (.newarray .int, 2) := by decide +kernel
theorem dX9_init_219 : decode cX9_init 219 = .ok (.putfield 93, 3) := by decide +kernel
theorem dX9_init_222 : decode cX9_init 222 = .ok (.aload_n 0, 1) := by decide +kernel
theorem dX9_init_223 : decode cX9_init 223 = .ok (.bipush 8, 2) := by decide +kernel
theorem dX9_init_225 : decode cX9_init 225 = .ok (.newarray .int, 2) := by decide +kernel
theorem dX9_init_227 : decode cX9_init 227 = .ok (.putfield 96, 3) := by decide +kernel
theorem dX9_init_230 : decode cX9_init 230 = .ok (.aload_n 0, 1) := by decide +kernel
theorem dX9_init_231 : decode cX9_init 231 = .ok (.sipush 3840, 3) := by decide +kernel
theorem dX9_init_234 : decode cX9_init 234 = .ok (.newarray .int, 2) := by decide +kernel
theorem dX9_init_236 : decode cX9_init 236 = .ok (.putfield 99, 3) := by decide +kernel
theorem dX9_init_239 : decode cX9_init 239 = .ok (.aload_n 0, 1) := by decide +kernel
theorem dX9_init_240 : decode cX9_init 240 = .ok (.bipush 43, 2) := by decide +kernel
theorem dX9_init_242 : decode cX9_init 242 = .ok (.newarray .int, 2) := by decide +kernel
theorem dX9_init_244 : decode cX9_init 244 = .ok (.putfield 102, 3) := by decide +kernel
theorem dX9_init_247 : decode cX9_init 247 = .ok (.aload_n 0, 1) := by decide +kernel
theorem dX9_init_248 : decode cX9_init 248 = .ok (.sipush 1720, 3) := by decide +kernel
theorem dX9_init_251 : decode cX9_init 251 = .ok (.newarray .int, 2) := by decide +kernel
theorem dX9_init_253 : decode cX9_init 253 = .ok (.putfield 105, 3) := by decide +kernel
theorem dX9_init_256 : decode cX9_init 256 = .ok (.aload_n 0, 1) := by decide +kernel
theorem dX9_init_257 : decode cX9_init 257 = .ok (.bipush 24, 2) := by decide +kernel
theorem dX9_init_259 : decode cX9_init 259 = .ok (.newarray .int, 2) := by decide +kernel
theorem dX9_init_261 : decode cX9_init 261 = .ok (.putfield 108, 3) := by decide +kernel
theorem dX9_init_264 : decode cX9_init 264 = .ok (.return_, 1) := by decide +kernel
theorem dX9_thrown_0 : decode cX9_thrown 0 = .ok (.aload_n 0, 1) := by decide +kernel
theorem dX9_thrown_1 : decode cX9_thrown 1 = .ok (.getfield 111, 3) := by decide +kernel
theorem dX9_thrown_4 : decode cX9_thrown 4 = .ok (.ireturn, 1) := by decide +kernel
theorem dX9_right_0 : decode cX9_right 0 = .ok (.aload_n 0, 1) := by decide +kernel
theorem dX9_right_1 : decode cX9_right 1 = .ok (.getfield 111, 3) := by decide +kernel
theorem dX9_right_4 : decode cX9_right 4 = .ok (.ifCond .ne 12, 3) := by decide +kernel
theorem dX9_right_7 : decode cX9_right 7 = .ok (.iload_n 1, 1) := by decide +kernel
theorem dX9_right_8 : decode cX9_right 8 = .ok (.ifCond .ne 8, 3) := by decide +kernel
theorem dX9_right_11 : decode cX9_right 11 = .ok (.aload_n 0, 1) := by decide +kernel
theorem dX9_right_12 : decode cX9_right 12 = .ok (.iload_n 2, 1) := by decide +kernel
theorem dX9_right_13 : decode cX9_right 13 = .ok (.putfield 111, 3) := by decide +kernel
theorem dX9_right_16 : decode cX9_right 16 = .ok (.aload_n 0, 1) := by decide +kernel
theorem dX9_right_17 : decode cX9_right 17 = .ok (.getfield 111, 3) := by decide +kernel
theorem dX9_right_20 : decode cX9_right 20 = .ok (.ifCond .ne 7, 3) := by decide +kernel
theorem dX9_right_23 : decode cX9_right 23 = .ok (.iconst 1, 1) := by decide +kernel
theorem dX9_right_24 : decode cX9_right 24 = .ok (.goto 4, 3) := by decide +kernel
theorem dX9_right_27 : decode cX9_right 27 = .ok (.iconst 0, 1) := by decide +kernel
theorem dX9_right_28 : decode cX9_right 28 = .ok (.ireturn, 1) := by decide +kernel
theorem dX9_within_0 : decode cX9_within 0 = .ok (.iload_n 0, 1) := by decide +kernel
theorem dX9_within_1 : decode cX9_within 1 = .ok (.iload_n 1, 1) := by decide +kernel
theorem dX9_within_2 : decode cX9_within 2 = .ok (.if_icmp .lt 12, 3) := by decide +kernel
theorem dX9_within_5 : decode cX9_within 5 = .ok (.iload_n 0, 1) := by decide +kernel
theorem dX9_within_6 : decode cX9_within 6 = .ok (.iload_n 2, 1) := by decide +kernel
theorem dX9_within_7 : decode cX9_within 7 = .ok (.if_icmp .gt 7, 3) := by decide +kernel
theorem dX9_within_10 : decode cX9_within 10 = .ok (.iconst 1, 1) := by decide +kernel
theorem dX9_within_11 : decode cX9_within 11 = .ok (.goto 4, 3) := by decide +kernel
theorem dX9_within_14 : decode cX9_within 14 = .ok (.iconst 0, 1) := by decide +kernel
theorem dX9_within_15 : decode cX9_within 15 = .ok (.ireturn, 1) := by decide +kernel
theorem dX9_bounded_0 : decode cX9_bounded 0 = .ok (.iload_n 0, 1) := by decide +kernel
theorem dX9_bounded_1 : decode cX9_bounded 1 = .ok (.iload_n 1, 1) := by decide +kernel
theorem dX9_bounded_2 : decode cX9_bounded 2 = .ok (.if_icmp .ge 7, 3) := by decide +kernel
theorem dX9_bounded_5 : decode cX9_bounded 5 = .ok (.iload_n 1, 1) := by decide +kernel
theorem dX9_bounded_6 : decode cX9_bounded 6 = .ok (.goto 13, 3) := by decide +kernel
theorem dX9_bounded_9 : decode cX9_bounded 9 = .ok (.iload_n 0, 1) := by decide +kernel
theorem dX9_bounded_10 : decode cX9_bounded 10 = .ok (.iload_n 2, 1) := by decide +kernel
theorem dX9_bounded_11 : decode cX9_bounded 11 = .ok (.if_icmp .le 7, 3) := by decide +kernel
theorem dX9_bounded_14 : decode cX9_bounded 14 = .ok (.iload_n 2, 1) := by decide +kernel
theorem dX9_bounded_15 : decode cX9_bounded 15 = .ok (.goto 4, 3) := by decide +kernel
theorem dX9_bounded_18 : decode cX9_bounded 18 = .ok (.iload_n 0, 1) := by decide +kernel
theorem dX9_bounded_19 : decode cX9_bounded 19 = .ok (.ireturn, 1) := by decide +kernel
theorem dX9_lesser_0 : decode cX9_lesser 0 = .ok (.iload_n 0, 1) := by decide +kernel
theorem dX9_lesser_1 : decode cX9_lesser 1 = .ok (.iload_n 1, 1) := by decide +kernel
theorem dX9_lesser_2 : decode cX9_lesser 2 = .ok (.if_icmp .ge 7, 3) := by decide +kernel
theorem dX9_lesser_5 : decode cX9_lesser 5 = .ok (.iload_n 0, 1) := by decide +kernel
theorem dX9_lesser_6 : decode cX9_lesser 6 = .ok (.goto 4, 3) := by decide +kernel
theorem dX9_lesser_9 : decode cX9_lesser 9 = .ok (.iload_n 1, 1) := by decide +kernel
theorem dX9_lesser_10 : decode cX9_lesser 10 = .ok (.ireturn, 1) := by decide +kernel
theorem dX9_off_0 : decode cX9_off 0 = .ok (.iload_n 0, 1) := by decide +kernel
theorem dX9_off_1 : decode cX9_off 1 = .ok (.iload_n 1, 1) := by decide +kernel
theorem dX9_off_2 : decode cX9_off 2 = .ok (.if_icmp .ge 9, 3) := by decide +kernel
theorem dX9_off_5 : decode cX9_off 5 = .ok (.iload_n 1, 1) := by decide +kernel
theorem dX9_off_6 : decode cX9_off 6 = .ok (.iload_n 0, 1) := by decide +kernel
theorem dX9_off_7 : decode cX9_off 7 = .ok (.isub, 1) := by decide +kernel
theorem dX9_off_8 : decode cX9_off 8 = .ok (.goto 6, 3) := by decide +kernel
theorem dX9_off_11 : decode cX9_off 11 = .ok (.iload_n 0, 1) := by decide +kernel
theorem dX9_off_12 : decode cX9_off 12 = .ok (.iload_n 1, 1) := by decide +kernel
theorem dX9_off_13 : decode cX9_off 13 = .ok (.isub, 1) := by decide +kernel
theorem dX9_off_14 : decode cX9_off 14 = .ok (.ireturn, 1) := by decide +kernel
theorem dX9_copies_0 : decode cX9_copies 0 = .ok (.iconst 0, 1) := by decide +kernel
theorem dX9_copies_1 : decode cX9_copies 1 = .ok (.istore_n 3, 1) := by decide +kernel
theorem dX9_copies_2 : decode cX9_copies 2 = .ok (.iload_n 3, 1) := by decide +kernel
theorem dX9_copies_3 : decode cX9_copies 3 = .ok (.aload_n 1, 1) := by decide +kernel
theorem dX9_copies_4 : decode cX9_copies 4 = .ok (.arraylength, 1) := by decide +kernel
theorem dX9_copies_5 : decode cX9_copies 5 = .ok (.if_icmp .ge 15, 3) := by decide +kernel
theorem dX9_copies_8 : decode cX9_copies 8 = .ok (.aload_n 2, 1) := by decide +kernel
theorem dX9_copies_9 : decode cX9_copies 9 = .ok (.iload_n 3, 1) := by decide +kernel
theorem dX9_copies_10 : decode cX9_copies 10 = .ok (.aload_n 1, 1) := by decide +kernel
theorem dX9_copies_11 : decode cX9_copies 11 = .ok (.iload_n 3, 1) := by decide +kernel
theorem dX9_copies_12 : decode cX9_copies 12 = .ok (.iaload, 1) := by decide +kernel
theorem dX9_copies_13 : decode cX9_copies 13 = .ok (.iastore, 1) := by decide +kernel
theorem dX9_copies_14 : decode cX9_copies 14 = .ok (.iinc 3 1, 3) := by decide +kernel
theorem dX9_copies_17 : decode cX9_copies 17 = .ok (.goto (-15), 3) := by decide +kernel
theorem dX9_copies_20 : decode cX9_copies 20 = .ok (.return_, 1) := by decide +kernel
theorem dX9_bits_0 : decode cX9_bits 0 = .ok (.iconst 0, 1) := by decide +kernel
theorem dX9_bits_1 : decode cX9_bits 1 = .ok (.istore_n 1, 1) := by decide +kernel
theorem dX9_bits_2 : decode cX9_bits 2 = .ok (.iconst 0, 1) := by decide +kernel
theorem dX9_bits_3 : decode cX9_bits 3 = .ok (.istore_n 2, 1) := by decide +kernel
theorem dX9_bits_4 : decode cX9_bits 4 = .ok (.iload_n 2, 1) := by decide +kernel
theorem dX9_bits_5 : decode cX9_bits 5 = .ok (.bipush 8, 2) := by decide +kernel
theorem dX9_bits_7 : decode cX9_bits 7 = .ok (.if_icmp .ge 17, 3) := by decide +kernel
theorem dX9_bits_10 : decode cX9_bits 10 = .ok (.iload_n 1, 1) := by decide +kernel
theorem dX9_bits_11 : decode cX9_bits 11 = .ok (.iload_n 0, 1) := by decide +kernel
theorem dX9_bits_12 : decode cX9_bits 12 = .ok (.iload_n 2, 1) := by decide +kernel
theorem dX9_bits_13 : decode cX9_bits 13 = .ok (.ishr, 1) := by decide +kernel
theorem dX9_bits_14 : decode cX9_bits 14 = .ok (.iconst 1, 1) := by decide +kernel
theorem dX9_bits_15 : decode cX9_bits 15 = .ok (.iand, 1) := by decide +kernel
theorem dX9_bits_16 : decode cX9_bits 16 = .ok (.iadd, 1) := by decide +kernel
theorem dX9_bits_17 : decode cX9_bits 17 = .ok (.istore_n 1, 1) := by decide +kernel
theorem dX9_bits_18 : decode cX9_bits 18 = .ok (.iinc 2 1, 3) := by decide +kernel
theorem dX9_bits_21 : decode cX9_bits 21 = .ok (.goto (-17), 3) := by decide +kernel
theorem dX9_bits_24 : decode cX9_bits 24 = .ok (.iload_n 1, 1) := by decide +kernel
theorem dX9_bits_25 : decode cX9_bits 25 = .ok (.ireturn, 1) := by decide +kernel
theorem dX9_feed_0 : decode cX9_feed 0 = .ok (.aload_n 0, 1) := by decide +kernel
theorem dX9_feed_1 : decode cX9_feed 1 = .ok (.iconst 0, 1) := by decide +kernel
theorem dX9_feed_2 : decode cX9_feed 2 = .ok (.putfield 111, 3) := by decide +kernel
theorem dX9_feed_5 : decode cX9_feed 5 = .ok (.aload_n 0, 1) := by decide +kernel
theorem dX9_feed_6 : decode cX9_feed 6 = .ok (.getfield 114, 3) := by decide +kernel
theorem dX9_feed_9 : decode cX9_feed 9 = .ok (.bipush 20, 2) := by decide +kernel
theorem dX9_feed_11 : decode cX9_feed 11 = .ok (.iadd, 1) := by decide +kernel
theorem dX9_feed_12 : decode cX9_feed 12 = .ok (.sipush 700, 3) := by decide +kernel
theorem dX9_feed_15 : decode cX9_feed 15 = .ok (.if_icmp .le 5, 3) := by decide +kernel
theorem dX9_feed_18 : decode cX9_feed 18 = .ok (.iconst (-1), 1) := by decide +kernel
theorem dX9_feed_19 : decode cX9_feed 19 = .ok (.ireturn, 1) := by decide +kernel
theorem dX9_feed_20 : decode cX9_feed 20 = .ok (.aload_n 0, 1) := by decide +kernel
theorem dX9_feed_21 : decode cX9_feed 21 = .ok (.iload_n 1, 1) := by decide +kernel
theorem dX9_feed_22 : decode cX9_feed 22 = .ok (.invokevirtual 117, 3) := by decide +kernel
theorem dX9_feed_25 : decode cX9_feed 25 = .ok (.aload_n 0, 1) := by decide +kernel
theorem dX9_feed_26 : decode cX9_feed 26 = .ok (.iload_n 2, 1) := by decide +kernel
theorem dX9_feed_27 : decode cX9_feed 27 = .ok (.invokevirtual 117, 3) := by decide +kernel
theorem dX9_feed_30 : decode cX9_feed 30 = .ok (.aload_n 0, 1) := by decide +kernel
theorem dX9_feed_31 : decode cX9_feed 31 = .ok (.iload_n 3, 1) := by decide +kernel
theorem dX9_feed_32 : decode cX9_feed 32 = .ok (.invokevirtual 117, 3) := by decide +kernel
theorem dX9_feed_35 : decode cX9_feed 35 = .ok (.aload_n 0, 1) := by decide +kernel
theorem dX9_feed_36 : decode cX9_feed 36 = .ok (.iload 4, 2) := by decide +kernel
theorem dX9_feed_38 : decode cX9_feed 38 = .ok (.invokevirtual 117, 3) := by decide +kernel
theorem dX9_feed_41 : decode cX9_feed 41 = .ok (.aload_n 0, 1) := by decide +kernel
theorem dX9_feed_42 : decode cX9_feed 42 = .ok (.iload 5, 2) := by decide +kernel
theorem dX9_feed_44 : decode cX9_feed 44 = .ok (.invokevirtual 117, 3) := by decide +kernel
theorem dX9_feed_47 : decode cX9_feed 47 = .ok (.aload_n 0, 1) := by decide +kernel
theorem dX9_feed_48 : decode cX9_feed 48 = .ok (.getfield 114, 3) := by decide +kernel
theorem dX9_feed_51 : decode cX9_feed 51 = .ok (.ireturn, 1) := by decide +kernel
theorem dX9_lays_0 : decode cX9_lays 0 = .ok (.bipush 24, 2) := by decide +kernel
theorem dX9_lays_2 : decode cX9_lays 2 = .ok (.istore_n 2, 1) := by decide +kernel
theorem dX9_lays_3 : decode cX9_lays 3 = .ok (.iload_n 2, 1) := by decide +kernel
theorem dX9_lays_4 : decode cX9_lays 4 = .ok (.ifCond .lt 35, 3) := by decide +kernel
theorem dX9_lays_7 : decode cX9_lays 7 = .ok (.aload_n 0, 1) := by decide +kernel
theorem dX9_lays_8 : decode cX9_lays 8 = .ok (.getfield 32, 3) := by decide +kernel
theorem dX9_lays_11 : decode cX9_lays 11 = .ok (.aload_n 0, 1) := by decide +kernel
theorem dX9_lays_12 : decode cX9_lays 12 = .ok (.getfield 114, 3) := by decide +kernel
theorem dX9_lays_15 : decode cX9_lays 15 = .ok (.iload_n 1, 1) := by decide +kernel
theorem dX9_lays_16 : decode cX9_lays 16 = .ok (.iload_n 2, 1) := by decide +kernel
theorem dX9_lays_17 : decode cX9_lays 17 = .ok (.ishr, 1) := by decide +kernel
theorem dX9_lays_18 : decode cX9_lays 18 = .ok (.sipush 255, 3) := by decide +kernel
theorem dX9_lays_21 : decode cX9_lays 21 = .ok (.iand, 1) := by decide +kernel
theorem dX9_lays_22 : decode cX9_lays 22 = .ok (.iastore, 1) := by decide +kernel
theorem dX9_lays_23 : decode cX9_lays 23 = .ok (.aload_n 0, 1) := by decide +kernel
theorem dX9_lays_24 : decode cX9_lays 24 = .ok (.dup, 1) := by decide +kernel
theorem dX9_lays_25 : decode cX9_lays 25 = .ok (.getfield 114, 3) := by decide +kernel
theorem dX9_lays_28 : decode cX9_lays 28 = .ok (.iconst 1, 1) := by decide +kernel
theorem dX9_lays_29 : decode cX9_lays 29 = .ok (.iadd, 1) := by decide +kernel
theorem dX9_lays_30 : decode cX9_lays 30 = .ok (.putfield 114, 3) := by decide +kernel
theorem dX9_lays_33 : decode cX9_lays 33 = .ok (.iinc 2 (-8), 3) := by decide +kernel
theorem dX9_lays_36 : decode cX9_lays 36 = .ok (.goto (-33), 3) := by decide +kernel
theorem dX9_lays_39 : decode cX9_lays 39 = .ok (.return_, 1) := by decide +kernel
theorem dX9_byteAt_0 : decode cX9_byteAt 0 = .ok (.iload_n 1, 1) := by decide +kernel
theorem dX9_byteAt_1 : decode cX9_byteAt 1 = .ok (.aload_n 0, 1) := by decide +kernel
theorem dX9_byteAt_2 : decode cX9_byteAt 2 = .ok (.getfield 121, 3) := by decide +kernel
theorem dX9_byteAt_5 : decode cX9_byteAt 5 = .ok (.if_icmp .ge 12, 3) := by decide +kernel
theorem dX9_byteAt_8 : decode cX9_byteAt 8 = .ok (.aload_n 0, 1) := by decide +kernel
theorem dX9_byteAt_9 : decode cX9_byteAt 9 = .ok (.getfield 32, 3) := by decide +kernel
theorem dX9_byteAt_12 : decode cX9_byteAt 12 = .ok (.iload_n 1, 1) := by decide +kernel
theorem dX9_byteAt_13 : decode cX9_byteAt 13 = .ok (.iaload, 1) := by decide +kernel
theorem dX9_byteAt_14 : decode cX9_byteAt 14 = .ok (.goto 4, 3) := by decide +kernel
theorem dX9_byteAt_17 : decode cX9_byteAt 17 = .ok (.iconst 0, 1) := by decide +kernel
theorem dX9_byteAt_18 : decode cX9_byteAt 18 = .ok (.ireturn, 1) := by decide +kernel
theorem dX9_isLetter_0 : decode cX9_isLetter 0 = .ok (.iload_n 0, 1) := by decide +kernel
theorem dX9_isLetter_1 : decode cX9_isLetter 1 = .ok (.bipush 97, 2) := by decide +kernel
theorem dX9_isLetter_3 : decode cX9_isLetter 3 = .ok (.if_icmp .lt 13, 3) := by decide +kernel
theorem dX9_isLetter_6 : decode cX9_isLetter 6 = .ok (.iload_n 0, 1) := by decide +kernel
theorem dX9_isLetter_7 : decode cX9_isLetter 7 = .ok (.bipush 122, 2) := by decide +kernel
theorem dX9_isLetter_9 : decode cX9_isLetter 9 = .ok (.if_icmp .gt 7, 3) := by decide +kernel
theorem dX9_isLetter_12 : decode cX9_isLetter 12 = .ok (.iconst 1, 1) := by decide +kernel
theorem dX9_isLetter_13 : decode cX9_isLetter 13 = .ok (.goto 4, 3) := by decide +kernel
theorem dX9_isLetter_16 : decode cX9_isLetter 16 = .ok (.iconst 0, 1) := by decide +kernel
theorem dX9_isLetter_17 : decode cX9_isLetter 17 = .ok (.ireturn, 1) := by decide +kernel
theorem dX9_isDigit_0 : decode cX9_isDigit 0 = .ok (.iload_n 0, 1) := by decide +kernel
theorem dX9_isDigit_1 : decode cX9_isDigit 1 = .ok (.bipush 48, 2) := by decide +kernel
theorem dX9_isDigit_3 : decode cX9_isDigit 3 = .ok (.if_icmp .lt 13, 3) := by decide +kernel
theorem dX9_isDigit_6 : decode cX9_isDigit 6 = .ok (.iload_n 0, 1) := by decide +kernel
theorem dX9_isDigit_7 : decode cX9_isDigit 7 = .ok (.bipush 57, 2) := by decide +kernel
theorem dX9_isDigit_9 : decode cX9_isDigit 9 = .ok (.if_icmp .gt 7, 3) := by decide +kernel
theorem dX9_isDigit_12 : decode cX9_isDigit 12 = .ok (.iconst 1, 1) := by decide +kernel
theorem dX9_isDigit_13 : decode cX9_isDigit 13 = .ok (.goto 4, 3) := by decide +kernel
theorem dX9_isDigit_16 : decode cX9_isDigit 16 = .ok (.iconst 0, 1) := by decide +kernel
theorem dX9_isDigit_17 : decode cX9_isDigit 17 = .ok (.ireturn, 1) := by decide +kernel
theorem dX9_takes_0 : decode cX9_takes 0 = .ok (.aload_n 0, 1) := by decide +kernel
theorem dX9_takes_1 : decode cX9_takes 1 = .ok (.getfield 124, 3) := by decide +kernel
theorem dX9_takes_4 : decode cX9_takes 4 = .ok (.aload_n 0, 1) := by decide +kernel
theorem dX9_takes_5 : decode cX9_takes 5 = .ok (.getfield 121, 3) := by decide +kernel
theorem dX9_takes_8 : decode cX9_takes 8 = .ok (.if_icmp .ge 42, 3) := by decide +kernel
theorem dX9_takes_11 : decode cX9_takes 11 = .ok (.aload_n 0, 1) := by decide +kernel
theorem dX9_takes_12 : decode cX9_takes 12 = .ok (.aload_n 0, 1) := by decide +kernel
theorem dX9_takes_13 : decode cX9_takes 13 = .ok (.getfield 124, 3) := by decide +kernel
theorem dX9_takes_16 : decode cX9_takes 16 = .ok (.invokevirtual 127, 3) := by decide +kernel
theorem dX9_takes_19 : decode cX9_takes 19 = .ok (.bipush 32, 2) := by decide +kernel
theorem dX9_takes_21 : decode cX9_takes 21 = .ok (.if_icmp .eq 16, 3) := by decide +kernel
theorem dX9_takes_24 : decode cX9_takes 24 = .ok (.aload_n 0, 1) := by decide +kernel
theorem dX9_takes_25 : decode cX9_takes 25 = .ok (.aload_n 0, 1) := by decide +kernel
theorem dX9_takes_26 : decode cX9_takes 26 = .ok (.getfield 124, 3) := by decide +kernel
theorem dX9_takes_29 : decode cX9_takes 29 = .ok (.invokevirtual 127, 3) := by decide +kernel
theorem dX9_takes_32 : decode cX9_takes 32 = .ok (.bipush 10, 2) := by decide +kernel
theorem dX9_takes_34 : decode cX9_takes 34 = .ok (.if_icmp .ne 16, 3) := by decide +kernel
theorem dX9_takes_37 : decode cX9_takes 37 = .ok (.aload_n 0, 1) := by decide +kernel
theorem dX9_takes_38 : decode cX9_takes 38 = .ok (.dup, 1) := by decide +kernel
theorem dX9_takes_39 : decode cX9_takes 39 = .ok (.getfield 124, 3) := by decide +kernel
theorem dX9_takes_42 : decode cX9_takes 42 = .ok (.iconst 1, 1) := by decide +kernel
theorem dX9_takes_43 : decode cX9_takes 43 = .ok (.iadd, 1) := by decide +kernel
theorem dX9_takes_44 : decode cX9_takes 44 = .ok (.putfield 124, 3) := by decide +kernel
theorem dX9_takes_47 : decode cX9_takes 47 = .ok (.goto (-47), 3) := by decide +kernel
theorem dX9_takes_50 : decode cX9_takes 50 = .ok (.aload_n 0, 1) := by decide +kernel
theorem dX9_takes_51 : decode cX9_takes 51 = .ok (.aload_n 0, 1) := by decide +kernel
theorem dX9_takes_52 : decode cX9_takes 52 = .ok (.getfield 124, 3) := by decide +kernel
theorem dX9_takes_55 : decode cX9_takes 55 = .ok (.putfield 131, 3) := by decide +kernel
theorem dX9_takes_58 : decode cX9_takes 58 = .ok (.aload_n 0, 1) := by decide +kernel
theorem dX9_takes_59 : decode cX9_takes 59 = .ok (.lconst 0, 1) := by decide +kernel
theorem dX9_takes_60 : decode cX9_takes 60 = .ok (.putfield 134, 3) := by decide +kernel
theorem dX9_takes_63 : decode cX9_takes 63 = .ok (.aload_n 0, 1) := by decide +kernel
theorem dX9_takes_64 : decode cX9_takes 64 = .ok (.iconst 0, 1) := by decide +kernel
theorem dX9_takes_65 : decode cX9_takes 65 = .ok (.putfield 138, 3) := by decide +kernel
theorem dX9_takes_68 : decode cX9_takes 68 = .ok (.aload_n 0, 1) := by decide +kernel
theorem dX9_takes_69 : decode cX9_takes 69 = .ok (.aload_n 0, 1) := by decide +kernel
theorem dX9_takes_70 : decode cX9_takes 70 = .ok (.getfield 124, 3) := by decide +kernel
theorem dX9_takes_73 : decode cX9_takes 73 = .ok (.invokevirtual 127, 3) := by decide +kernel
theorem dX9_takes_76 : decode cX9_takes 76 = .ok (.istore_n 1, 1) := by decide +kernel
theorem dX9_takes_77 : decode cX9_takes 77 = .ok (.aload_n 0, 1) := by decide +kernel
theorem dX9_takes_78 : decode cX9_takes 78 = .ok (.iload_n 1, 1) := by decide +kernel
theorem dX9_takes_79 : decode cX9_takes 79 = .ok (.putfield 141, 3) := by decide +kernel
theorem dX9_takes_82 : decode cX9_takes 82 = .ok (.aload_n 0, 1) := by decide +kernel
theorem dX9_takes_83 : decode cX9_takes 83 = .ok (.getfield 124, 3) := by decide +kernel
theorem dX9_takes_86 : decode cX9_takes 86 = .ok (.aload_n 0, 1) := by decide +kernel
theorem dX9_takes_87 : decode cX9_takes 87 = .ok (.getfield 121, 3) := by decide +kernel
theorem dX9_takes_90 : decode cX9_takes 90 = .ok (.if_icmp .lt 11, 3) := by decide +kernel
theorem dX9_takes_93 : decode cX9_takes 93 = .ok (.aload_n 0, 1) := by decide +kernel
theorem dX9_takes_94 : decode cX9_takes 94 = .ok (.iconst 0, 1) := by decide +kernel
theorem dX9_takes_95 : decode cX9_takes 95 = .ok (.putfield 144, 3) := by decide +kernel
theorem dX9_takes_98 : decode cX9_takes 98 = .ok (.goto 233, 3) := by decide +kernel
theorem dX9_takes_101 : decode cX9_takes 101 = .ok (.iload_n 1, 1) := by decide +kernel
theorem dX9_takes_102 : decode cX9_takes 102 = .ok (.invokestatic 147, 3) := by decide +kernel
theorem dX9_takes_105 : decode cX9_takes 105 = .ok (.ifCond .eq 75, 3) := by decide +kernel
theorem dX9_takes_108 : decode cX9_takes 108 = .ok (.aload_n 0, 1) := by decide +kernel
theorem dX9_takes_109 : decode cX9_takes 109 = .ok (.aload_n 0, 1) := by decide +kernel
theorem dX9_takes_110 : decode cX9_takes 110 = .ok (.getfield 124, 3) := by decide +kernel
theorem dX9_takes_113 : decode cX9_takes 113 = .ok (.invokevirtual 127, 3) := by decide +kernel
theorem dX9_takes_116 : decode cX9_takes 116 = .ok (.invokestatic 147, 3) := by decide +kernel
theorem dX9_takes_119 : decode cX9_takes 119 = .ok (.ifCond .eq 53, 3) := by decide +kernel
theorem dX9_takes_122 : decode cX9_takes 122 = .ok (.aload_n 0, 1) := by decide +kernel
theorem dX9_takes_123 : decode cX9_takes 123 = .ok (.getfield 124, 3) := by decide +kernel
theorem dX9_takes_126 : decode cX9_takes 126 = .ok (.aload_n 0, 1) := by decide +kernel
theorem dX9_takes_127 : decode cX9_takes 127 = .ok (.getfield 131, 3) := by decide +kernel
theorem dX9_takes_130 : decode cX9_takes 130 = .ok (.isub, 1) := by decide +kernel
theorem dX9_takes_131 : decode cX9_takes 131 = .ok (.bipush 6, 2) := by decide +kernel
theorem dX9_takes_133 : decode cX9_takes 133 = .ok (.if_icmp .ge 26, 3) := by decide +kernel
theorem dX9_takes_136 : decode cX9_takes 136 = .ok (.aload_n 0, 1) := by decide +kernel
theorem dX9_takes_137 : decode cX9_takes 137 = .ok (.aload_n 0, 1) := by decide +kernel
theorem dX9_takes_138 : decode cX9_takes 138 = .ok (.getfield 134, 3) := by decide +kernel
theorem dX9_takes_141 : decode cX9_takes 141 = .ok (.iconst 5, 1) := by decide +kernel
theorem dX9_takes_142 : decode cX9_takes 142 = .ok (.lshl, 1) := by decide +kernel
theorem dX9_takes_143 : decode cX9_takes 143 = .ok (.aload_n 0, 1) := by decide +kernel
theorem dX9_takes_144 : decode cX9_takes 144 = .ok (.aload_n 0, 1) := by decide +kernel
theorem dX9_takes_145 : decode cX9_takes 145 = .ok (.getfield 124, 3) := by decide +kernel
theorem dX9_takes_148 : decode cX9_takes 148 = .ok (.invokevirtual 127, 3) := by decide +kernel
theorem dX9_takes_151 : decode cX9_takes 151 = .ok (.bipush 96, 2) := by decide +kernel
theorem dX9_takes_153 : decode cX9_takes 153 = .ok (.isub, 1) := by decide +kernel
theorem dX9_takes_154 : decode cX9_takes 154 = .ok (.i2l, 1) := by decide +kernel
theorem dX9_takes_155 : decode cX9_takes 155 = .ok (.lor, 1) := by decide +kernel
theorem dX9_takes_156 : decode cX9_takes 156 = .ok (.putfield 134, 3) := by decide +kernel
theorem dX9_takes_159 : decode cX9_takes 159 = .ok (.aload_n 0, 1) := by decide +kernel
theorem dX9_takes_160 : decode cX9_takes 160 = .ok (.dup, 1) := by decide +kernel
theorem dX9_takes_161 : decode cX9_takes 161 = .ok (.getfield 124, 3) := by decide +kernel
theorem dX9_takes_164 : decode cX9_takes 164 = .ok (.iconst 1, 1) := by decide +kernel
theorem dX9_takes_165 : decode cX9_takes 165 = .ok (.iadd, 1) := by decide +kernel
theorem dX9_takes_166 : decode cX9_takes 166 = .ok (.putfield 124, 3) := by decide +kernel
theorem dX9_takes_169 : decode cX9_takes 169 = .ok (.goto (-61), 3) := by decide +kernel
theorem dX9_takes_172 : decode cX9_takes 172 = .ok (.aload_n 0, 1) := by decide +kernel
theorem dX9_takes_173 : decode cX9_takes 173 = .ok (.iconst 1, 1) := by decide +kernel
theorem dX9_takes_174 : decode cX9_takes 174 = .ok (.putfield 144, 3) := by decide +kernel
theorem dX9_takes_177 : decode cX9_takes 177 = .ok (.goto 154, 3) := by decide +kernel
theorem dX9_takes_180 : decode cX9_takes 180 = .ok (.iload_n 1, 1) := by decide +kernel
theorem dX9_takes_181 : decode cX9_takes 181 = .ok (.invokestatic 151, 3) := by decide +kernel
theorem dX9_takes_184 : decode cX9_takes 184 = .ok (.ifCond .eq 74, 3) := by decide +kernel
theorem dX9_takes_187 : decode cX9_takes 187 = .ok (.aload_n 0, 1) := by decide +kernel
theorem dX9_takes_188 : decode cX9_takes 188 = .ok (.aload_n 0, 1) := by decide +kernel
theorem dX9_takes_189 : decode cX9_takes 189 = .ok (.getfield 124, 3) := by decide +kernel
theorem dX9_takes_192 : decode cX9_takes 192 = .ok (.invokevirtual 127, 3) := by decide +kernel
theorem dX9_takes_195 : decode cX9_takes 195 = .ok (.invokestatic 151, 3) := by decide +kernel
theorem dX9_takes_198 : decode cX9_takes 198 = .ok (.ifCond .eq 52, 3) := by decide +kernel
theorem dX9_takes_201 : decode cX9_takes 201 = .ok (.aload_n 0, 1) := by decide +kernel
theorem dX9_takes_202 : decode cX9_takes 202 = .ok (.getfield 124, 3) := by decide +kernel
theorem dX9_takes_205 : decode cX9_takes 205 = .ok (.aload_n 0, 1) := by decide +kernel
theorem dX9_takes_206 : decode cX9_takes 206 = .ok (.getfield 131, 3) := by decide +kernel
theorem dX9_takes_209 : decode cX9_takes 209 = .ok (.isub, 1) := by decide +kernel
theorem dX9_takes_210 : decode cX9_takes 210 = .ok (.iconst 4, 1) := by decide +kernel
theorem dX9_takes_211 : decode cX9_takes 211 = .ok (.if_icmp .ge 26, 3) := by decide +kernel
theorem dX9_takes_214 : decode cX9_takes 214 = .ok (.aload_n 0, 1) := by decide +kernel
theorem dX9_takes_215 : decode cX9_takes 215 = .ok (.bipush 10, 2) := by decide +kernel
theorem dX9_takes_217 : decode cX9_takes 217 = .ok (.aload_n 0, 1) := by decide +kernel
theorem dX9_takes_218 : decode cX9_takes 218 = .ok (.getfield 138, 3) := by decide +kernel
theorem dX9_takes_221 : decode cX9_takes 221 = .ok (.imul, 1) := by decide +kernel
theorem dX9_takes_222 : decode cX9_takes 222 = .ok (.aload_n 0, 1) := by decide +kernel
theorem dX9_takes_223 : decode cX9_takes 223 = .ok (.aload_n 0, 1) := by decide +kernel
theorem dX9_takes_224 : decode cX9_takes 224 = .ok (.getfield 124, 3) := by decide +kernel
theorem dX9_takes_227 : decode cX9_takes 227 = .ok (.invokevirtual 127, 3) := by decide +kernel
theorem dX9_takes_230 : decode cX9_takes 230 = .ok (.iadd, 1) := by decide +kernel
theorem dX9_takes_231 : decode cX9_takes 231 = .ok (.bipush 48, 2) := by decide +kernel
theorem dX9_takes_233 : decode cX9_takes 233 = .ok (.isub, 1) := by decide +kernel
theorem dX9_takes_234 : decode cX9_takes 234 = .ok (.putfield 138, 3) := by decide +kernel
theorem dX9_takes_237 : decode cX9_takes 237 = .ok (.aload_n 0, 1) := by decide +kernel
theorem dX9_takes_238 : decode cX9_takes 238 = .ok (.dup, 1) := by decide +kernel
theorem dX9_takes_239 : decode cX9_takes 239 = .ok (.getfield 124, 3) := by decide +kernel
theorem dX9_takes_242 : decode cX9_takes 242 = .ok (.iconst 1, 1) := by decide +kernel
theorem dX9_takes_243 : decode cX9_takes 243 = .ok (.iadd, 1) := by decide +kernel
theorem dX9_takes_244 : decode cX9_takes 244 = .ok (.putfield 124, 3) := by decide +kernel
theorem dX9_takes_247 : decode cX9_takes 247 = .ok (.goto (-60), 3) := by decide +kernel
theorem dX9_takes_250 : decode cX9_takes 250 = .ok (.aload_n 0, 1) := by decide +kernel
theorem dX9_takes_251 : decode cX9_takes 251 = .ok (.iconst 2, 1) := by decide +kernel
theorem dX9_takes_252 : decode cX9_takes 252 = .ok (.putfield 144, 3) := by decide +kernel
theorem dX9_takes_255 : decode cX9_takes 255 = .ok (.goto 76, 3) := by decide +kernel
theorem dX9_takes_258 : decode cX9_takes 258 = .ok (.aload_n 0, 1) := by decide +kernel
theorem dX9_takes_259 : decode cX9_takes 259 = .ok (.dup, 1) := by decide +kernel
theorem dX9_takes_260 : decode cX9_takes 260 = .ok (.getfield 124, 3) := by decide +kernel
theorem dX9_takes_263 : decode cX9_takes 263 = .ok (.iconst 1, 1) := by decide +kernel
theorem dX9_takes_264 : decode cX9_takes 264 = .ok (.iadd, 1) := by decide +kernel
theorem dX9_takes_265 : decode cX9_takes 265 = .ok (.putfield 124, 3) := by decide +kernel
theorem dX9_takes_268 : decode cX9_takes 268 = .ok (.aload_n 0, 1) := by decide +kernel
theorem dX9_takes_269 : decode cX9_takes 269 = .ok (.iload_n 1, 1) := by decide +kernel
theorem dX9_takes_270 : decode cX9_takes 270 = .ok (.bipush 59, 2) := by decide +kernel
theorem dX9_takes_272 : decode cX9_takes 272 = .ok (.if_icmp .eq 51, 3) := by decide +kernel
theorem dX9_takes_275 : decode cX9_takes 275 = .ok (.iload_n 1, 1) := by decide +kernel
theorem dX9_takes_276 : decode cX9_takes 276 = .ok (.bipush 40, 2) := by decide +kernel
theorem dX9_takes_278 : decode cX9_takes 278 = .ok (.if_icmp .eq 45, 3) := by decide +kernel
theorem dX9_takes_281 : decode cX9_takes 281 = .ok (.iload_n 1, 1) := by decide +kernel
theorem dX9_takes_282 : decode cX9_takes 282 = .ok (.bipush 41, 2) := by decide +kernel
theorem dX9_takes_284 : decode cX9_takes 284 = .ok (.if_icmp .eq 39, 3) := by decide +kernel
theorem dX9_takes_287 : decode cX9_takes 287 = .ok (.iload_n 1, 1) := by decide +kernel
theorem dX9_takes_288 : decode cX9_takes 288 = .ok (.bipush 43, 2) := by decide +kernel
theorem dX9_takes_290 : decode cX9_takes 290 = .ok (.if_icmp .eq 33, 3) := by decide +kernel
theorem dX9_takes_293 : decode cX9_takes 293 = .ok (.iload_n 1, 1) := by decide +kernel
theorem dX9_takes_294 : decode cX9_takes 294 = .ok (.bipush 45, 2) := by decide +kernel
theorem dX9_takes_296 : decode cX9_takes 296 = .ok (.if_icmp .eq 27, 3) := by decide +kernel
theorem dX9_takes_299 : decode cX9_takes 299 = .ok (.iload_n 1, 1) := by decide +kernel
theorem dX9_takes_300 : decode cX9_takes 300 = .ok (.bipush 42, 2) := by decide +kernel
theorem dX9_takes_302 : decode cX9_takes 302 = .ok (.if_icmp .eq 21, 3) := by decide +kernel
theorem dX9_takes_305 : decode cX9_takes 305 = .ok (.iload_n 1, 1) := by decide +kernel
theorem dX9_takes_306 : decode cX9_takes 306 = .ok (.bipush 47, 2) := by decide +kernel
theorem dX9_takes_308 : decode cX9_takes 308 = .ok (.if_icmp .eq 15, 3) := by decide +kernel
theorem dX9_takes_311 : decode cX9_takes 311 = .ok (.iload_n 1, 1) := by decide +kernel
theorem dX9_takes_312 : decode cX9_takes 312 = .ok (.bipush 60, 2) := by decide +kernel
theorem dX9_takes_314 : decode cX9_takes 314 = .ok (.if_icmp .eq 9, 3) := by decide +kernel
theorem dX9_takes_317 : decode cX9_takes 317 = .ok (.iload_n 1, 1) := by decide +kernel
theorem dX9_takes_318 : decode cX9_takes 318 = .ok (.bipush 61, 2) := by decide +kernel
theorem dX9_takes_320 : decode cX9_takes 320 = .ok (.if_icmp .ne 7, 3) := by decide +kernel
theorem dX9_takes_323 : decode cX9_takes 323 = .ok (.iconst 3, 1) := by decide +kernel
theorem dX9_takes_324 : decode cX9_takes 324 = .ok (.goto 4, 3) := by decide +kernel
theorem dX9_takes_327 : decode cX9_takes 327 = .ok (.iconst 4, 1) := by decide +kernel
theorem dX9_takes_328 : decode cX9_takes 328 = .ok (.putfield 144, 3) := by decide +kernel
theorem dX9_takes_331 : decode cX9_takes 331 = .ok (.aload_n 0, 1) := by decide +kernel
theorem dX9_takes_332 : decode cX9_takes 332 = .ok (.aload_n 0, 1) := by decide +kernel
theorem dX9_takes_333 : decode cX9_takes 333 = .ok (.getfield 124, 3) := by decide +kernel
theorem dX9_takes_336 : decode cX9_takes 336 = .ok (.aload_n 0, 1) := by decide +kernel
theorem dX9_takes_337 : decode cX9_takes 337 = .ok (.getfield 131, 3) := by decide +kernel
theorem dX9_takes_340 : decode cX9_takes 340 = .ok (.isub, 1) := by decide +kernel
theorem dX9_takes_341 : decode cX9_takes 341 = .ok (.putfield 154, 3) := by decide +kernel
theorem dX9_takes_344 : decode cX9_takes 344 = .ok (.return_, 1) := by decide +kernel
theorem dX9_spelled_0 : decode cX9_spelled 0 = .ok (.iload_n 0, 1) := by decide +kernel
theorem dX9_spelled_1 : decode cX9_spelled 1 = .ok (.i2l, 1) := by decide +kernel
theorem dX9_spelled_2 : decode cX9_spelled 2 = .ok (.ldc2_w 157, 3) := by decide +kernel
theorem dX9_spelled_5 : decode cX9_spelled 5 = .ok (.lsub, 1) := by decide +kernel
theorem dX9_spelled_6 : decode cX9_spelled 6 = .ok (.iconst 5, 1) := by decide +kernel
theorem dX9_spelled_7 : decode cX9_spelled 7 = .ok (.lshl, 1) := by decide +kernel
theorem dX9_spelled_8 : decode cX9_spelled 8 = .ok (.iload_n 1, 1) := by decide +kernel
theorem dX9_spelled_9 : decode cX9_spelled 9 = .ok (.bipush 96, 2) := by decide +kernel
theorem dX9_spelled_11 : decode cX9_spelled 11 = .ok (.isub, 1) := by decide +kernel
theorem dX9_spelled_12 : decode cX9_spelled 12 = .ok (.i2l, 1) := by decide +kernel
theorem dX9_spelled_13 : decode cX9_spelled 13 = .ok (.lor, 1) := by decide +kernel
theorem dX9_spelled_14 : decode cX9_spelled 14 = .ok (.lstore 6, 2) := by decide +kernel
theorem dX9_spelled_16 : decode cX9_spelled 16 = .ok (.iload_n 2, 1) := by decide +kernel
theorem dX9_spelled_17 : decode cX9_spelled 17 = .ok (.ifCond .eq 15, 3) := by decide +kernel
theorem dX9_spelled_20 : decode cX9_spelled 20 = .ok (.lload 6, 2) := by decide +kernel
theorem dX9_spelled_22 : decode cX9_spelled 22 = .ok (.iconst 5, 1) := by decide +kernel
theorem dX9_spelled_23 : decode cX9_spelled 23 = .ok (.lshl, 1) := by decide +kernel
theorem dX9_spelled_24 : decode cX9_spelled 24 = .ok (.iload_n 2, 1) := by decide +kernel
theorem dX9_spelled_25 : decode cX9_spelled 25 = .ok (.bipush 96, 2) := by decide +kernel
theorem dX9_spelled_27 : decode cX9_spelled 27 = .ok (.isub, 1) := by decide +kernel
theorem dX9_spelled_28 : decode cX9_spelled 28 = .ok (.i2l, 1) := by decide +kernel
theorem dX9_spelled_29 : decode cX9_spelled 29 = .ok (.lor, 1) := by decide +kernel
theorem dX9_spelled_30 : decode cX9_spelled 30 = .ok (.lstore 6, 2) := by decide +kernel
theorem dX9_spelled_32 : decode cX9_spelled 32 = .ok (.iload_n 3, 1) := by decide +kernel
theorem dX9_spelled_33 : decode cX9_spelled 33 = .ok (.ifCond .eq 15, 3) := by decide +kernel
theorem dX9_spelled_36 : decode cX9_spelled 36 = .ok (.lload 6, 2) := by decide +kernel
theorem dX9_spelled_38 : decode cX9_spelled 38 = .ok (.iconst 5, 1) := by decide +kernel
theorem dX9_spelled_39 : decode cX9_spelled 39 = .ok (.lshl, 1) := by decide +kernel
theorem dX9_spelled_40 : decode cX9_spelled 40 = .ok (.iload_n 3, 1) := by decide +kernel
theorem dX9_spelled_41 : decode cX9_spelled 41 = .ok (.bipush 96, 2) := by decide +kernel
theorem dX9_spelled_43 : decode cX9_spelled 43 = .ok (.isub, 1) := by decide +kernel
theorem dX9_spelled_44 : decode cX9_spelled 44 = .ok (.i2l, 1) := by decide +kernel
theorem dX9_spelled_45 : decode cX9_spelled 45 = .ok (.lor, 1) := by decide +kernel
theorem dX9_spelled_46 : decode cX9_spelled 46 = .ok (.lstore 6, 2) := by decide +kernel
theorem dX9_spelled_48 : decode cX9_spelled 48 = .ok (.iload 4, 2) := by decide +kernel
theorem dX9_spelled_50 : decode cX9_spelled 50 = .ok (.ifCond .eq 16, 3) := by decide +kernel
theorem dX9_spelled_53 : decode cX9_spelled 53 = .ok (.lload 6, 2) := by decide +kernel
theorem dX9_spelled_55 : decode cX9_spelled 55 = .ok (.iconst 5, 1) := by decide +kernel
theorem dX9_spelled_56 : decode cX9_spelled 56 = .ok (.lshl, 1) := by decide +kernel
theorem dX9_spelled_57 : decode cX9_spelled 57 = .ok (.iload 4, 2) := by decide +kernel
theorem dX9_spelled_59 : decode cX9_spelled 59 = .ok (.bipush 96, 2) := by decide +kernel
theorem dX9_spelled_61 : decode cX9_spelled 61 = .ok (.isub, 1) := by decide +kernel
theorem dX9_spelled_62 : decode cX9_spelled 62 = .ok (.i2l, 1) := by decide +kernel
theorem dX9_spelled_63 : decode cX9_spelled 63 = .ok (.lor, 1) := by decide +kernel
theorem dX9_spelled_64 : decode cX9_spelled 64 = .ok (.lstore 6, 2) := by decide +kernel
theorem dX9_spelled_66 : decode cX9_spelled 66 = .ok (.iload 5, 2) := by decide +kernel
theorem dX9_spelled_68 : decode cX9_spelled 68 = .ok (.ifCond .eq 16, 3) := by decide +kernel
theorem dX9_spelled_71 : decode cX9_spelled 71 = .ok (.lload 6, 2) := by decide +kernel
theorem dX9_spelled_73 : decode cX9_spelled 73 = .ok (.iconst 5, 1) := by decide +kernel
theorem dX9_spelled_74 : decode cX9_spelled 74 = .ok (.lshl, 1) := by decide +kernel
theorem dX9_spelled_75 : decode cX9_spelled 75 = .ok (.iload 5, 2) := by decide +kernel
theorem dX9_spelled_77 : decode cX9_spelled 77 = .ok (.bipush 96, 2) := by decide +kernel
theorem dX9_spelled_79 : decode cX9_spelled 79 = .ok (.isub, 1) := by decide +kernel
theorem dX9_spelled_80 : decode cX9_spelled 80 = .ok (.i2l, 1) := by decide +kernel
theorem dX9_spelled_81 : decode cX9_spelled 81 = .ok (.lor, 1) := by decide +kernel
theorem dX9_spelled_82 : decode cX9_spelled 82 = .ok (.lstore 6, 2) := by decide +kernel
theorem dX9_spelled_84 : decode cX9_spelled 84 = .ok (.lload 6, 2) := by decide +kernel
theorem dX9_spelled_86 : decode cX9_spelled 86 = .ok (.lreturn, 1) := by decide +kernel
theorem dX9_letters_0 : decode cX9_letters 0 = .ok (.iload_n 0, 1) := by decide +kernel
theorem dX9_letters_1 : decode cX9_letters 1 = .ok (.tableswitch 268 0 13 #[71, 85, 99, 113, 127, 141, 154, 169, 184, 200, 212, 227, 243, 256], 71) := by decide +kernel
theorem dX9_letters_72 : decode cX9_letters 72 = .ok (.bipush 104, 2) := by decide +kernel
theorem dX9_letters_74 : decode cX9_letters 74 = .ok (.bipush 101, 2) := by decide +kernel
theorem dX9_letters_76 : decode cX9_letters 76 = .ok (.bipush 101, 2) := by decide +kernel
theorem dX9_letters_78 : decode cX9_letters 78 = .ok (.bipush 108, 2) := by decide +kernel
theorem dX9_letters_80 : decode cX9_letters 80 = .ok (.iconst 0, 1) := by decide +kernel
theorem dX9_letters_81 : decode cX9_letters 81 = .ok (.iconst 0, 1) := by decide +kernel
theorem dX9_letters_82 : decode cX9_letters 82 = .ok (.invokestatic 159, 3) := by decide +kernel
theorem dX9_letters_85 : decode cX9_letters 85 = .ok (.lreturn, 1) := by decide +kernel
theorem dX9_letters_86 : decode cX9_letters 86 = .ok (.bipush 115, 2) := by decide +kernel
theorem dX9_letters_88 : decode cX9_letters 88 = .ok (.bipush 105, 2) := by decide +kernel
theorem dX9_letters_90 : decode cX9_letters 90 = .ok (.bipush 122, 2) := by decide +kernel
theorem dX9_letters_92 : decode cX9_letters 92 = .ok (.bipush 101, 2) := by decide +kernel
theorem dX9_letters_94 : decode cX9_letters 94 = .ok (.iconst 0, 1) := by decide +kernel
theorem dX9_letters_95 : decode cX9_letters 95 = .ok (.iconst 0, 1) := by decide +kernel
theorem dX9_letters_96 : decode cX9_letters 96 = .ok (.invokestatic 159, 3) := by decide +kernel
theorem dX9_letters_99 : decode cX9_letters 99 = .ok (.lreturn, 1) := by decide +kernel
theorem dX9_letters_100 : decode cX9_letters 100 = .ok (.bipush 103, 2) := by decide +kernel
theorem dX9_letters_102 : decode cX9_letters 102 = .ok (.bipush 105, 2) := by decide +kernel
theorem dX9_letters_104 : decode cX9_letters 104 = .ok (.bipush 118, 2) := by decide +kernel
theorem dX9_letters_106 : decode cX9_letters 106 = .ok (.bipush 101, 2) := by decide +kernel
theorem dX9_letters_108 : decode cX9_letters 108 = .ok (.iconst 0, 1) := by decide +kernel
theorem dX9_letters_109 : decode cX9_letters 109 = .ok (.iconst 0, 1) := by decide +kernel
theorem dX9_letters_110 : decode cX9_letters 110 = .ok (.invokestatic 159, 3) := by decide +kernel
theorem dX9_letters_113 : decode cX9_letters 113 = .ok (.lreturn, 1) := by decide +kernel
theorem dX9_letters_114 : decode cX9_letters 114 = .ok (.bipush 119, 2) := by decide +kernel
theorem dX9_letters_116 : decode cX9_letters 116 = .ok (.bipush 111, 2) := by decide +kernel
theorem dX9_letters_118 : decode cX9_letters 118 = .ok (.bipush 114, 2) := by decide +kernel
theorem dX9_letters_120 : decode cX9_letters 120 = .ok (.bipush 110, 2) := by decide +kernel
theorem dX9_letters_122 : decode cX9_letters 122 = .ok (.iconst 0, 1) := by decide +kernel
theorem dX9_letters_123 : decode cX9_letters 123 = .ok (.iconst 0, 1) := by decide +kernel
theorem dX9_letters_124 : decode cX9_letters 124 = .ok (.invokestatic 159, 3) := by decide +kernel
theorem dX9_letters_127 : decode cX9_letters 127 = .ok (.lreturn, 1) := by decide +kernel
theorem dX9_letters_128 : decode cX9_letters 128 = .ok (.bipush 100, 2) := by decide +kernel
theorem dX9_letters_130 : decode cX9_letters 130 = .ok (.bipush 97, 2) := by decide +kernel
theorem dX9_letters_132 : decode cX9_letters 132 = .ok (.bipush 109, 2) := by decide +kernel
theorem dX9_letters_134 : decode cX9_letters 134 = .ok (.bipush 112, 2) := by decide +kernel
theorem dX9_letters_136 : decode cX9_letters 136 = .ok (.iconst 0, 1) := by decide +kernel
theorem dX9_letters_137 : decode cX9_letters 137 = .ok (.iconst 0, 1) := by decide +kernel
theorem dX9_letters_138 : decode cX9_letters 138 = .ok (.invokestatic 159, 3) := by decide +kernel
theorem dX9_letters_141 : decode cX9_letters 141 = .ok (.lreturn, 1) := by decide +kernel
theorem dX9_letters_142 : decode cX9_letters 142 = .ok (.bipush 100, 2) := by decide +kernel
theorem dX9_letters_144 : decode cX9_letters 144 = .ok (.bipush 97, 2) := by decide +kernel
theorem dX9_letters_146 : decode cX9_letters 146 = .ok (.bipush 121, 2) := by decide +kernel
theorem dX9_letters_148 : decode cX9_letters 148 = .ok (.iconst 0, 1) := by decide +kernel
theorem dX9_letters_149 : decode cX9_letters 149 = .ok (.iconst 0, 1) := by decide +kernel
theorem dX9_letters_150 : decode cX9_letters 150 = .ok (.iconst 0, 1) := by decide +kernel
theorem dX9_letters_151 : decode cX9_letters 151 = .ok (.invokestatic 159, 3) := by decide +kernel
theorem dX9_letters_154 : decode cX9_letters 154 = .ok (.lreturn, 1) := by decide +kernel
theorem dX9_letters_155 : decode cX9_letters 155 = .ok (.bipush 116, 2) := by decide +kernel
theorem dX9_letters_157 : decode cX9_letters 157 = .ok (.bipush 105, 2) := by decide +kernel
theorem dX9_letters_159 : decode cX9_letters 159 = .ok (.bipush 103, 2) := by decide +kernel
theorem dX9_letters_161 : decode cX9_letters 161 = .ok (.bipush 104, 2) := by decide +kernel
theorem dX9_letters_163 : decode cX9_letters 163 = .ok (.bipush 116, 2) := by decide +kernel
theorem dX9_letters_165 : decode cX9_letters 165 = .ok (.iconst 0, 1) := by decide +kernel
theorem dX9_letters_166 : decode cX9_letters 166 = .ok (.invokestatic 159, 3) := by decide +kernel
theorem dX9_letters_169 : decode cX9_letters 169 = .ok (.lreturn, 1) := by decide +kernel
theorem dX9_letters_170 : decode cX9_letters 170 = .ok (.bipush 104, 2) := by decide +kernel
theorem dX9_letters_172 : decode cX9_letters 172 = .ok (.bipush 111, 2) := by decide +kernel
theorem dX9_letters_174 : decode cX9_letters 174 = .ok (.bipush 117, 2) := by decide +kernel
theorem dX9_letters_176 : decode cX9_letters 176 = .ok (.bipush 115, 2) := by decide +kernel
theorem dX9_letters_178 : decode cX9_letters 178 = .ok (.bipush 101, 2) := by decide +kernel
theorem dX9_letters_180 : decode cX9_letters 180 = .ok (.iconst 0, 1) := by decide +kernel
theorem dX9_letters_181 : decode cX9_letters 181 = .ok (.invokestatic 159, 3) := by decide +kernel
theorem dX9_letters_184 : decode cX9_letters 184 = .ok (.lreturn, 1) := by decide +kernel
theorem dX9_letters_185 : decode cX9_letters 185 = .ok (.bipush 112, 2) := by decide +kernel
theorem dX9_letters_187 : decode cX9_letters 187 = .ok (.bipush 101, 2) := by decide +kernel
theorem dX9_letters_189 : decode cX9_letters 189 = .ok (.bipush 114, 2) := by decide +kernel
theorem dX9_letters_191 : decode cX9_letters 191 = .ok (.bipush 115, 2) := by decide +kernel
theorem dX9_letters_193 : decode cX9_letters 193 = .ok (.bipush 111, 2) := by decide +kernel
theorem dX9_letters_195 : decode cX9_letters 195 = .ok (.bipush 110, 2) := by decide +kernel
theorem dX9_letters_197 : decode cX9_letters 197 = .ok (.invokestatic 159, 3) := by decide +kernel
theorem dX9_letters_200 : decode cX9_letters 200 = .ok (.lreturn, 1) := by decide +kernel
theorem dX9_letters_201 : decode cX9_letters 201 = .ok (.bipush 105, 2) := by decide +kernel
theorem dX9_letters_203 : decode cX9_letters 203 = .ok (.bipush 110, 2) := by decide +kernel
theorem dX9_letters_205 : decode cX9_letters 205 = .ok (.iconst 0, 1) := by decide +kernel
theorem dX9_letters_206 : decode cX9_letters 206 = .ok (.iconst 0, 1) := by decide +kernel
theorem dX9_letters_207 : decode cX9_letters 207 = .ok (.iconst 0, 1) := by decide +kernel
theorem dX9_letters_208 : decode cX9_letters 208 = .ok (.iconst 0, 1) := by decide +kernel
theorem dX9_letters_209 : decode cX9_letters 209 = .ok (.invokestatic 159, 3) := by decide +kernel
theorem dX9_letters_212 : decode cX9_letters 212 = .ok (.lreturn, 1) := by decide +kernel
theorem dX9_letters_213 : decode cX9_letters 213 = .ok (.bipush 101, 2) := by decide +kernel
theorem dX9_letters_215 : decode cX9_letters 215 = .ok (.bipush 97, 2) := by decide +kernel
theorem dX9_letters_217 : decode cX9_letters 217 = .ok (.bipush 115, 2) := by decide +kernel
theorem dX9_letters_219 : decode cX9_letters 219 = .ok (.bipush 101, 2) := by decide +kernel
theorem dX9_letters_221 : decode cX9_letters 221 = .ok (.bipush 115, 2) := by decide +kernel
theorem dX9_letters_223 : decode cX9_letters 223 = .ok (.iconst 0, 1) := by decide +kernel
theorem dX9_letters_224 : decode cX9_letters 224 = .ok (.invokestatic 159, 3) := by decide +kernel
theorem dX9_letters_227 : decode cX9_letters 227 = .ok (.lreturn, 1) := by decide +kernel
theorem dX9_letters_228 : decode cX9_letters 228 = .ok (.bipush 98, 2) := by decide +kernel
theorem dX9_letters_230 : decode cX9_letters 230 = .ok (.bipush 117, 2) := by decide +kernel
theorem dX9_letters_232 : decode cX9_letters 232 = .ok (.bipush 114, 2) := by decide +kernel
theorem dX9_letters_234 : decode cX9_letters 234 = .ok (.bipush 115, 2) := by decide +kernel
theorem dX9_letters_236 : decode cX9_letters 236 = .ok (.bipush 116, 2) := by decide +kernel
theorem dX9_letters_238 : decode cX9_letters 238 = .ok (.bipush 115, 2) := by decide +kernel
theorem dX9_letters_240 : decode cX9_letters 240 = .ok (.invokestatic 159, 3) := by decide +kernel
theorem dX9_letters_243 : decode cX9_letters 243 = .ok (.lreturn, 1) := by decide +kernel
theorem dX9_letters_244 : decode cX9_letters 244 = .ok (.bipush 97, 2) := by decide +kernel
theorem dX9_letters_246 : decode cX9_letters 246 = .ok (.bipush 110, 2) := by decide +kernel
theorem dX9_letters_248 : decode cX9_letters 248 = .ok (.bipush 100, 2) := by decide +kernel
theorem dX9_letters_250 : decode cX9_letters 250 = .ok (.iconst 0, 1) := by decide +kernel
theorem dX9_letters_251 : decode cX9_letters 251 = .ok (.iconst 0, 1) := by decide +kernel
theorem dX9_letters_252 : decode cX9_letters 252 = .ok (.iconst 0, 1) := by decide +kernel
theorem dX9_letters_253 : decode cX9_letters 253 = .ok (.invokestatic 159, 3) := by decide +kernel
theorem dX9_letters_256 : decode cX9_letters 256 = .ok (.lreturn, 1) := by decide +kernel
theorem dX9_letters_257 : decode cX9_letters 257 = .ok (.bipush 111, 2) := by decide +kernel
theorem dX9_letters_259 : decode cX9_letters 259 = .ok (.bipush 114, 2) := by decide +kernel
theorem dX9_letters_261 : decode cX9_letters 261 = .ok (.iconst 0, 1) := by decide +kernel
theorem dX9_letters_262 : decode cX9_letters 262 = .ok (.iconst 0, 1) := by decide +kernel
theorem dX9_letters_263 : decode cX9_letters 263 = .ok (.iconst 0, 1) := by decide +kernel
theorem dX9_letters_264 : decode cX9_letters 264 = .ok (.iconst 0, 1) := by decide +kernel
theorem dX9_letters_265 : decode cX9_letters 265 = .ok (.invokestatic 159, 3) := by decide +kernel
theorem dX9_letters_268 : decode cX9_letters 268 = .ok (.lreturn, 1) := by decide +kernel
theorem dX9_letters_269 : decode cX9_letters 269 = .ok (.bipush 110, 2) := by decide +kernel
theorem dX9_letters_271 : decode cX9_letters 271 = .ok (.bipush 111, 2) := by decide +kernel
theorem dX9_letters_273 : decode cX9_letters 273 = .ok (.bipush 116, 2) := by decide +kernel
theorem dX9_letters_275 : decode cX9_letters 275 = .ok (.iconst 0, 1) := by decide +kernel
theorem dX9_letters_276 : decode cX9_letters 276 = .ok (.iconst 0, 1) := by decide +kernel
theorem dX9_letters_277 : decode cX9_letters 277 = .ok (.iconst 0, 1) := by decide +kernel
theorem dX9_letters_278 : decode cX9_letters 278 = .ok (.invokestatic 159, 3) := by decide +kernel
theorem dX9_letters_281 : decode cX9_letters 281 = .ok (.lreturn, 1) := by decide +kernel
theorem dX9_knownWord_0 : decode cX9_knownWord 0 = .ok (.aload_n 0, 1) := by decide +kernel
theorem dX9_knownWord_1 : decode cX9_knownWord 1 = .ok (.getfield 144, 3) := by decide +kernel
theorem dX9_knownWord_4 : decode cX9_knownWord 4 = .ok (.iconst 1, 1) := by decide +kernel
theorem dX9_knownWord_5 : decode cX9_knownWord 5 = .ok (.if_icmp .ne 12, 3) := by decide +kernel
theorem dX9_knownWord_8 : decode cX9_knownWord 8 = .ok (.aload_n 0, 1) := by decide +kernel
theorem dX9_knownWord_9 : decode cX9_knownWord 9 = .ok (.getfield 154, 3) := by decide +kernel
theorem dX9_knownWord_12 : decode cX9_knownWord 12 = .ok (.bipush 6, 2) := by decide +kernel
theorem dX9_knownWord_14 : decode cX9_knownWord 14 = .ok (.if_icmp .le 5, 3) := by decide +kernel
theorem dX9_knownWord_17 : decode cX9_knownWord 17 = .ok (.iconst (-1), 1) := by decide +kernel
theorem dX9_knownWord_18 : decode cX9_knownWord 18 = .ok (.ireturn, 1) := by decide +kernel
theorem dX9_knownWord_19 : decode cX9_knownWord 19 = .ok (.iconst 0, 1) := by decide +kernel
theorem dX9_knownWord_20 : decode cX9_knownWord 20 = .ok (.istore_n 1, 1) := by decide +kernel
theorem dX9_knownWord_21 : decode cX9_knownWord 21 = .ok (.iload_n 1, 1) := by decide +kernel
theorem dX9_knownWord_22 : decode cX9_knownWord 22 = .ok (.bipush 15, 2) := by decide +kernel
theorem dX9_knownWord_24 : decode cX9_knownWord 24 = .ok (.if_icmp .ge 23, 3) := by decide +kernel
theorem dX9_knownWord_27 : decode cX9_knownWord 27 = .ok (.iload_n 1, 1) := by decide +kernel
theorem dX9_knownWord_28 : decode cX9_knownWord 28 = .ok (.invokestatic 163, 3) := by decide +kernel
theorem dX9_knownWord_31 : decode cX9_knownWord 31 = .ok (.aload_n 0, 1) := by decide +kernel
theorem dX9_knownWord_32 : decode cX9_knownWord 32 = .ok (.getfield 134, 3) := by decide +kernel
theorem dX9_knownWord_35 : decode cX9_knownWord 35 = .ok (.lcmp, 1) := by decide +kernel
theorem dX9_knownWord_36 : decode cX9_knownWord 36 = .ok (.ifCond .ne 5, 3) := by decide +kernel
theorem dX9_knownWord_39 : decode cX9_knownWord 39 = .ok (.iload_n 1, 1) := by decide +kernel
theorem dX9_knownWord_40 : decode cX9_knownWord 40 = .ok (.ireturn, 1) := by decide +kernel
theorem dX9_knownWord_41 : decode cX9_knownWord 41 = .ok (.iinc 1 1, 3) := by decide +kernel
theorem dX9_knownWord_44 : decode cX9_knownWord 44 = .ok (.goto (-23), 3) := by decide +kernel
theorem dX9_knownWord_47 : decode cX9_knownWord 47 = .ok (.iconst (-1), 1) := by decide +kernel
theorem dX9_knownWord_48 : decode cX9_knownWord 48 = .ok (.ireturn, 1) := by decide +kernel
theorem dX9_wrong_0 : decode cX9_wrong 0 = .ok (.aload_n 0, 1) := by decide +kernel
theorem dX9_wrong_1 : decode cX9_wrong 1 = .ok (.getfield 167, 3) := by decide +kernel
theorem dX9_wrong_4 : decode cX9_wrong 4 = .ok (.ifCond .eq 4, 3) := by decide +kernel
theorem dX9_wrong_7 : decode cX9_wrong 7 = .ok (.return_, 1) := by decide +kernel
theorem dX9_wrong_8 : decode cX9_wrong 8 = .ok (.aload_n 0, 1) := by decide +kernel
theorem dX9_wrong_9 : decode cX9_wrong 9 = .ok (.iload_n 1, 1) := by decide +kernel
theorem dX9_wrong_10 : decode cX9_wrong 10 = .ok (.putfield 167, 3) := by decide +kernel
theorem dX9_wrong_13 : decode cX9_wrong 13 = .ok (.aload_n 0, 1) := by decide +kernel
theorem dX9_wrong_14 : decode cX9_wrong 14 = .ok (.aload_n 0, 1) := by decide +kernel
theorem dX9_wrong_15 : decode cX9_wrong 15 = .ok (.getfield 131, 3) := by decide +kernel
theorem dX9_wrong_18 : decode cX9_wrong 18 = .ok (.putfield 35, 3) := by decide +kernel
theorem dX9_wrong_21 : decode cX9_wrong 21 = .ok (.return_, 1) := by decide +kernel
theorem dX9_isGood_0 : decode cX9_isGood 0 = .ok (.aload_n 0, 1) := by decide +kernel
theorem dX9_isGood_1 : decode cX9_isGood 1 = .ok (.getfield 167, 3) := by decide +kernel
theorem dX9_isGood_4 : decode cX9_isGood 4 = .ok (.ifCond .ne 7, 3) := by decide +kernel
theorem dX9_isGood_7 : decode cX9_isGood 7 = .ok (.iconst 1, 1) := by decide +kernel
theorem dX9_isGood_8 : decode cX9_isGood 8 = .ok (.goto 4, 3) := by decide +kernel
theorem dX9_isGood_11 : decode cX9_isGood 11 = .ok (.iconst 0, 1) := by decide +kernel
theorem dX9_isGood_12 : decode cX9_isGood 12 = .ok (.ireturn, 1) := by decide +kernel
theorem dX9_isSign_0 : decode cX9_isSign 0 = .ok (.aload_n 0, 1) := by decide +kernel
theorem dX9_isSign_1 : decode cX9_isSign 1 = .ok (.getfield 144, 3) := by decide +kernel
theorem dX9_isSign_4 : decode cX9_isSign 4 = .ok (.iconst 3, 1) := by decide +kernel
theorem dX9_isSign_5 : decode cX9_isSign 5 = .ok (.if_icmp .ne 15, 3) := by decide +kernel
theorem dX9_isSign_8 : decode cX9_isSign 8 = .ok (.aload_n 0, 1) := by decide +kernel
theorem dX9_isSign_9 : decode cX9_isSign 9 = .ok (.getfield 141, 3) := by decide +kernel
theorem dX9_isSign_12 : decode cX9_isSign 12 = .ok (.iload_n 1, 1) := by decide +kernel
theorem dX9_isSign_13 : decode cX9_isSign 13 = .ok (.if_icmp .ne 7, 3) := by decide +kernel
theorem dX9_isSign_16 : decode cX9_isSign 16 = .ok (.iconst 1, 1) := by decide +kernel
theorem dX9_isSign_17 : decode cX9_isSign 17 = .ok (.goto 4, 3) := by decide +kernel
theorem dX9_isSign_20 : decode cX9_isSign 20 = .ok (.iconst 0, 1) := by decide +kernel
theorem dX9_isSign_21 : decode cX9_isSign 21 = .ok (.ireturn, 1) := by decide +kernel
theorem dX9_need_0 : decode cX9_need 0 = .ok (.aload_n 0, 1) := by decide +kernel
theorem dX9_need_1 : decode cX9_need 1 = .ok (.invokevirtual 170, 3) := by decide +kernel
theorem dX9_need_4 : decode cX9_need 4 = .ok (.ifCond .ne 4, 3) := by decide +kernel
theorem dX9_need_7 : decode cX9_need 7 = .ok (.return_, 1) := by decide +kernel
theorem dX9_need_8 : decode cX9_need 8 = .ok (.iload_n 1, 1) := by decide +kernel
theorem dX9_need_9 : decode cX9_need 9 = .ok (.ifCond .eq 10, 3) := by decide +kernel
theorem dX9_need_12 : decode cX9_need 12 = .ok (.aload_n 0, 1) := by decide +kernel
theorem dX9_need_13 : decode cX9_need 13 = .ok (.invokevirtual 174, 3) := by decide +kernel
theorem dX9_need_16 : decode cX9_need 16 = .ok (.goto 8, 3) := by decide +kernel
theorem dX9_need_19 : decode cX9_need 19 = .ok (.aload_n 0, 1) := by decide +kernel
theorem dX9_need_20 : decode cX9_need 20 = .ok (.iconst 1, 1) := by decide +kernel
theorem dX9_need_21 : decode cX9_need 21 = .ok (.invokevirtual 177, 3) := by decide +kernel
theorem dX9_need_24 : decode cX9_need 24 = .ok (.return_, 1) := by decide +kernel
theorem dX9_number_0 : decode cX9_number 0 = .ok (.aload_n 0, 1) := by decide +kernel
theorem dX9_number_1 : decode cX9_number 1 = .ok (.invokevirtual 170, 3) := by decide +kernel
theorem dX9_number_4 : decode cX9_number 4 = .ok (.ifCond .ne 5, 3) := by decide +kernel
theorem dX9_number_7 : decode cX9_number 7 = .ok (.iconst 0, 1) := by decide +kernel
theorem dX9_number_8 : decode cX9_number 8 = .ok (.ireturn, 1) := by decide +kernel
theorem dX9_number_9 : decode cX9_number 9 = .ok (.aload_n 0, 1) := by decide +kernel
theorem dX9_number_10 : decode cX9_number 10 = .ok (.getfield 144, 3) := by decide +kernel
theorem dX9_number_13 : decode cX9_number 13 = .ok (.iconst 2, 1) := by decide +kernel
theorem dX9_number_14 : decode cX9_number 14 = .ok (.if_icmp .eq 11, 3) := by decide +kernel
theorem dX9_number_17 : decode cX9_number 17 = .ok (.aload_n 0, 1) := by decide +kernel
theorem dX9_number_18 : decode cX9_number 18 = .ok (.iconst 1, 1) := by decide +kernel
theorem dX9_number_19 : decode cX9_number 19 = .ok (.invokevirtual 177, 3) := by decide +kernel
theorem dX9_number_22 : decode cX9_number 22 = .ok (.goto 32, 3) := by decide +kernel
theorem dX9_number_25 : decode cX9_number 25 = .ok (.aload_n 0, 1) := by decide +kernel
theorem dX9_number_26 : decode cX9_number 26 = .ok (.getfield 154, 3) := by decide +kernel
theorem dX9_number_29 : decode cX9_number 29 = .ok (.iconst 4, 1) := by decide +kernel
theorem dX9_number_30 : decode cX9_number 30 = .ok (.if_icmp .gt 19, 3) := by decide +kernel
theorem dX9_number_33 : decode cX9_number 33 = .ok (.aload_n 0, 1) := by decide +kernel
theorem dX9_number_34 : decode cX9_number 34 = .ok (.getfield 138, 3) := by decide +kernel
theorem dX9_number_37 : decode cX9_number 37 = .ok (.iload_n 1, 1) := by decide +kernel
theorem dX9_number_38 : decode cX9_number 38 = .ok (.if_icmp .lt 11, 3) := by decide +kernel
theorem dX9_number_41 : decode cX9_number 41 = .ok (.aload_n 0, 1) := by decide +kernel
theorem dX9_number_42 : decode cX9_number 42 = .ok (.getfield 138, 3) := by decide +kernel
theorem dX9_number_45 : decode cX9_number 45 = .ok (.iload_n 2, 1) := by decide +kernel
theorem dX9_number_46 : decode cX9_number 46 = .ok (.if_icmp .le 8, 3) := by decide +kernel
theorem dX9_number_49 : decode cX9_number 49 = .ok (.aload_n 0, 1) := by decide +kernel
theorem dX9_number_50 : decode cX9_number 50 = .ok (.iconst 2, 1) := by decide +kernel
theorem dX9_number_51 : decode cX9_number 51 = .ok (.invokevirtual 177, 3) := by decide +kernel
theorem dX9_number_54 : decode cX9_number 54 = .ok (.aload_n 0, 1) := by decide +kernel
theorem dX9_number_55 : decode cX9_number 55 = .ok (.getfield 138, 3) := by decide +kernel
theorem dX9_number_58 : decode cX9_number 58 = .ok (.istore_n 3, 1) := by decide +kernel
theorem dX9_number_59 : decode cX9_number 59 = .ok (.aload_n 0, 1) := by decide +kernel
theorem dX9_number_60 : decode cX9_number 60 = .ok (.invokevirtual 170, 3) := by decide +kernel
theorem dX9_number_63 : decode cX9_number 63 = .ok (.ifCond .eq 7, 3) := by decide +kernel
theorem dX9_number_66 : decode cX9_number 66 = .ok (.aload_n 0, 1) := by decide +kernel
theorem dX9_number_67 : decode cX9_number 67 = .ok (.invokevirtual 174, 3) := by decide +kernel
theorem dX9_number_70 : decode cX9_number 70 = .ok (.iload_n 3, 1) := by decide +kernel
theorem dX9_number_71 : decode cX9_number 71 = .ok (.ireturn, 1) := by decide +kernel
theorem dX9_puts_0 : decode cX9_puts 0 = .ok (.aload_n 0, 1) := by decide +kernel
theorem dX9_puts_1 : decode cX9_puts 1 = .ok (.getfield 56, 3) := by decide +kernel
theorem dX9_puts_4 : decode cX9_puts 4 = .ok (.aload_n 0, 1) := by decide +kernel
theorem dX9_puts_5 : decode cX9_puts 5 = .ok (.getfield 180, 3) := by decide +kernel
theorem dX9_puts_8 : decode cX9_puts 8 = .ok (.iload_n 1, 1) := by decide +kernel
theorem dX9_puts_9 : decode cX9_puts 9 = .ok (.iastore, 1) := by decide +kernel
theorem dX9_puts_10 : decode cX9_puts 10 = .ok (.aload_n 0, 1) := by decide +kernel
theorem dX9_puts_11 : decode cX9_puts 11 = .ok (.dup, 1) := by decide +kernel
theorem dX9_puts_12 : decode cX9_puts 12 = .ok (.getfield 180, 3) := by decide +kernel
theorem dX9_puts_15 : decode cX9_puts 15 = .ok (.iconst 1, 1) := by decide +kernel
theorem dX9_puts_16 : decode cX9_puts 16 = .ok (.iadd, 1) := by decide +kernel
theorem dX9_puts_17 : decode cX9_puts 17 = .ok (.putfield 180, 3) := by decide +kernel
theorem dX9_puts_20 : decode cX9_puts 20 = .ok (.return_, 1) := by decide +kernel
theorem dX9_isOpen_0 : decode cX9_isOpen 0 = .ok (.iload_n 0, 1) := by decide +kernel
theorem dX9_isOpen_1 : decode cX9_isOpen 1 = .ok (.bipush 14, 2) := by decide +kernel
theorem dX9_isOpen_3 : decode cX9_isOpen 3 = .ok (.if_icmp .lt 7, 3) := by decide +kernel
theorem dX9_isOpen_6 : decode cX9_isOpen 6 = .ok (.iconst 1, 1) := by decide +kernel
theorem dX9_isOpen_7 : decode cX9_isOpen 7 = .ok (.goto 4, 3) := by decide +kernel
theorem dX9_isOpen_10 : decode cX9_isOpen 10 = .ok (.iconst 0, 1) := by decide +kernel
theorem dX9_isOpen_11 : decode cX9_isOpen 11 = .ok (.ireturn, 1) := by decide +kernel
theorem dX9_strength_0 : decode cX9_strength 0 = .ok (.iload_n 0, 1) := by decide +kernel
theorem dX9_strength_1 : decode cX9_strength 1 = .ok (.iconst 5, 1) := by decide +kernel
theorem dX9_strength_2 : decode cX9_strength 2 = .ok (.if_icmp .ne 7, 3) := by decide +kernel
theorem dX9_strength_5 : decode cX9_strength 5 = .ok (.iconst 1, 1) := by decide +kernel
theorem dX9_strength_6 : decode cX9_strength 6 = .ok (.goto 55, 3) := by decide +kernel
theorem dX9_strength_9 : decode cX9_strength 9 = .ok (.iload_n 0, 1) := by decide +kernel
theorem dX9_strength_10 : decode cX9_strength 10 = .ok (.iconst 4, 1) := by decide +kernel
theorem dX9_strength_11 : decode cX9_strength 11 = .ok (.if_icmp .ne 7, 3) := by decide +kernel
theorem dX9_strength_14 : decode cX9_strength 14 = .ok (.iconst 2, 1) := by decide +kernel
theorem dX9_strength_15 : decode cX9_strength 15 = .ok (.goto 46, 3) := by decide +kernel
theorem dX9_strength_18 : decode cX9_strength 18 = .ok (.iload_n 0, 1) := by decide +kernel
theorem dX9_strength_19 : decode cX9_strength 19 = .ok (.iconst 3, 1) := by decide +kernel
theorem dX9_strength_20 : decode cX9_strength 20 = .ok (.if_icmp .ne 7, 3) := by decide +kernel
theorem dX9_strength_23 : decode cX9_strength 23 = .ok (.iconst 3, 1) := by decide +kernel
theorem dX9_strength_24 : decode cX9_strength 24 = .ok (.goto 37, 3) := by decide +kernel
theorem dX9_strength_27 : decode cX9_strength 27 = .ok (.iload_n 0, 1) := by decide +kernel
theorem dX9_strength_28 : decode cX9_strength 28 = .ok (.bipush 6, 2) := by decide +kernel
theorem dX9_strength_30 : decode cX9_strength 30 = .ok (.if_icmp .eq 9, 3) := by decide +kernel
theorem dX9_strength_33 : decode cX9_strength 33 = .ok (.iload_n 0, 1) := by decide +kernel
theorem dX9_strength_34 : decode cX9_strength 34 = .ok (.bipush 7, 2) := by decide +kernel
theorem dX9_strength_36 : decode cX9_strength 36 = .ok (.if_icmp .ne 7, 3) := by decide +kernel
theorem dX9_strength_39 : decode cX9_strength 39 = .ok (.iconst 4, 1) := by decide +kernel
theorem dX9_strength_40 : decode cX9_strength 40 = .ok (.goto 21, 3) := by decide +kernel
theorem dX9_strength_43 : decode cX9_strength 43 = .ok (.iload_n 0, 1) := by decide +kernel
theorem dX9_strength_44 : decode cX9_strength 44 = .ok (.bipush 8, 2) := by decide +kernel
theorem dX9_strength_46 : decode cX9_strength 46 = .ok (.if_icmp .eq 9, 3) := by decide +kernel
theorem dX9_strength_49 : decode cX9_strength 49 = .ok (.iload_n 0, 1) := by decide +kernel
theorem dX9_strength_50 : decode cX9_strength 50 = .ok (.bipush 9, 2) := by decide +kernel
theorem dX9_strength_52 : decode cX9_strength 52 = .ok (.if_icmp .ne 7, 3) := by decide +kernel
theorem dX9_strength_55 : decode cX9_strength 55 = .ok (.iconst 5, 1) := by decide +kernel
theorem dX9_strength_56 : decode cX9_strength 56 = .ok (.goto 5, 3) := by decide +kernel
theorem dX9_strength_59 : decode cX9_strength 59 = .ok (.bipush 6, 2) := by decide +kernel
theorem dX9_strength_61 : decode cX9_strength 61 = .ok (.ireturn, 1) := by decide +kernel
theorem dX9_drops_0 : decode cX9_drops 0 = .ok (.aload_n 0, 1) := by decide +kernel
theorem dX9_drops_1 : decode cX9_drops 1 = .ok (.getfield 183, 3) := by decide +kernel
theorem dX9_drops_4 : decode cX9_drops 4 = .ok (.ifCond .le 64, 3) := by decide +kernel
theorem dX9_drops_7 : decode cX9_drops 7 = .ok (.aload_n 0, 1) := by decide +kernel
theorem dX9_drops_8 : decode cX9_drops 8 = .ok (.getfield 59, 3) := by decide +kernel
theorem dX9_drops_11 : decode cX9_drops 11 = .ok (.aload_n 0, 1) := by decide +kernel
theorem dX9_drops_12 : decode cX9_drops 12 = .ok (.getfield 183, 3) := by decide +kernel
theorem dX9_drops_15 : decode cX9_drops 15 = .ok (.iconst 1, 1) := by decide +kernel
theorem dX9_drops_16 : decode cX9_drops 16 = .ok (.isub, 1) := by decide +kernel
theorem dX9_drops_17 : decode cX9_drops 17 = .ok (.iaload, 1) := by decide +kernel
theorem dX9_drops_18 : decode cX9_drops 18 = .ok (.invokestatic 186, 3) := by decide +kernel
theorem dX9_drops_21 : decode cX9_drops 21 = .ok (.ifCond .ne 47, 3) := by decide +kernel
theorem dX9_drops_24 : decode cX9_drops 24 = .ok (.aload_n 0, 1) := by decide +kernel
theorem dX9_drops_25 : decode cX9_drops 25 = .ok (.getfield 59, 3) := by decide +kernel
theorem dX9_drops_28 : decode cX9_drops 28 = .ok (.aload_n 0, 1) := by decide +kernel
theorem dX9_drops_29 : decode cX9_drops 29 = .ok (.getfield 183, 3) := by decide +kernel
theorem dX9_drops_32 : decode cX9_drops 32 = .ok (.iconst 1, 1) := by decide +kernel
theorem dX9_drops_33 : decode cX9_drops 33 = .ok (.isub, 1) := by decide +kernel
theorem dX9_drops_34 : decode cX9_drops 34 = .ok (.iaload, 1) := by decide +kernel
theorem dX9_drops_35 : decode cX9_drops 35 = .ok (.invokestatic 189, 3) := by decide +kernel
theorem dX9_drops_38 : decode cX9_drops 38 = .ok (.iload_n 1, 1) := by decide +kernel
theorem dX9_drops_39 : decode cX9_drops 39 = .ok (.if_icmp .lt 29, 3) := by decide +kernel
theorem dX9_drops_42 : decode cX9_drops 42 = .ok (.aload_n 0, 1) := by decide +kernel
theorem dX9_drops_43 : decode cX9_drops 43 = .ok (.dup, 1) := by decide +kernel
theorem dX9_drops_44 : decode cX9_drops 44 = .ok (.getfield 183, 3) := by decide +kernel
theorem dX9_drops_47 : decode cX9_drops 47 = .ok (.iconst 1, 1) := by decide +kernel
theorem dX9_drops_48 : decode cX9_drops 48 = .ok (.isub, 1) := by decide +kernel
theorem dX9_drops_49 : decode cX9_drops 49 = .ok (.putfield 183, 3) := by decide +kernel
theorem dX9_drops_52 : decode cX9_drops 52 = .ok (.aload_n 0, 1) := by decide +kernel
theorem dX9_drops_53 : decode cX9_drops 53 = .ok (.aload_n 0, 1) := by decide +kernel
theorem dX9_drops_54 : decode cX9_drops 54 = .ok (.getfield 59, 3) := by decide +kernel
theorem dX9_drops_57 : decode cX9_drops 57 = .ok (.aload_n 0, 1) := by decide +kernel
theorem dX9_drops_58 : decode cX9_drops 58 = .ok (.getfield 183, 3) := by decide +kernel
theorem dX9_drops_61 : decode cX9_drops 61 = .ok (.iaload, 1) := by decide +kernel
theorem dX9_drops_62 : decode cX9_drops 62 = .ok (.invokevirtual 192, 3) := by decide +kernel
theorem dX9_drops_65 : decode cX9_drops 65 = .ok (.goto (-65), 3) := by decide +kernel
theorem dX9_drops_68 : decode cX9_drops 68 = .ok (.return_, 1) := by decide +kernel
theorem dX9_waitsFor_0 : decode cX9_waitsFor 0 = .ok (.aload_n 0, 1) := by decide +kernel
theorem dX9_waitsFor_1 : decode cX9_waitsFor 1 = .ok (.getfield 59, 3) := by decide +kernel
theorem dX9_waitsFor_4 : decode cX9_waitsFor 4 = .ok (.aload_n 0, 1) := by decide +kernel
theorem dX9_waitsFor_5 : decode cX9_waitsFor 5 = .ok (.getfield 183, 3) := by decide +kernel
theorem dX9_waitsFor_8 : decode cX9_waitsFor 8 = .ok (.iload_n 1, 1) := by decide +kernel
theorem dX9_waitsFor_9 : decode cX9_waitsFor 9 = .ok (.iastore, 1) := by decide +kernel
theorem dX9_waitsFor_10 : decode cX9_waitsFor 10 = .ok (.aload_n 0, 1) := by decide +kernel
theorem dX9_waitsFor_11 : decode cX9_waitsFor 11 = .ok (.dup, 1) := by decide +kernel
theorem dX9_waitsFor_12 : decode cX9_waitsFor 12 = .ok (.getfield 183, 3) := by decide +kernel
theorem dX9_waitsFor_15 : decode cX9_waitsFor 15 = .ok (.iconst 1, 1) := by decide +kernel
theorem dX9_waitsFor_16 : decode cX9_waitsFor 16 = .ok (.iadd, 1) := by decide +kernel
theorem dX9_waitsFor_17 : decode cX9_waitsFor 17 = .ok (.putfield 183, 3) := by decide +kernel
theorem dX9_waitsFor_20 : decode cX9_waitsFor 20 = .ok (.return_, 1) := by decide +kernel
theorem dX9_part_0 : decode cX9_part 0 = .ok (.aload_n 0, 1) := by decide +kernel
theorem dX9_part_1 : decode cX9_part 1 = .ok (.invokevirtual 170, 3) := by decide +kernel
theorem dX9_part_4 : decode cX9_part 4 = .ok (.ifCond .ne 4, 3) := by decide +kernel
theorem dX9_part_7 : decode cX9_part 7 = .ok (.return_, 1) := by decide +kernel
theorem dX9_part_8 : decode cX9_part 8 = .ok (.aload_n 0, 1) := by decide +kernel
theorem dX9_part_9 : decode cX9_part 9 = .ok (.getfield 144, 3) := by decide +kernel
theorem dX9_part_12 : decode cX9_part 12 = .ok (.iconst 2, 1) := by decide +kernel
theorem dX9_part_13 : decode cX9_part 13 = .ok (.if_icmp .ne 32, 3) := by decide +kernel
theorem dX9_part_16 : decode cX9_part 16 = .ok (.aload_n 0, 1) := by decide +kernel
theorem dX9_part_17 : decode cX9_part 17 = .ok (.getfield 154, 3) := by decide +kernel
theorem dX9_part_20 : decode cX9_part 20 = .ok (.iconst 4, 1) := by decide +kernel
theorem dX9_part_21 : decode cX9_part 21 = .ok (.if_icmp .le 8, 3) := by decide +kernel
theorem dX9_part_24 : decode cX9_part 24 = .ok (.aload_n 0, 1) := by decide +kernel
theorem dX9_part_25 : decode cX9_part 25 = .ok (.iconst 2, 1) := by decide +kernel
theorem dX9_part_26 : decode cX9_part 26 = .ok (.invokevirtual 177, 3) := by decide +kernel
theorem dX9_part_29 : decode cX9_part 29 = .ok (.aload_n 0, 1) := by decide +kernel
theorem dX9_part_30 : decode cX9_part 30 = .ok (.iconst 1, 1) := by decide +kernel
theorem dX9_part_31 : decode cX9_part 31 = .ok (.invokevirtual 192, 3) := by decide +kernel
theorem dX9_part_34 : decode cX9_part 34 = .ok (.aload_n 0, 1) := by decide +kernel
theorem dX9_part_35 : decode cX9_part 35 = .ok (.aload_n 0, 1) := by decide +kernel
theorem dX9_part_36 : decode cX9_part 36 = .ok (.getfield 138, 3) := by decide +kernel
theorem dX9_part_39 : decode cX9_part 39 = .ok (.invokevirtual 192, 3) := by decide +kernel
theorem dX9_part_42 : decode cX9_part 42 = .ok (.goto 51, 3) := by decide +kernel
theorem dX9_part_45 : decode cX9_part 45 = .ok (.aload_n 0, 1) := by decide +kernel
theorem dX9_part_46 : decode cX9_part 46 = .ok (.getfield 144, 3) := by decide +kernel
theorem dX9_part_49 : decode cX9_part 49 = .ok (.iconst 1, 1) := by decide +kernel
theorem dX9_part_50 : decode cX9_part 50 = .ok (.if_icmp .ne 38, 3) := by decide +kernel
theorem dX9_part_53 : decode cX9_part 53 = .ok (.aload_n 0, 1) := by decide +kernel
theorem dX9_part_54 : decode cX9_part 54 = .ok (.invokevirtual 195, 3) := by decide +kernel
theorem dX9_part_57 : decode cX9_part 57 = .ok (.istore_n 1, 1) := by decide +kernel
theorem dX9_part_58 : decode cX9_part 58 = .ok (.iload_n 1, 1) := by decide +kernel
theorem dX9_part_59 : decode cX9_part 59 = .ok (.ifCond .lt 11, 3) := by decide +kernel
theorem dX9_part_62 : decode cX9_part 62 = .ok (.iload_n 1, 1) := by decide +kernel
theorem dX9_part_63 : decode cX9_part 63 = .ok (.aload_n 0, 1) := by decide +kernel
theorem dX9_part_64 : decode cX9_part 64 = .ok (.getfield 199, 3) := by decide +kernel
theorem dX9_part_67 : decode cX9_part 67 = .ok (.if_icmp .le 8, 3) := by decide +kernel
theorem dX9_part_70 : decode cX9_part 70 = .ok (.aload_n 0, 1) := by decide +kernel
theorem dX9_part_71 : decode cX9_part 71 = .ok (.iconst 3, 1) := by decide +kernel
theorem dX9_part_72 : decode cX9_part 72 = .ok (.invokevirtual 177, 3) := by decide +kernel
theorem dX9_part_75 : decode cX9_part 75 = .ok (.aload_n 0, 1) := by decide +kernel
theorem dX9_part_76 : decode cX9_part 76 = .ok (.iconst 2, 1) := by decide +kernel
theorem dX9_part_77 : decode cX9_part 77 = .ok (.invokevirtual 192, 3) := by decide +kernel
theorem dX9_part_80 : decode cX9_part 80 = .ok (.aload_n 0, 1) := by decide +kernel
theorem dX9_part_81 : decode cX9_part 81 = .ok (.iload_n 1, 1) := by decide +kernel
theorem dX9_part_82 : decode cX9_part 82 = .ok (.invokevirtual 192, 3) := by decide +kernel
theorem dX9_part_85 : decode cX9_part 85 = .ok (.goto 8, 3) := by decide +kernel
theorem dX9_part_88 : decode cX9_part 88 = .ok (.aload_n 0, 1) := by decide +kernel
theorem dX9_part_89 : decode cX9_part 89 = .ok (.iconst 1, 1) := by decide +kernel
theorem dX9_part_90 : decode cX9_part 90 = .ok (.invokevirtual 177, 3) := by decide +kernel
theorem dX9_part_93 : decode cX9_part 93 = .ok (.aload_n 0, 1) := by decide +kernel
theorem dX9_part_94 : decode cX9_part 94 = .ok (.invokevirtual 170, 3) := by decide +kernel
theorem dX9_part_97 : decode cX9_part 97 = .ok (.ifCond .eq 7, 3) := by decide +kernel
theorem dX9_part_100 : decode cX9_part 100 = .ok (.aload_n 0, 1) := by decide +kernel
theorem dX9_part_101 : decode cX9_part 101 = .ok (.invokevirtual 174, 3) := by decide +kernel
theorem dX9_part_104 : decode cX9_part 104 = .ok (.return_, 1) := by decide +kernel
theorem dX9_deeper_0 : decode cX9_deeper 0 = .ok (.aload_n 0, 1) := by decide +kernel
theorem dX9_deeper_1 : decode cX9_deeper 1 = .ok (.getfield 202, 3) := by decide +kernel
theorem dX9_deeper_4 : decode cX9_deeper 4 = .ok (.bipush 6, 2) := by decide +kernel
theorem dX9_deeper_6 : decode cX9_deeper 6 = .ok (.if_icmp .ge 24, 3) := by decide +kernel
theorem dX9_deeper_9 : decode cX9_deeper 9 = .ok (.aload_n 0, 1) := by decide +kernel
theorem dX9_deeper_10 : decode cX9_deeper 10 = .ok (.dup, 1) := by decide +kernel
theorem dX9_deeper_11 : decode cX9_deeper 11 = .ok (.getfield 202, 3) := by decide +kernel
theorem dX9_deeper_14 : decode cX9_deeper 14 = .ok (.iconst 1, 1) := by decide +kernel
theorem dX9_deeper_15 : decode cX9_deeper 15 = .ok (.iadd, 1) := by decide +kernel
theorem dX9_deeper_16 : decode cX9_deeper 16 = .ok (.putfield 202, 3) := by decide +kernel
theorem dX9_deeper_19 : decode cX9_deeper 19 = .ok (.aload_n 0, 1) := by decide +kernel
theorem dX9_deeper_20 : decode cX9_deeper 20 = .ok (.getfield 62, 3) := by decide +kernel
theorem dX9_deeper_23 : decode cX9_deeper 23 = .ok (.aload_n 0, 1) := by decide +kernel
theorem dX9_deeper_24 : decode cX9_deeper 24 = .ok (.getfield 202, 3) := by decide +kernel
theorem dX9_deeper_27 : decode cX9_deeper 27 = .ok (.iconst 0, 1) := by decide +kernel
theorem dX9_deeper_28 : decode cX9_deeper 28 = .ok (.bastore, 1) := by decide +kernel
theorem dX9_deeper_29 : decode cX9_deeper 29 = .ok (.return_, 1) := by decide +kernel
theorem dX9_deeper_30 : decode cX9_deeper 30 = .ok (.aload_n 0, 1) := by decide +kernel
theorem dX9_deeper_31 : decode cX9_deeper 31 = .ok (.aload_n 0, 1) := by decide +kernel
theorem dX9_deeper_32 : decode cX9_deeper 32 = .ok (.getfield 144, 3) := by decide +kernel
theorem dX9_deeper_35 : decode cX9_deeper 35 = .ok (.iconst 2, 1) := by decide +kernel
theorem dX9_deeper_36 : decode cX9_deeper 36 = .ok (.if_icmp .eq 20, 3) := by decide +kernel
theorem dX9_deeper_39 : decode cX9_deeper 39 = .ok (.aload_n 0, 1) := by decide +kernel
theorem dX9_deeper_40 : decode cX9_deeper 40 = .ok (.getfield 144, 3) := by decide +kernel
theorem dX9_deeper_43 : decode cX9_deeper 43 = .ok (.iconst 1, 1) := by decide +kernel
theorem dX9_deeper_44 : decode cX9_deeper 44 = .ok (.if_icmp .eq 12, 3) := by decide +kernel
theorem dX9_deeper_47 : decode cX9_deeper 47 = .ok (.aload_n 0, 1) := by decide +kernel
theorem dX9_deeper_48 : decode cX9_deeper 48 = .ok (.bipush 40, 2) := by decide +kernel
theorem dX9_deeper_50 : decode cX9_deeper 50 = .ok (.invokevirtual 205, 3) := by decide +kernel
theorem dX9_deeper_53 : decode cX9_deeper 53 = .ok (.ifCond .eq 7, 3) := by decide +kernel
theorem dX9_deeper_56 : decode cX9_deeper 56 = .ok (.iconst 2, 1) := by decide +kernel
theorem dX9_deeper_57 : decode cX9_deeper 57 = .ok (.goto 4, 3) := by decide +kernel
theorem dX9_deeper_60 : decode cX9_deeper 60 = .ok (.iconst 1, 1) := by decide +kernel
theorem dX9_deeper_61 : decode cX9_deeper 61 = .ok (.invokevirtual 177, 3) := by decide +kernel
theorem dX9_deeper_64 : decode cX9_deeper 64 = .ok (.return_, 1) := by decide +kernel
theorem dX9_operand_0 : decode cX9_operand 0 = .ok (.iload_n 1, 1) := by decide +kernel
theorem dX9_operand_1 : decode cX9_operand 1 = .ok (.istore_n 2, 1) := by decide +kernel
theorem dX9_operand_2 : decode cX9_operand 2 = .ok (.iconst 1, 1) := by decide +kernel
theorem dX9_operand_3 : decode cX9_operand 3 = .ok (.istore_n 3, 1) := by decide +kernel
theorem dX9_operand_4 : decode cX9_operand 4 = .ok (.iload_n 3, 1) := by decide +kernel
theorem dX9_operand_5 : decode cX9_operand 5 = .ok (.ifCond .eq 115, 3) := by decide +kernel
theorem dX9_operand_8 : decode cX9_operand 8 = .ok (.aload_n 0, 1) := by decide +kernel
theorem dX9_operand_9 : decode cX9_operand 9 = .ok (.invokevirtual 170, 3) := by decide +kernel
theorem dX9_operand_12 : decode cX9_operand 12 = .ok (.ifCond .eq 108, 3) := by decide +kernel
theorem dX9_operand_15 : decode cX9_operand 15 = .ok (.iconst 0, 1) := by decide +kernel
theorem dX9_operand_16 : decode cX9_operand 16 = .ok (.istore 4, 2) := by decide +kernel
theorem dX9_operand_18 : decode cX9_operand 18 = .ok (.aload_n 0, 1) := by decide +kernel
theorem dX9_operand_19 : decode cX9_operand 19 = .ok (.invokevirtual 170, 3) := by decide +kernel
theorem dX9_operand_22 : decode cX9_operand 22 = .ok (.ifCond .eq 53, 3) := by decide +kernel
theorem dX9_operand_25 : decode cX9_operand 25 = .ok (.iload_n 2, 1) := by decide +kernel
theorem dX9_operand_26 : decode cX9_operand 26 = .ok (.ifCond .eq 49, 3) := by decide +kernel
theorem dX9_operand_29 : decode cX9_operand 29 = .ok (.aload_n 0, 1) := by decide +kernel
theorem dX9_operand_30 : decode cX9_operand 30 = .ok (.invokevirtual 195, 3) := by decide +kernel
theorem dX9_operand_33 : decode cX9_operand 33 = .ok (.bipush 14, 2) := by decide +kernel
theorem dX9_operand_35 : decode cX9_operand 35 = .ok (.if_icmp .ne 40, 3) := by decide +kernel
theorem dX9_operand_38 : decode cX9_operand 38 = .ok (.iload 4, 2) := by decide +kernel
theorem dX9_operand_40 : decode cX9_operand 40 = .ok (.bipush 6, 2) := by decide +kernel
theorem dX9_operand_42 : decode cX9_operand 42 = .ok (.if_icmp .ne 8, 3) := by decide +kernel
theorem dX9_operand_45 : decode cX9_operand 45 = .ok (.aload_n 0, 1) := by decide +kernel
theorem dX9_operand_46 : decode cX9_operand 46 = .ok (.iconst 2, 1) := by decide +kernel
theorem dX9_operand_47 : decode cX9_operand 47 = .ok (.invokevirtual 177, 3) := by decide +kernel
theorem dX9_operand_50 : decode cX9_operand 50 = .ok (.iinc 4 1, 3) := by decide +kernel
theorem dX9_operand_53 : decode cX9_operand 53 = .ok (.aload_n 0, 1) := by decide +kernel
theorem dX9_operand_54 : decode cX9_operand 54 = .ok (.invokevirtual 170, 3) := by decide +kernel
theorem dX9_operand_57 : decode cX9_operand 57 = .ok (.ifCond .ne 6, 3) := by decide +kernel
theorem dX9_operand_60 : decode cX9_operand 60 = .ok (.goto (-42), 3) := by decide +kernel
theorem dX9_operand_63 : decode cX9_operand 63 = .ok (.aload_n 0, 1) := by decide +kernel
theorem dX9_operand_64 : decode cX9_operand 64 = .ok (.iconst 3, 1) := by decide +kernel
theorem dX9_operand_65 : decode cX9_operand 65 = .ok (.invokevirtual 208, 3) := by decide +kernel
theorem dX9_operand_68 : decode cX9_operand 68 = .ok (.aload_n 0, 1) := by decide +kernel
theorem dX9_operand_69 : decode cX9_operand 69 = .ok (.invokevirtual 174, 3) := by decide +kernel
theorem dX9_operand_72 : decode cX9_operand 72 = .ok (.goto (-54), 3) := by decide +kernel
theorem dX9_operand_75 : decode cX9_operand 75 = .ok (.aload_n 0, 1) := by decide +kernel
theorem dX9_operand_76 : decode cX9_operand 76 = .ok (.invokevirtual 170, 3) := by decide +kernel
theorem dX9_operand_79 : decode cX9_operand 79 = .ok (.ifCond .eq 16, 3) := by decide +kernel
theorem dX9_operand_82 : decode cX9_operand 82 = .ok (.aload_n 0, 1) := by decide +kernel
theorem dX9_operand_83 : decode cX9_operand 83 = .ok (.bipush 40, 2) := by decide +kernel
theorem dX9_operand_85 : decode cX9_operand 85 = .ok (.invokevirtual 205, 3) := by decide +kernel
theorem dX9_operand_88 : decode cX9_operand 88 = .ok (.ifCond .eq 7, 3) := by decide +kernel
theorem dX9_operand_91 : decode cX9_operand 91 = .ok (.iconst 1, 1) := by decide +kernel
theorem dX9_operand_92 : decode cX9_operand 92 = .ok (.goto 4, 3) := by decide +kernel
theorem dX9_operand_95 : decode cX9_operand 95 = .ok (.iconst 0, 1) := by decide +kernel
theorem dX9_operand_96 : decode cX9_operand 96 = .ok (.istore_n 3, 1) := by decide +kernel
theorem dX9_operand_97 : decode cX9_operand 97 = .ok (.iload_n 3, 1) := by decide +kernel
theorem dX9_operand_98 : decode cX9_operand 98 = .ok (.ifCond .eq 19, 3) := by decide +kernel
theorem dX9_operand_101 : decode cX9_operand 101 = .ok (.aload_n 0, 1) := by decide +kernel
theorem dX9_operand_102 : decode cX9_operand 102 = .ok (.bipush 14, 2) := by decide +kernel
theorem dX9_operand_104 : decode cX9_operand 104 = .ok (.invokevirtual 208, 3) := by decide +kernel
theorem dX9_operand_107 : decode cX9_operand 107 = .ok (.aload_n 0, 1) := by decide +kernel
theorem dX9_operand_108 : decode cX9_operand 108 = .ok (.invokevirtual 174, 3) := by decide +kernel
theorem dX9_operand_111 : decode cX9_operand 111 = .ok (.aload_n 0, 1) := by decide +kernel
theorem dX9_operand_112 : decode cX9_operand 112 = .ok (.invokevirtual 211, 3) := by decide +kernel
theorem dX9_operand_115 : decode cX9_operand 115 = .ok (.iconst 1, 1) := by decide +kernel
theorem dX9_operand_116 : decode cX9_operand 116 = .ok (.istore_n 2, 1) := by decide +kernel
theorem dX9_operand_117 : decode cX9_operand 117 = .ok (.goto (-113), 3) := by decide +kernel
theorem dX9_operand_120 : decode cX9_operand 120 = .ok (.aload_n 0, 1) := by decide +kernel
theorem dX9_operand_121 : decode cX9_operand 121 = .ok (.invokevirtual 214, 3) := by decide +kernel
theorem dX9_operand_124 : decode cX9_operand 124 = .ok (.return_, 1) := by decide +kernel
theorem dX9_isOpened_0 : decode cX9_isOpened 0 = .ok (.aload_n 0, 1) := by decide +kernel
theorem dX9_isOpened_1 : decode cX9_isOpened 1 = .ok (.getfield 183, 3) := by decide +kernel
theorem dX9_isOpened_4 : decode cX9_isOpened 4 = .ok (.iconst 1, 1) := by decide +kernel
theorem dX9_isOpened_5 : decode cX9_isOpened 5 = .ok (.isub, 1) := by decide +kernel
theorem dX9_isOpened_6 : decode cX9_isOpened 6 = .ok (.istore_n 1, 1) := by decide +kernel
theorem dX9_isOpened_7 : decode cX9_isOpened 7 = .ok (.iload_n 1, 1) := by decide +kernel
theorem dX9_isOpened_8 : decode cX9_isOpened 8 = .ok (.ifCond .lt 21, 3) := by decide +kernel
theorem dX9_isOpened_11 : decode cX9_isOpened 11 = .ok (.aload_n 0, 1) := by decide +kernel
theorem dX9_isOpened_12 : decode cX9_isOpened 12 = .ok (.getfield 59, 3) := by decide +kernel
theorem dX9_isOpened_15 : decode cX9_isOpened 15 = .ok (.iload_n 1, 1) := by decide +kernel
theorem dX9_isOpened_16 : decode cX9_isOpened 16 = .ok (.iaload, 1) := by decide +kernel
theorem dX9_isOpened_17 : decode cX9_isOpened 17 = .ok (.invokestatic 186, 3) := by decide +kernel
theorem dX9_isOpened_20 : decode cX9_isOpened 20 = .ok (.ifCond .ne 9, 3) := by decide +kernel
theorem dX9_isOpened_23 : decode cX9_isOpened 23 = .ok (.iinc 1 (-1), 3) := by decide +kernel
theorem dX9_isOpened_26 : decode cX9_isOpened 26 = .ok (.goto (-19), 3) := by decide +kernel
theorem dX9_isOpened_29 : decode cX9_isOpened 29 = .ok (.iload_n 1, 1) := by decide +kernel
theorem dX9_isOpened_30 : decode cX9_isOpened 30 = .ok (.ifCond .lt 7, 3) := by decide +kernel
theorem dX9_isOpened_33 : decode cX9_isOpened 33 = .ok (.iconst 1, 1) := by decide +kernel
theorem dX9_isOpened_34 : decode cX9_isOpened 34 = .ok (.goto 4, 3) := by decide +kernel
theorem dX9_isOpened_37 : decode cX9_isOpened 37 = .ok (.iconst 0, 1) := by decide +kernel
theorem dX9_isOpened_38 : decode cX9_isOpened 38 = .ok (.ireturn, 1) := by decide +kernel
theorem dX9_closes_0 : decode cX9_closes 0 = .ok (.aload_n 0, 1) := by decide +kernel
theorem dX9_closes_1 : decode cX9_closes 1 = .ok (.iconst 0, 1) := by decide +kernel
theorem dX9_closes_2 : decode cX9_closes 2 = .ok (.invokevirtual 217, 3) := by decide +kernel
theorem dX9_closes_5 : decode cX9_closes 5 = .ok (.aload_n 0, 1) := by decide +kernel
theorem dX9_closes_6 : decode cX9_closes 6 = .ok (.dup, 1) := by decide +kernel
theorem dX9_closes_7 : decode cX9_closes 7 = .ok (.getfield 183, 3) := by decide +kernel
theorem dX9_closes_10 : decode cX9_closes 10 = .ok (.iconst 1, 1) := by decide +kernel
theorem dX9_closes_11 : decode cX9_closes 11 = .ok (.isub, 1) := by decide +kernel
theorem dX9_closes_12 : decode cX9_closes 12 = .ok (.putfield 183, 3) := by decide +kernel
theorem dX9_closes_15 : decode cX9_closes 15 = .ok (.aload_n 0, 1) := by decide +kernel
theorem dX9_closes_16 : decode cX9_closes 16 = .ok (.dup, 1) := by decide +kernel
theorem dX9_closes_17 : decode cX9_closes 17 = .ok (.getfield 202, 3) := by decide +kernel
theorem dX9_closes_20 : decode cX9_closes 20 = .ok (.iconst 1, 1) := by decide +kernel
theorem dX9_closes_21 : decode cX9_closes 21 = .ok (.isub, 1) := by decide +kernel
theorem dX9_closes_22 : decode cX9_closes 22 = .ok (.putfield 202, 3) := by decide +kernel
theorem dX9_closes_25 : decode cX9_closes 25 = .ok (.aload_n 0, 1) := by decide +kernel
theorem dX9_closes_26 : decode cX9_closes 26 = .ok (.invokevirtual 174, 3) := by decide +kernel
theorem dX9_closes_29 : decode cX9_closes 29 = .ok (.return_, 1) := by decide +kernel
theorem dX9_expression_0 : decode cX9_expression 0 = .ok (.aload_n 0, 1) := by decide +kernel
theorem dX9_expression_1 : decode cX9_expression 1 = .ok (.invokevirtual 170, 3) := by decide +kernel
theorem dX9_expression_4 : decode cX9_expression 4 = .ok (.ifCond .ne 4, 3) := by decide +kernel
theorem dX9_expression_7 : decode cX9_expression 7 = .ok (.return_, 1) := by decide +kernel
theorem dX9_expression_8 : decode cX9_expression 8 = .ok (.aload_n 0, 1) := by decide +kernel
theorem dX9_expression_9 : decode cX9_expression 9 = .ok (.iload_n 1, 1) := by decide +kernel
theorem dX9_expression_10 : decode cX9_expression 10 = .ok (.putfield 199, 3) := by decide +kernel
theorem dX9_expression_13 : decode cX9_expression 13 = .ok (.aload_n 0, 1) := by decide +kernel
theorem dX9_expression_14 : decode cX9_expression 14 = .ok (.iconst 0, 1) := by decide +kernel
theorem dX9_expression_15 : decode cX9_expression 15 = .ok (.putfield 183, 3) := by decide +kernel
theorem dX9_expression_18 : decode cX9_expression 18 = .ok (.aload_n 0, 1) := by decide +kernel
theorem dX9_expression_19 : decode cX9_expression 19 = .ok (.iconst 0, 1) := by decide +kernel
theorem dX9_expression_20 : decode cX9_expression 20 = .ok (.putfield 202, 3) := by decide +kernel
theorem dX9_expression_23 : decode cX9_expression 23 = .ok (.aload_n 0, 1) := by decide +kernel
theorem dX9_expression_24 : decode cX9_expression 24 = .ok (.invokevirtual 211, 3) := by decide +kernel
theorem dX9_expression_27 : decode cX9_expression 27 = .ok (.aload_n 0, 1) := by decide +kernel
theorem dX9_expression_28 : decode cX9_expression 28 = .ok (.iconst 1, 1) := by decide +kernel
theorem dX9_expression_29 : decode cX9_expression 29 = .ok (.invokevirtual 220, 3) := by decide +kernel
theorem dX9_expression_32 : decode cX9_expression 32 = .ok (.iconst 1, 1) := by decide +kernel
theorem dX9_expression_33 : decode cX9_expression 33 = .ok (.istore_n 2, 1) := by decide +kernel
theorem dX9_expression_34 : decode cX9_expression 34 = .ok (.iload_n 2, 1) := by decide +kernel
theorem dX9_expression_35 : decode cX9_expression 35 = .ok (.ifCond .eq 295, 3) := by decide +kernel
theorem dX9_expression_38 : decode cX9_expression 38 = .ok (.aload_n 0, 1) := by decide +kernel
theorem dX9_expression_39 : decode cX9_expression 39 = .ok (.invokevirtual 170, 3) := by decide +kernel
theorem dX9_expression_42 : decode cX9_expression 42 = .ok (.ifCond .eq 288, 3) := by decide +kernel
theorem dX9_expression_45 : decode cX9_expression 45 = .ok (.aload_n 0, 1) := by decide +kernel
theorem dX9_expression_46 : decode cX9_expression 46 = .ok (.invokevirtual 195, 3) := by decide +kernel
theorem dX9_expression_49 : decode cX9_expression 49 = .ok (.istore_n 3, 1) := by decide +kernel
theorem dX9_expression_50 : decode cX9_expression 50 = .ok (.iload_n 3, 1) := by decide +kernel
theorem dX9_expression_51 : decode cX9_expression 51 = .ok (.bipush 12, 2) := by decide +kernel
theorem dX9_expression_53 : decode cX9_expression 53 = .ok (.if_icmp .eq 9, 3) := by decide +kernel
theorem dX9_expression_56 : decode cX9_expression 56 = .ok (.iload_n 3, 1) := by decide +kernel
theorem dX9_expression_57 : decode cX9_expression 57 = .ok (.bipush 13, 2) := by decide +kernel
theorem dX9_expression_59 : decode cX9_expression 59 = .ok (.if_icmp .ne 55, 3) := by decide +kernel
theorem dX9_expression_62 : decode cX9_expression 62 = .ok (.aload_n 0, 1) := by decide +kernel
theorem dX9_expression_63 : decode cX9_expression 63 = .ok (.iload_n 3, 1) := by decide +kernel
theorem dX9_expression_64 : decode cX9_expression 64 = .ok (.bipush 12, 2) := by decide +kernel
theorem dX9_expression_66 : decode cX9_expression 66 = .ok (.if_icmp .ne 7, 3) := by decide +kernel
theorem dX9_expression_69 : decode cX9_expression 69 = .ok (.iconst 2, 1) := by decide +kernel
theorem dX9_expression_70 : decode cX9_expression 70 = .ok (.goto 4, 3) := by decide +kernel
theorem dX9_expression_73 : decode cX9_expression 73 = .ok (.iconst 1, 1) := by decide +kernel
theorem dX9_expression_74 : decode cX9_expression 74 = .ok (.invokevirtual 217, 3) := by decide +kernel
theorem dX9_expression_77 : decode cX9_expression 77 = .ok (.aload_n 0, 1) := by decide +kernel
theorem dX9_expression_78 : decode cX9_expression 78 = .ok (.iload_n 3, 1) := by decide +kernel
theorem dX9_expression_79 : decode cX9_expression 79 = .ok (.bipush 12, 2) := by decide +kernel
theorem dX9_expression_81 : decode cX9_expression 81 = .ok (.if_icmp .ne 7, 3) := by decide +kernel
theorem dX9_expression_84 : decode cX9_expression 84 = .ok (.iconst 4, 1) := by decide +kernel
theorem dX9_expression_85 : decode cX9_expression 85 = .ok (.goto 4, 3) := by decide +kernel
theorem dX9_expression_88 : decode cX9_expression 88 = .ok (.iconst 5, 1) := by decide +kernel
theorem dX9_expression_89 : decode cX9_expression 89 = .ok (.invokevirtual 208, 3) := by decide +kernel
theorem dX9_expression_92 : decode cX9_expression 92 = .ok (.aload_n 0, 1) := by decide +kernel
theorem dX9_expression_93 : decode cX9_expression 93 = .ok (.getfield 62, 3) := by decide +kernel
theorem dX9_expression_96 : decode cX9_expression 96 = .ok (.aload_n 0, 1) := by decide +kernel
theorem dX9_expression_97 : decode cX9_expression 97 = .ok (.getfield 202, 3) := by decide +kernel
theorem dX9_expression_100 : decode cX9_expression 100 = .ok (.iconst 0, 1) := by decide +kernel
theorem dX9_expression_101 : decode cX9_expression 101 = .ok (.bastore, 1) := by decide +kernel
theorem dX9_expression_102 : decode cX9_expression 102 = .ok (.aload_n 0, 1) := by decide +kernel
theorem dX9_expression_103 : decode cX9_expression 103 = .ok (.invokevirtual 174, 3) := by decide +kernel
theorem dX9_expression_106 : decode cX9_expression 106 = .ok (.aload_n 0, 1) := by decide +kernel
theorem dX9_expression_107 : decode cX9_expression 107 = .ok (.iconst 1, 1) := by decide +kernel
theorem dX9_expression_108 : decode cX9_expression 108 = .ok (.invokevirtual 220, 3) := by decide +kernel
theorem dX9_expression_111 : decode cX9_expression 111 = .ok (.goto 216, 3) := by decide +kernel
theorem dX9_expression_114 : decode cX9_expression 114 = .ok (.aload_n 0, 1) := by decide +kernel
theorem dX9_expression_115 : decode cX9_expression 115 = .ok (.bipush 60, 2) := by decide +kernel
theorem dX9_expression_117 : decode cX9_expression 117 = .ok (.invokevirtual 205, 3) := by decide +kernel
theorem dX9_expression_120 : decode cX9_expression 120 = .ok (.ifCond .ne 12, 3) := by decide +kernel
theorem dX9_expression_123 : decode cX9_expression 123 = .ok (.aload_n 0, 1) := by decide +kernel
theorem dX9_expression_124 : decode cX9_expression 124 = .ok (.bipush 61, 2) := by decide +kernel
theorem dX9_expression_126 : decode cX9_expression 126 = .ok (.invokevirtual 205, 3) := by decide +kernel
theorem dX9_expression_129 : decode cX9_expression 129 = .ok (.ifCond .eq 62, 3) := by decide +kernel
theorem dX9_expression_132 : decode cX9_expression 132 = .ok (.aload_n 0, 1) := by decide +kernel
theorem dX9_expression_133 : decode cX9_expression 133 = .ok (.getfield 62, 3) := by decide +kernel
theorem dX9_expression_136 : decode cX9_expression 136 = .ok (.aload_n 0, 1) := by decide +kernel
theorem dX9_expression_137 : decode cX9_expression 137 = .ok (.getfield 202, 3) := by decide +kernel
theorem dX9_expression_140 : decode cX9_expression 140 = .ok (.baload, 1) := by decide +kernel
theorem dX9_expression_141 : decode cX9_expression 141 = .ok (.ifCond .ne 50, 3) := by decide +kernel
theorem dX9_expression_144 : decode cX9_expression 144 = .ok (.aload_n 0, 1) := by decide +kernel
theorem dX9_expression_145 : decode cX9_expression 145 = .ok (.iconst 4, 1) := by decide +kernel
theorem dX9_expression_146 : decode cX9_expression 146 = .ok (.invokevirtual 217, 3) := by decide +kernel
theorem dX9_expression_149 : decode cX9_expression 149 = .ok (.aload_n 0, 1) := by decide +kernel
theorem dX9_expression_150 : decode cX9_expression 150 = .ok (.aload_n 0, 1) := by decide +kernel
theorem dX9_expression_151 : decode cX9_expression 151 = .ok (.bipush 60, 2) := by decide +kernel
theorem dX9_expression_153 : decode cX9_expression 153 = .ok (.invokevirtual 205, 3) := by decide +kernel
theorem dX9_expression_156 : decode cX9_expression 156 = .ok (.ifCond .eq 8, 3) := by decide +kernel
theorem dX9_expression_159 : decode cX9_expression 159 = .ok (.bipush 6, 2) := by decide +kernel
theorem dX9_expression_161 : decode cX9_expression 161 = .ok (.goto 5, 3) := by decide +kernel
theorem dX9_expression_164 : decode cX9_expression 164 = .ok (.bipush 7, 2) := by decide +kernel
theorem dX9_expression_166 : decode cX9_expression 166 = .ok (.invokevirtual 208, 3) := by decide +kernel
theorem dX9_expression_169 : decode cX9_expression 169 = .ok (.aload_n 0, 1) := by decide +kernel
theorem dX9_expression_170 : decode cX9_expression 170 = .ok (.getfield 62, 3) := by decide +kernel
theorem dX9_expression_173 : decode cX9_expression 173 = .ok (.aload_n 0, 1) := by decide +kernel
theorem dX9_expression_174 : decode cX9_expression 174 = .ok (.getfield 202, 3) := by decide +kernel
theorem dX9_expression_177 : decode cX9_expression 177 = .ok (.iconst 1, 1) := by decide +kernel
theorem dX9_expression_178 : decode cX9_expression 178 = .ok (.bastore, 1) := by decide +kernel
theorem dX9_expression_179 : decode cX9_expression 179 = .ok (.aload_n 0, 1) := by decide +kernel
theorem dX9_expression_180 : decode cX9_expression 180 = .ok (.invokevirtual 174, 3) := by decide +kernel
theorem dX9_expression_183 : decode cX9_expression 183 = .ok (.aload_n 0, 1) := by decide +kernel
theorem dX9_expression_184 : decode cX9_expression 184 = .ok (.iconst 0, 1) := by decide +kernel
theorem dX9_expression_185 : decode cX9_expression 185 = .ok (.invokevirtual 220, 3) := by decide +kernel
theorem dX9_expression_188 : decode cX9_expression 188 = .ok (.goto 139, 3) := by decide +kernel
theorem dX9_expression_191 : decode cX9_expression 191 = .ok (.aload_n 0, 1) := by decide +kernel
theorem dX9_expression_192 : decode cX9_expression 192 = .ok (.bipush 43, 2) := by decide +kernel
theorem dX9_expression_194 : decode cX9_expression 194 = .ok (.invokevirtual 205, 3) := by decide +kernel
theorem dX9_expression_197 : decode cX9_expression 197 = .ok (.ifCond .ne 12, 3) := by decide +kernel
theorem dX9_expression_200 : decode cX9_expression 200 = .ok (.aload_n 0, 1) := by decide +kernel
theorem dX9_expression_201 : decode cX9_expression 201 = .ok (.bipush 45, 2) := by decide +kernel
theorem dX9_expression_203 : decode cX9_expression 203 = .ok (.invokevirtual 205, 3) := by decide +kernel
theorem dX9_expression_206 : decode cX9_expression 206 = .ok (.ifCond .eq 40, 3) := by decide +kernel
theorem dX9_expression_209 : decode cX9_expression 209 = .ok (.aload_n 0, 1) := by decide +kernel
theorem dX9_expression_210 : decode cX9_expression 210 = .ok (.iconst 5, 1) := by decide +kernel
theorem dX9_expression_211 : decode cX9_expression 211 = .ok (.invokevirtual 217, 3) := by decide +kernel
theorem dX9_expression_214 : decode cX9_expression 214 = .ok (.aload_n 0, 1) := by decide +kernel
theorem dX9_expression_215 : decode cX9_expression 215 = .ok (.aload_n 0, 1) := by decide +kernel
theorem dX9_expression_216 : decode cX9_expression 216 = .ok (.bipush 43, 2) := by decide +kernel
theorem dX9_expression_218 : decode cX9_expression 218 = .ok (.invokevirtual 205, 3) := by decide +kernel
theorem dX9_expression_221 : decode cX9_expression 221 = .ok (.ifCond .eq 8, 3) := by decide +kernel
theorem dX9_expression_224 : decode cX9_expression 224 = .ok (.bipush 8, 2) := by decide +kernel
theorem dX9_expression_226 : decode cX9_expression 226 = .ok (.goto 5, 3) := by decide +kernel
theorem dX9_expression_229 : decode cX9_expression 229 = .ok (.bipush 9, 2) := by decide +kernel
theorem dX9_expression_231 : decode cX9_expression 231 = .ok (.invokevirtual 208, 3) := by decide +kernel
theorem dX9_expression_234 : decode cX9_expression 234 = .ok (.aload_n 0, 1) := by decide +kernel
theorem dX9_expression_235 : decode cX9_expression 235 = .ok (.invokevirtual 174, 3) := by decide +kernel
theorem dX9_expression_238 : decode cX9_expression 238 = .ok (.aload_n 0, 1) := by decide +kernel
theorem dX9_expression_239 : decode cX9_expression 239 = .ok (.iconst 0, 1) := by decide +kernel
theorem dX9_expression_240 : decode cX9_expression 240 = .ok (.invokevirtual 220, 3) := by decide +kernel
theorem dX9_expression_243 : decode cX9_expression 243 = .ok (.goto 84, 3) := by decide +kernel
theorem dX9_expression_246 : decode cX9_expression 246 = .ok (.aload_n 0, 1) := by decide +kernel
theorem dX9_expression_247 : decode cX9_expression 247 = .ok (.bipush 42, 2) := by decide +kernel
theorem dX9_expression_249 : decode cX9_expression 249 = .ok (.invokevirtual 205, 3) := by decide +kernel
theorem dX9_expression_252 : decode cX9_expression 252 = .ok (.ifCond .ne 12, 3) := by decide +kernel
theorem dX9_expression_255 : decode cX9_expression 255 = .ok (.aload_n 0, 1) := by decide +kernel
theorem dX9_expression_256 : decode cX9_expression 256 = .ok (.bipush 47, 2) := by decide +kernel
theorem dX9_expression_258 : decode cX9_expression 258 = .ok (.invokevirtual 205, 3) := by decide +kernel
theorem dX9_expression_261 : decode cX9_expression 261 = .ok (.ifCond .eq 41, 3) := by decide +kernel
theorem dX9_expression_264 : decode cX9_expression 264 = .ok (.aload_n 0, 1) := by decide +kernel
theorem dX9_expression_265 : decode cX9_expression 265 = .ok (.bipush 6, 2) := by decide +kernel
theorem dX9_expression_267 : decode cX9_expression 267 = .ok (.invokevirtual 217, 3) := by decide +kernel
theorem dX9_expression_270 : decode cX9_expression 270 = .ok (.aload_n 0, 1) := by decide +kernel
theorem dX9_expression_271 : decode cX9_expression 271 = .ok (.aload_n 0, 1) := by decide +kernel
theorem dX9_expression_272 : decode cX9_expression 272 = .ok (.bipush 42, 2) := by decide +kernel
theorem dX9_expression_274 : decode cX9_expression 274 = .ok (.invokevirtual 205, 3) := by decide +kernel
theorem dX9_expression_277 : decode cX9_expression 277 = .ok (.ifCond .eq 8, 3) := by decide +kernel
theorem dX9_expression_280 : decode cX9_expression 280 = .ok (.bipush 10, 2) := by decide +kernel
theorem dX9_expression_282 : decode cX9_expression 282 = .ok (.goto 5, 3) := by decide +kernel
theorem dX9_expression_285 : decode cX9_expression 285 = .ok (.bipush 11, 2) := by decide +kernel
theorem dX9_expression_287 : decode cX9_expression 287 = .ok (.invokevirtual 208, 3) := by decide +kernel
theorem dX9_expression_290 : decode cX9_expression 290 = .ok (.aload_n 0, 1) := by decide +kernel
theorem dX9_expression_291 : decode cX9_expression 291 = .ok (.invokevirtual 174, 3) := by decide +kernel
theorem dX9_expression_294 : decode cX9_expression 294 = .ok (.aload_n 0, 1) := by decide +kernel
theorem dX9_expression_295 : decode cX9_expression 295 = .ok (.iconst 0, 1) := by decide +kernel
theorem dX9_expression_296 : decode cX9_expression 296 = .ok (.invokevirtual 220, 3) := by decide +kernel
theorem dX9_expression_299 : decode cX9_expression 299 = .ok (.goto 28, 3) := by decide +kernel
theorem dX9_expression_302 : decode cX9_expression 302 = .ok (.aload_n 0, 1) := by decide +kernel
theorem dX9_expression_303 : decode cX9_expression 303 = .ok (.bipush 41, 2) := by decide +kernel
theorem dX9_expression_305 : decode cX9_expression 305 = .ok (.invokevirtual 205, 3) := by decide +kernel
theorem dX9_expression_308 : decode cX9_expression 308 = .ok (.ifCond .eq 17, 3) := by decide +kernel
theorem dX9_expression_311 : decode cX9_expression 311 = .ok (.aload_n 0, 1) := by decide +kernel
theorem dX9_expression_312 : decode cX9_expression 312 = .ok (.invokevirtual 224, 3) := by decide +kernel
theorem dX9_expression_315 : decode cX9_expression 315 = .ok (.ifCond .eq 10, 3) := by decide +kernel
theorem dX9_expression_318 : decode cX9_expression 318 = .ok (.aload_n 0, 1) := by decide +kernel
theorem dX9_expression_319 : decode cX9_expression 319 = .ok (.invokevirtual 227, 3) := by decide +kernel
theorem dX9_expression_322 : decode cX9_expression 322 = .ok (.goto 5, 3) := by decide +kernel
theorem dX9_expression_325 : decode cX9_expression 325 = .ok (.iconst 0, 1) := by decide +kernel
theorem dX9_expression_326 : decode cX9_expression 326 = .ok (.istore_n 2, 1) := by decide +kernel
theorem dX9_expression_327 : decode cX9_expression 327 = .ok (.goto (-293), 3) := by decide +kernel
theorem dX9_expression_330 : decode cX9_expression 330 = .ok (.aload_n 0, 1) := by decide +kernel
theorem dX9_expression_331 : decode cX9_expression 331 = .ok (.invokevirtual 170, 3) := by decide +kernel
theorem dX9_expression_334 : decode cX9_expression 334 = .ok (.ifCond .eq 16, 3) := by decide +kernel
theorem dX9_expression_337 : decode cX9_expression 337 = .ok (.aload_n 0, 1) := by decide +kernel
theorem dX9_expression_338 : decode cX9_expression 338 = .ok (.getfield 202, 3) := by decide +kernel
theorem dX9_expression_341 : decode cX9_expression 341 = .ok (.iconst 1, 1) := by decide +kernel
theorem dX9_expression_342 : decode cX9_expression 342 = .ok (.if_icmp .le 8, 3) := by decide +kernel
theorem dX9_expression_345 : decode cX9_expression 345 = .ok (.aload_n 0, 1) := by decide +kernel
theorem dX9_expression_346 : decode cX9_expression 346 = .ok (.iconst 1, 1) := by decide +kernel
theorem dX9_expression_347 : decode cX9_expression 347 = .ok (.invokevirtual 177, 3) := by decide +kernel
theorem dX9_expression_350 : decode cX9_expression 350 = .ok (.aload_n 0, 1) := by decide +kernel
theorem dX9_expression_351 : decode cX9_expression 351 = .ok (.iconst 0, 1) := by decide +kernel
theorem dX9_expression_352 : decode cX9_expression 352 = .ok (.invokevirtual 217, 3) := by decide +kernel
theorem dX9_expression_355 : decode cX9_expression 355 = .ok (.aload_n 0, 1) := by decide +kernel
theorem dX9_expression_356 : decode cX9_expression 356 = .ok (.iconst 0, 1) := by decide +kernel
theorem dX9_expression_357 : decode cX9_expression 357 = .ok (.invokevirtual 192, 3) := by decide +kernel
theorem dX9_expression_360 : decode cX9_expression 360 = .ok (.return_, 1) := by decide +kernel
theorem dX9_begins_0 : decode cX9_begins 0 = .ok (.iload_n 1, 1) := by decide +kernel
theorem dX9_begins_1 : decode cX9_begins 1 = .ok (.ifCond .eq 8, 3) := by decide +kernel
theorem dX9_begins_4 : decode cX9_begins 4 = .ok (.aload_n 0, 1) := by decide +kernel
theorem dX9_begins_5 : decode cX9_begins 5 = .ok (.iconst 2, 1) := by decide +kernel
theorem dX9_begins_6 : decode cX9_begins 6 = .ok (.invokevirtual 177, 3) := by decide +kernel
theorem dX9_begins_9 : decode cX9_begins 9 = .ok (.iload_n 2, 1) := by decide +kernel
theorem dX9_begins_10 : decode cX9_begins 10 = .ok (.ifCond .eq 8, 3) := by decide +kernel
theorem dX9_begins_13 : decode cX9_begins 13 = .ok (.aload_n 0, 1) := by decide +kernel
theorem dX9_begins_14 : decode cX9_begins 14 = .ok (.iconst 5, 1) := by decide +kernel
theorem dX9_begins_15 : decode cX9_begins 15 = .ok (.invokevirtual 177, 3) := by decide +kernel
theorem dX9_begins_18 : decode cX9_begins 18 = .ok (.aload_n 0, 1) := by decide +kernel
theorem dX9_begins_19 : decode cX9_begins 19 = .ok (.invokevirtual 170, 3) := by decide +kernel
theorem dX9_begins_22 : decode cX9_begins 22 = .ok (.ifCond .ne 5, 3) := by decide +kernel
theorem dX9_begins_25 : decode cX9_begins 25 = .ok (.iconst 0, 1) := by decide +kernel
theorem dX9_begins_26 : decode cX9_begins 26 = .ok (.ireturn, 1) := by decide +kernel
theorem dX9_begins_27 : decode cX9_begins 27 = .ok (.aload_n 0, 1) := by decide +kernel
theorem dX9_begins_28 : decode cX9_begins 28 = .ok (.invokevirtual 174, 3) := by decide +kernel
theorem dX9_begins_31 : decode cX9_begins 31 = .ok (.iconst 1, 1) := by decide +kernel
theorem dX9_begins_32 : decode cX9_begins 32 = .ok (.ireturn, 1) := by decide +kernel
theorem dX9_readsHouse_0 : decode cX9_readsHouse 0 = .ok (.aload_n 0, 1) := by decide +kernel
theorem dX9_readsHouse_1 : decode cX9_readsHouse 1 = .ok (.getfield 230, 3) := by decide +kernel
theorem dX9_readsHouse_4 : decode cX9_readsHouse 4 = .ok (.istore_n 1, 1) := by decide +kernel
theorem dX9_readsHouse_5 : decode cX9_readsHouse 5 = .ok (.aload_n 0, 1) := by decide +kernel
theorem dX9_readsHouse_6 : decode cX9_readsHouse 6 = .ok (.getfield 53, 3) := by decide +kernel
theorem dX9_readsHouse_9 : decode cX9_readsHouse 9 = .ok (.iconst 3, 1) := by decide +kernel
theorem dX9_readsHouse_10 : decode cX9_readsHouse 10 = .ok (.iload_n 1, 1) := by decide +kernel
theorem dX9_readsHouse_11 : decode cX9_readsHouse 11 = .ok (.iadd, 1) := by decide +kernel
theorem dX9_readsHouse_12 : decode cX9_readsHouse 12 = .ok (.aload_n 0, 1) := by decide +kernel
theorem dX9_readsHouse_13 : decode cX9_readsHouse 13 = .ok (.iconst 1, 1) := by decide +kernel
theorem dX9_readsHouse_14 : decode cX9_readsHouse 14 = .ok (.bipush 60, 2) := by decide +kernel
theorem dX9_readsHouse_16 : decode cX9_readsHouse 16 = .ok (.invokevirtual 233, 3) := by decide +kernel
theorem dX9_readsHouse_19 : decode cX9_readsHouse 19 = .ok (.iastore, 1) := by decide +kernel
theorem dX9_readsHouse_20 : decode cX9_readsHouse 20 = .ok (.aload_n 0, 1) := by decide +kernel
theorem dX9_readsHouse_21 : decode cX9_readsHouse 21 = .ok (.getfield 41, 3) := by decide +kernel
theorem dX9_readsHouse_24 : decode cX9_readsHouse 24 = .ok (.iload_n 1, 1) := by decide +kernel
theorem dX9_readsHouse_25 : decode cX9_readsHouse 25 = .ok (.aload_n 0, 1) := by decide +kernel
theorem dX9_readsHouse_26 : decode cX9_readsHouse 26 = .ok (.iconst 0, 1) := by decide +kernel
theorem dX9_readsHouse_27 : decode cX9_readsHouse 27 = .ok (.bipush 9, 2) := by decide +kernel
theorem dX9_readsHouse_29 : decode cX9_readsHouse 29 = .ok (.invokevirtual 233, 3) := by decide +kernel
theorem dX9_readsHouse_32 : decode cX9_readsHouse 32 = .ok (.iastore, 1) := by decide +kernel
theorem dX9_readsHouse_33 : decode cX9_readsHouse 33 = .ok (.aload_n 0, 1) := by decide +kernel
theorem dX9_readsHouse_34 : decode cX9_readsHouse 34 = .ok (.getfield 44, 3) := by decide +kernel
theorem dX9_readsHouse_37 : decode cX9_readsHouse 37 = .ok (.iload_n 1, 1) := by decide +kernel
theorem dX9_readsHouse_38 : decode cX9_readsHouse 38 = .ok (.aload_n 0, 1) := by decide +kernel
theorem dX9_readsHouse_39 : decode cX9_readsHouse 39 = .ok (.iconst 0, 1) := by decide +kernel
theorem dX9_readsHouse_40 : decode cX9_readsHouse 40 = .ok (.bipush 30, 2) := by decide +kernel
theorem dX9_readsHouse_42 : decode cX9_readsHouse 42 = .ok (.invokevirtual 233, 3) := by decide +kernel
theorem dX9_readsHouse_45 : decode cX9_readsHouse 45 = .ok (.iastore, 1) := by decide +kernel
theorem dX9_readsHouse_46 : decode cX9_readsHouse 46 = .ok (.aload_n 0, 1) := by decide +kernel
theorem dX9_readsHouse_47 : decode cX9_readsHouse 47 = .ok (.getfield 53, 3) := by decide +kernel
theorem dX9_readsHouse_50 : decode cX9_readsHouse 50 = .ok (.bipush 11, 2) := by decide +kernel
theorem dX9_readsHouse_52 : decode cX9_readsHouse 52 = .ok (.iload_n 1, 1) := by decide +kernel
theorem dX9_readsHouse_53 : decode cX9_readsHouse 53 = .ok (.iadd, 1) := by decide +kernel
theorem dX9_readsHouse_54 : decode cX9_readsHouse 54 = .ok (.iconst 0, 1) := by decide +kernel
theorem dX9_readsHouse_55 : decode cX9_readsHouse 55 = .ok (.iastore, 1) := by decide +kernel
theorem dX9_readsHouse_56 : decode cX9_readsHouse 56 = .ok (.aload_n 0, 1) := by decide +kernel
theorem dX9_readsHouse_57 : decode cX9_readsHouse 57 = .ok (.getfield 53, 3) := by decide +kernel
theorem dX9_readsHouse_60 : decode cX9_readsHouse 60 = .ok (.bipush 19, 2) := by decide +kernel
theorem dX9_readsHouse_62 : decode cX9_readsHouse 62 = .ok (.iload_n 1, 1) := by decide +kernel
theorem dX9_readsHouse_63 : decode cX9_readsHouse 63 = .ok (.iadd, 1) := by decide +kernel
theorem dX9_readsHouse_64 : decode cX9_readsHouse 64 = .ok (.iconst (-1), 1) := by decide +kernel
theorem dX9_readsHouse_65 : decode cX9_readsHouse 65 = .ok (.iastore, 1) := by decide +kernel
theorem dX9_readsHouse_66 : decode cX9_readsHouse 66 = .ok (.aload_n 0, 1) := by decide +kernel
theorem dX9_readsHouse_67 : decode cX9_readsHouse 67 = .ok (.invokevirtual 170, 3) := by decide +kernel
theorem dX9_readsHouse_70 : decode cX9_readsHouse 70 = .ok (.ifCond .eq 13, 3) := by decide +kernel
theorem dX9_readsHouse_73 : decode cX9_readsHouse 73 = .ok (.aload_n 0, 1) := by decide +kernel
theorem dX9_readsHouse_74 : decode cX9_readsHouse 74 = .ok (.dup, 1) := by decide +kernel
theorem dX9_readsHouse_75 : decode cX9_readsHouse 75 = .ok (.getfield 230, 3) := by decide +kernel
theorem dX9_readsHouse_78 : decode cX9_readsHouse 78 = .ok (.iconst 1, 1) := by decide +kernel
theorem dX9_readsHouse_79 : decode cX9_readsHouse 79 = .ok (.iadd, 1) := by decide +kernel
theorem dX9_readsHouse_80 : decode cX9_readsHouse 80 = .ok (.putfield 230, 3) := by decide +kernel
theorem dX9_readsHouse_83 : decode cX9_readsHouse 83 = .ok (.return_, 1) := by decide +kernel
theorem dX9_readsPerson_0 : decode cX9_readsPerson 0 = .ok (.aload_n 0, 1) := by decide +kernel
theorem dX9_readsPerson_1 : decode cX9_readsPerson 1 = .ok (.getfield 237, 3) := by decide +kernel
theorem dX9_readsPerson_4 : decode cX9_readsPerson 4 = .ok (.istore_n 1, 1) := by decide +kernel
theorem dX9_readsPerson_5 : decode cX9_readsPerson 5 = .ok (.aload_n 0, 1) := by decide +kernel
theorem dX9_readsPerson_6 : decode cX9_readsPerson 6 = .ok (.getfield 53, 3) := by decide +kernel
theorem dX9_readsPerson_9 : decode cX9_readsPerson 9 = .ok (.bipush 27, 2) := by decide +kernel
theorem dX9_readsPerson_11 : decode cX9_readsPerson 11 = .ok (.iload_n 1, 1) := by decide +kernel
theorem dX9_readsPerson_12 : decode cX9_readsPerson 12 = .ok (.iadd, 1) := by decide +kernel
theorem dX9_readsPerson_13 : decode cX9_readsPerson 13 = .ok (.aload_n 0, 1) := by decide +kernel
theorem dX9_readsPerson_14 : decode cX9_readsPerson 14 = .ok (.iconst 1, 1) := by decide +kernel
theorem dX9_readsPerson_15 : decode cX9_readsPerson 15 = .ok (.bipush 60, 2) := by decide +kernel
theorem dX9_readsPerson_17 : decode cX9_readsPerson 17 = .ok (.invokevirtual 233, 3) := by decide +kernel
theorem dX9_readsPerson_20 : decode cX9_readsPerson 20 = .ok (.iastore, 1) := by decide +kernel
theorem dX9_readsPerson_21 : decode cX9_readsPerson 21 = .ok (.aload_n 0, 1) := by decide +kernel
theorem dX9_readsPerson_22 : decode cX9_readsPerson 22 = .ok (.getfield 47, 3) := by decide +kernel
theorem dX9_readsPerson_25 : decode cX9_readsPerson 25 = .ok (.iload_n 1, 1) := by decide +kernel
theorem dX9_readsPerson_26 : decode cX9_readsPerson 26 = .ok (.aload_n 0, 1) := by decide +kernel
theorem dX9_readsPerson_27 : decode cX9_readsPerson 27 = .ok (.iconst 0, 1) := by decide +kernel
theorem dX9_readsPerson_28 : decode cX9_readsPerson 28 = .ok (.bipush 9, 2) := by decide +kernel
theorem dX9_readsPerson_30 : decode cX9_readsPerson 30 = .ok (.invokevirtual 233, 3) := by decide +kernel
theorem dX9_readsPerson_33 : decode cX9_readsPerson 33 = .ok (.iastore, 1) := by decide +kernel
theorem dX9_readsPerson_34 : decode cX9_readsPerson 34 = .ok (.aload_n 0, 1) := by decide +kernel
theorem dX9_readsPerson_35 : decode cX9_readsPerson 35 = .ok (.getfield 53, 3) := by decide +kernel
theorem dX9_readsPerson_38 : decode cX9_readsPerson 38 = .ok (.bipush 35, 2) := by decide +kernel
theorem dX9_readsPerson_40 : decode cX9_readsPerson 40 = .ok (.iload_n 1, 1) := by decide +kernel
theorem dX9_readsPerson_41 : decode cX9_readsPerson 41 = .ok (.iadd, 1) := by decide +kernel
theorem dX9_readsPerson_42 : decode cX9_readsPerson 42 = .ok (.iconst 0, 1) := by decide +kernel
theorem dX9_readsPerson_43 : decode cX9_readsPerson 43 = .ok (.iastore, 1) := by decide +kernel
theorem dX9_readsPerson_44 : decode cX9_readsPerson 44 = .ok (.aload_n 0, 1) := by decide +kernel
theorem dX9_readsPerson_45 : decode cX9_readsPerson 45 = .ok (.invokevirtual 170, 3) := by decide +kernel
theorem dX9_readsPerson_48 : decode cX9_readsPerson 48 = .ok (.ifCond .eq 113, 3) := by decide +kernel
theorem dX9_readsPerson_51 : decode cX9_readsPerson 51 = .ok (.aload_n 0, 1) := by decide +kernel
theorem dX9_readsPerson_52 : decode cX9_readsPerson 52 = .ok (.invokevirtual 195, 3) := by decide +kernel
theorem dX9_readsPerson_55 : decode cX9_readsPerson 55 = .ok (.bipush 9, 2) := by decide +kernel
theorem dX9_readsPerson_57 : decode cX9_readsPerson 57 = .ok (.if_icmp .ne 104, 3) := by decide +kernel
theorem dX9_readsPerson_60 : decode cX9_readsPerson 60 = .ok (.aload_n 0, 1) := by decide +kernel
theorem dX9_readsPerson_61 : decode cX9_readsPerson 61 = .ok (.invokevirtual 174, 3) := by decide +kernel
theorem dX9_readsPerson_64 : decode cX9_readsPerson 64 = .ok (.aload_n 0, 1) := by decide +kernel
theorem dX9_readsPerson_65 : decode cX9_readsPerson 65 = .ok (.getfield 144, 3) := by decide +kernel
theorem dX9_readsPerson_68 : decode cX9_readsPerson 68 = .ok (.iconst 2, 1) := by decide +kernel
theorem dX9_readsPerson_69 : decode cX9_readsPerson 69 = .ok (.if_icmp .eq 11, 3) := by decide +kernel
theorem dX9_readsPerson_72 : decode cX9_readsPerson 72 = .ok (.aload_n 0, 1) := by decide +kernel
theorem dX9_readsPerson_73 : decode cX9_readsPerson 73 = .ok (.iconst 1, 1) := by decide +kernel
theorem dX9_readsPerson_74 : decode cX9_readsPerson 74 = .ok (.invokevirtual 177, 3) := by decide +kernel
theorem dX9_readsPerson_77 : decode cX9_readsPerson 77 = .ok (.goto 59, 3) := by decide +kernel
theorem dX9_readsPerson_80 : decode cX9_readsPerson 80 = .ok (.aload_n 0, 1) := by decide +kernel
theorem dX9_readsPerson_81 : decode cX9_readsPerson 81 = .ok (.getfield 154, 3) := by decide +kernel
theorem dX9_readsPerson_84 : decode cX9_readsPerson 84 = .ok (.iconst 4, 1) := by decide +kernel
theorem dX9_readsPerson_85 : decode cX9_readsPerson 85 = .ok (.if_icmp .le 11, 3) := by decide +kernel
theorem dX9_readsPerson_88 : decode cX9_readsPerson 88 = .ok (.aload_n 0, 1) := by decide +kernel
theorem dX9_readsPerson_89 : decode cX9_readsPerson 89 = .ok (.iconst 2, 1) := by decide +kernel
theorem dX9_readsPerson_90 : decode cX9_readsPerson 90 = .ok (.invokevirtual 177, 3) := by decide +kernel
theorem dX9_readsPerson_93 : decode cX9_readsPerson 93 = .ok (.goto 43, 3) := by decide +kernel
theorem dX9_readsPerson_96 : decode cX9_readsPerson 96 = .ok (.aload_n 0, 1) := by decide +kernel
theorem dX9_readsPerson_97 : decode cX9_readsPerson 97 = .ok (.getfield 138, 3) := by decide +kernel
theorem dX9_readsPerson_100 : decode cX9_readsPerson 100 = .ok (.aload_n 0, 1) := by decide +kernel
theorem dX9_readsPerson_101 : decode cX9_readsPerson 101 = .ok (.getfield 230, 3) := by decide +kernel
theorem dX9_readsPerson_104 : decode cX9_readsPerson 104 = .ok (.if_icmp .lt 11, 3) := by decide +kernel
theorem dX9_readsPerson_107 : decode cX9_readsPerson 107 = .ok (.aload_n 0, 1) := by decide +kernel
theorem dX9_readsPerson_108 : decode cX9_readsPerson 108 = .ok (.iconst 3, 1) := by decide +kernel
theorem dX9_readsPerson_109 : decode cX9_readsPerson 109 = .ok (.invokevirtual 177, 3) := by decide +kernel
theorem dX9_readsPerson_112 : decode cX9_readsPerson 112 = .ok (.goto 24, 3) := by decide +kernel
theorem dX9_readsPerson_115 : decode cX9_readsPerson 115 = .ok (.aload_n 0, 1) := by decide +kernel
theorem dX9_readsPerson_116 : decode cX9_readsPerson 116 = .ok (.getfield 53, 3) := by decide +kernel
theorem dX9_readsPerson_119 : decode cX9_readsPerson 119 = .ok (.bipush 19, 2) := by decide +kernel
theorem dX9_readsPerson_121 : decode cX9_readsPerson 121 = .ok (.aload_n 0, 1) := by decide +kernel
theorem dX9_readsPerson_122 : decode cX9_readsPerson 122 = .ok (.getfield 138, 3) := by decide +kernel
theorem dX9_readsPerson_125 : decode cX9_readsPerson 125 = .ok (.iadd, 1) := by decide +kernel
theorem dX9_readsPerson_126 : decode cX9_readsPerson 126 = .ok (.iaload, 1) := by decide +kernel
theorem dX9_readsPerson_127 : decode cX9_readsPerson 127 = .ok (.iconst (-1), 1) := by decide +kernel
theorem dX9_readsPerson_128 : decode cX9_readsPerson 128 = .ok (.if_icmp .eq 8, 3) := by decide +kernel
theorem dX9_readsPerson_131 : decode cX9_readsPerson 131 = .ok (.aload_n 0, 1) := by decide +kernel
theorem dX9_readsPerson_132 : decode cX9_readsPerson 132 = .ok (.iconst 4, 1) := by decide +kernel
theorem dX9_readsPerson_133 : decode cX9_readsPerson 133 = .ok (.invokevirtual 177, 3) := by decide +kernel
theorem dX9_readsPerson_136 : decode cX9_readsPerson 136 = .ok (.aload_n 0, 1) := by decide +kernel
theorem dX9_readsPerson_137 : decode cX9_readsPerson 137 = .ok (.invokevirtual 170, 3) := by decide +kernel
theorem dX9_readsPerson_140 : decode cX9_readsPerson 140 = .ok (.ifCond .ne 4, 3) := by decide +kernel
theorem dX9_readsPerson_143 : decode cX9_readsPerson 143 = .ok (.return_, 1) := by decide +kernel
theorem dX9_readsPerson_144 : decode cX9_readsPerson 144 = .ok (.aload_n 0, 1) := by decide +kernel
theorem dX9_readsPerson_145 : decode cX9_readsPerson 145 = .ok (.getfield 53, 3) := by decide +kernel
theorem dX9_readsPerson_148 : decode cX9_readsPerson 148 = .ok (.bipush 19, 2) := by decide +kernel
theorem dX9_readsPerson_150 : decode cX9_readsPerson 150 = .ok (.aload_n 0, 1) := by decide +kernel
theorem dX9_readsPerson_151 : decode cX9_readsPerson 151 = .ok (.getfield 138, 3) := by decide +kernel
theorem dX9_readsPerson_154 : decode cX9_readsPerson 154 = .ok (.iadd, 1) := by decide +kernel
theorem dX9_readsPerson_155 : decode cX9_readsPerson 155 = .ok (.iload_n 1, 1) := by decide +kernel
theorem dX9_readsPerson_156 : decode cX9_readsPerson 156 = .ok (.iastore, 1) := by decide +kernel
theorem dX9_readsPerson_157 : decode cX9_readsPerson 157 = .ok (.aload_n 0, 1) := by decide +kernel
theorem dX9_readsPerson_158 : decode cX9_readsPerson 158 = .ok (.invokevirtual 174, 3) := by decide +kernel
theorem dX9_readsPerson_161 : decode cX9_readsPerson 161 = .ok (.aload_n 0, 1) := by decide +kernel
theorem dX9_readsPerson_162 : decode cX9_readsPerson 162 = .ok (.invokevirtual 170, 3) := by decide +kernel
theorem dX9_readsPerson_165 : decode cX9_readsPerson 165 = .ok (.ifCond .eq 13, 3) := by decide +kernel
theorem dX9_readsPerson_168 : decode cX9_readsPerson 168 = .ok (.aload_n 0, 1) := by decide +kernel
theorem dX9_readsPerson_169 : decode cX9_readsPerson 169 = .ok (.dup, 1) := by decide +kernel
theorem dX9_readsPerson_170 : decode cX9_readsPerson 170 = .ok (.getfield 237, 3) := by decide +kernel
theorem dX9_readsPerson_173 : decode cX9_readsPerson 173 = .ok (.iconst 1, 1) := by decide +kernel
theorem dX9_readsPerson_174 : decode cX9_readsPerson 174 = .ok (.iadd, 1) := by decide +kernel
theorem dX9_readsPerson_175 : decode cX9_readsPerson 175 = .ok (.putfield 237, 3) := by decide +kernel
theorem dX9_readsPerson_178 : decode cX9_readsPerson 178 = .ok (.return_, 1) := by decide +kernel
theorem dX9_readsDamp_0 : decode cX9_readsDamp 0 = .ok (.iconst 1, 1) := by decide +kernel
theorem dX9_readsDamp_1 : decode cX9_readsDamp 1 = .ok (.istore_n 1, 1) := by decide +kernel
theorem dX9_readsDamp_2 : decode cX9_readsDamp 2 = .ok (.iload_n 1, 1) := by decide +kernel
theorem dX9_readsDamp_3 : decode cX9_readsDamp 3 = .ok (.ifCond .eq 85, 3) := by decide +kernel
theorem dX9_readsDamp_6 : decode cX9_readsDamp 6 = .ok (.aload_n 0, 1) := by decide +kernel
theorem dX9_readsDamp_7 : decode cX9_readsDamp 7 = .ok (.invokevirtual 170, 3) := by decide +kernel
theorem dX9_readsDamp_10 : decode cX9_readsDamp 10 = .ok (.ifCond .eq 78, 3) := by decide +kernel
theorem dX9_readsDamp_13 : decode cX9_readsDamp 13 = .ok (.aload_n 0, 1) := by decide +kernel
theorem dX9_readsDamp_14 : decode cX9_readsDamp 14 = .ok (.getfield 240, 3) := by decide +kernel
theorem dX9_readsDamp_17 : decode cX9_readsDamp 17 = .ok (.bipush 8, 2) := by decide +kernel
theorem dX9_readsDamp_19 : decode cX9_readsDamp 19 = .ok (.if_icmp .ne 16, 3) := by decide +kernel
theorem dX9_readsDamp_22 : decode cX9_readsDamp 22 = .ok (.aload_n 0, 1) := by decide +kernel
theorem dX9_readsDamp_23 : decode cX9_readsDamp 23 = .ok (.getfield 144, 3) := by decide +kernel
theorem dX9_readsDamp_26 : decode cX9_readsDamp 26 = .ok (.iconst 2, 1) := by decide +kernel
theorem dX9_readsDamp_27 : decode cX9_readsDamp 27 = .ok (.if_icmp .ne 8, 3) := by decide +kernel
theorem dX9_readsDamp_30 : decode cX9_readsDamp 30 = .ok (.aload_n 0, 1) := by decide +kernel
theorem dX9_readsDamp_31 : decode cX9_readsDamp 31 = .ok (.iconst 2, 1) := by decide +kernel
theorem dX9_readsDamp_32 : decode cX9_readsDamp 32 = .ok (.invokevirtual 177, 3) := by decide +kernel
theorem dX9_readsDamp_35 : decode cX9_readsDamp 35 = .ok (.aload_n 0, 1) := by decide +kernel
theorem dX9_readsDamp_36 : decode cX9_readsDamp 36 = .ok (.iconst 0, 1) := by decide +kernel
theorem dX9_readsDamp_37 : decode cX9_readsDamp 37 = .ok (.bipush 9, 2) := by decide +kernel
theorem dX9_readsDamp_39 : decode cX9_readsDamp 39 = .ok (.invokevirtual 233, 3) := by decide +kernel
theorem dX9_readsDamp_42 : decode cX9_readsDamp 42 = .ok (.istore_n 2, 1) := by decide +kernel
theorem dX9_readsDamp_43 : decode cX9_readsDamp 43 = .ok (.aload_n 0, 1) := by decide +kernel
theorem dX9_readsDamp_44 : decode cX9_readsDamp 44 = .ok (.invokevirtual 170, 3) := by decide +kernel
theorem dX9_readsDamp_47 : decode cX9_readsDamp 47 = .ok (.ifCond .ne 4, 3) := by decide +kernel
theorem dX9_readsDamp_50 : decode cX9_readsDamp 50 = .ok (.return_, 1) := by decide +kernel
theorem dX9_readsDamp_51 : decode cX9_readsDamp 51 = .ok (.aload_n 0, 1) := by decide +kernel
theorem dX9_readsDamp_52 : decode cX9_readsDamp 52 = .ok (.getfield 50, 3) := by decide +kernel
theorem dX9_readsDamp_55 : decode cX9_readsDamp 55 = .ok (.aload_n 0, 1) := by decide +kernel
theorem dX9_readsDamp_56 : decode cX9_readsDamp 56 = .ok (.getfield 240, 3) := by decide +kernel
theorem dX9_readsDamp_59 : decode cX9_readsDamp 59 = .ok (.iload_n 2, 1) := by decide +kernel
theorem dX9_readsDamp_60 : decode cX9_readsDamp 60 = .ok (.iastore, 1) := by decide +kernel
theorem dX9_readsDamp_61 : decode cX9_readsDamp 61 = .ok (.aload_n 0, 1) := by decide +kernel
theorem dX9_readsDamp_62 : decode cX9_readsDamp 62 = .ok (.dup, 1) := by decide +kernel
theorem dX9_readsDamp_63 : decode cX9_readsDamp 63 = .ok (.getfield 240, 3) := by decide +kernel
theorem dX9_readsDamp_66 : decode cX9_readsDamp 66 = .ok (.iconst 1, 1) := by decide +kernel
theorem dX9_readsDamp_67 : decode cX9_readsDamp 67 = .ok (.iadd, 1) := by decide +kernel
theorem dX9_readsDamp_68 : decode cX9_readsDamp 68 = .ok (.putfield 240, 3) := by decide +kernel
theorem dX9_readsDamp_71 : decode cX9_readsDamp 71 = .ok (.aload_n 0, 1) := by decide +kernel
theorem dX9_readsDamp_72 : decode cX9_readsDamp 72 = .ok (.getfield 144, 3) := by decide +kernel
theorem dX9_readsDamp_75 : decode cX9_readsDamp 75 = .ok (.iconst 2, 1) := by decide +kernel
theorem dX9_readsDamp_76 : decode cX9_readsDamp 76 = .ok (.if_icmp .ne 7, 3) := by decide +kernel
theorem dX9_readsDamp_79 : decode cX9_readsDamp 79 = .ok (.iconst 1, 1) := by decide +kernel
theorem dX9_readsDamp_80 : decode cX9_readsDamp 80 = .ok (.goto 4, 3) := by decide +kernel
theorem dX9_readsDamp_83 : decode cX9_readsDamp 83 = .ok (.iconst 0, 1) := by decide +kernel
theorem dX9_readsDamp_84 : decode cX9_readsDamp 84 = .ok (.istore_n 1, 1) := by decide +kernel
theorem dX9_readsDamp_85 : decode cX9_readsDamp 85 = .ok (.goto (-83), 3) := by decide +kernel
theorem dX9_readsDamp_88 : decode cX9_readsDamp 88 = .ok (.return_, 1) := by decide +kernel
theorem dX9_line_0 : decode cX9_line 0 = .ok (.aload_n 0, 1) := by decide +kernel
theorem dX9_line_1 : decode cX9_line 1 = .ok (.invokevirtual 195, 3) := by decide +kernel
theorem dX9_line_4 : decode cX9_line 4 = .ok (.istore_n 1, 1) := by decide +kernel
theorem dX9_line_5 : decode cX9_line 5 = .ok (.iload_n 1, 1) := by decide +kernel
theorem dX9_line_6 : decode cX9_line 6 = .ok (.bipush 7, 2) := by decide +kernel
theorem dX9_line_8 : decode cX9_line 8 = .ok (.if_icmp .ne 32, 3) := by decide +kernel
theorem dX9_line_11 : decode cX9_line 11 = .ok (.aload_n 0, 1) := by decide +kernel
theorem dX9_line_12 : decode cX9_line 12 = .ok (.aload_n 0, 1) := by decide +kernel
theorem dX9_line_13 : decode cX9_line 13 = .ok (.getfield 230, 3) := by decide +kernel
theorem dX9_line_16 : decode cX9_line 16 = .ok (.bipush 8, 2) := by decide +kernel
theorem dX9_line_18 : decode cX9_line 18 = .ok (.if_icmp .ne 7, 3) := by decide +kernel
theorem dX9_line_21 : decode cX9_line 21 = .ok (.iconst 1, 1) := by decide +kernel
theorem dX9_line_22 : decode cX9_line 22 = .ok (.goto 4, 3) := by decide +kernel
theorem dX9_line_25 : decode cX9_line 25 = .ok (.iconst 0, 1) := by decide +kernel
theorem dX9_line_26 : decode cX9_line 26 = .ok (.iconst 0, 1) := by decide +kernel
theorem dX9_line_27 : decode cX9_line 27 = .ok (.invokevirtual 243, 3) := by decide +kernel
theorem dX9_line_30 : decode cX9_line 30 = .ok (.ifCond .eq 169, 3) := by decide +kernel
theorem dX9_line_33 : decode cX9_line 33 = .ok (.aload_n 0, 1) := by decide +kernel
theorem dX9_line_34 : decode cX9_line 34 = .ok (.invokevirtual 247, 3) := by decide +kernel
theorem dX9_line_37 : decode cX9_line 37 = .ok (.goto 162, 3) := by decide +kernel
theorem dX9_line_40 : decode cX9_line 40 = .ok (.iload_n 1, 1) := by decide +kernel
theorem dX9_line_41 : decode cX9_line 41 = .ok (.bipush 8, 2) := by decide +kernel
theorem dX9_line_43 : decode cX9_line 43 = .ok (.if_icmp .ne 32, 3) := by decide +kernel
theorem dX9_line_46 : decode cX9_line 46 = .ok (.aload_n 0, 1) := by decide +kernel
theorem dX9_line_47 : decode cX9_line 47 = .ok (.aload_n 0, 1) := by decide +kernel
theorem dX9_line_48 : decode cX9_line 48 = .ok (.getfield 237, 3) := by decide +kernel
theorem dX9_line_51 : decode cX9_line 51 = .ok (.bipush 8, 2) := by decide +kernel
theorem dX9_line_53 : decode cX9_line 53 = .ok (.if_icmp .ne 7, 3) := by decide +kernel
theorem dX9_line_56 : decode cX9_line 56 = .ok (.iconst 1, 1) := by decide +kernel
theorem dX9_line_57 : decode cX9_line 57 = .ok (.goto 4, 3) := by decide +kernel
theorem dX9_line_60 : decode cX9_line 60 = .ok (.iconst 0, 1) := by decide +kernel
theorem dX9_line_61 : decode cX9_line 61 = .ok (.iconst 0, 1) := by decide +kernel
theorem dX9_line_62 : decode cX9_line 62 = .ok (.invokevirtual 243, 3) := by decide +kernel
theorem dX9_line_65 : decode cX9_line 65 = .ok (.ifCond .eq 134, 3) := by decide +kernel
theorem dX9_line_68 : decode cX9_line 68 = .ok (.aload_n 0, 1) := by decide +kernel
theorem dX9_line_69 : decode cX9_line 69 = .ok (.invokevirtual 250, 3) := by decide +kernel
theorem dX9_line_72 : decode cX9_line 72 = .ok (.goto 127, 3) := by decide +kernel
theorem dX9_line_75 : decode cX9_line 75 = .ok (.iload_n 1, 1) := by decide +kernel
theorem dX9_line_76 : decode cX9_line 76 = .ok (.iconst 4, 1) := by decide +kernel
theorem dX9_line_77 : decode cX9_line 77 = .ok (.if_icmp .ne 30, 3) := by decide +kernel
theorem dX9_line_80 : decode cX9_line 80 = .ok (.aload_n 0, 1) := by decide +kernel
theorem dX9_line_81 : decode cX9_line 81 = .ok (.iconst 0, 1) := by decide +kernel
theorem dX9_line_82 : decode cX9_line 82 = .ok (.aload_n 0, 1) := by decide +kernel
theorem dX9_line_83 : decode cX9_line 83 = .ok (.getfield 240, 3) := by decide +kernel
theorem dX9_line_86 : decode cX9_line 86 = .ok (.ifCond .le 7, 3) := by decide +kernel
theorem dX9_line_89 : decode cX9_line 89 = .ok (.iconst 1, 1) := by decide +kernel
theorem dX9_line_90 : decode cX9_line 90 = .ok (.goto 4, 3) := by decide +kernel
theorem dX9_line_93 : decode cX9_line 93 = .ok (.iconst 0, 1) := by decide +kernel
theorem dX9_line_94 : decode cX9_line 94 = .ok (.invokevirtual 243, 3) := by decide +kernel
theorem dX9_line_97 : decode cX9_line 97 = .ok (.ifCond .eq 102, 3) := by decide +kernel
theorem dX9_line_100 : decode cX9_line 100 = .ok (.aload_n 0, 1) := by decide +kernel
theorem dX9_line_101 : decode cX9_line 101 = .ok (.invokevirtual 253, 3) := by decide +kernel
theorem dX9_line_104 : decode cX9_line 104 = .ok (.goto 95, 3) := by decide +kernel
theorem dX9_line_107 : decode cX9_line 107 = .ok (.iload_n 1, 1) := by decide +kernel
theorem dX9_line_108 : decode cX9_line 108 = .ok (.bipush 10, 2) := by decide +kernel
theorem dX9_line_110 : decode cX9_line 110 = .ok (.if_icmp .ne 40, 3) := by decide +kernel
theorem dX9_line_113 : decode cX9_line 113 = .ok (.aload_n 0, 1) := by decide +kernel
theorem dX9_line_114 : decode cX9_line 114 = .ok (.iconst 0, 1) := by decide +kernel
theorem dX9_line_115 : decode cX9_line 115 = .ok (.aload_n 0, 1) := by decide +kernel
theorem dX9_line_116 : decode cX9_line 116 = .ok (.getfield 256, 3) := by decide +kernel
theorem dX9_line_119 : decode cX9_line 119 = .ok (.iconst (-1), 1) := by decide +kernel
theorem dX9_line_120 : decode cX9_line 120 = .ok (.if_icmp .eq 7, 3) := by decide +kernel
theorem dX9_line_123 : decode cX9_line 123 = .ok (.iconst 1, 1) := by decide +kernel
theorem dX9_line_124 : decode cX9_line 124 = .ok (.goto 4, 3) := by decide +kernel
theorem dX9_line_127 : decode cX9_line 127 = .ok (.iconst 0, 1) := by decide +kernel
theorem dX9_line_128 : decode cX9_line 128 = .ok (.invokevirtual 243, 3) := by decide +kernel
theorem dX9_line_131 : decode cX9_line 131 = .ok (.ifCond .eq 68, 3) := by decide +kernel
theorem dX9_line_134 : decode cX9_line 134 = .ok (.aload_n 0, 1) := by decide +kernel
theorem dX9_line_135 : decode cX9_line 135 = .ok (.aload_n 0, 1) := by decide +kernel
theorem dX9_line_136 : decode cX9_line 136 = .ok (.getfield 180, 3) := by decide +kernel
theorem dX9_line_139 : decode cX9_line 139 = .ok (.putfield 256, 3) := by decide +kernel
theorem dX9_line_142 : decode cX9_line 142 = .ok (.aload_n 0, 1) := by decide +kernel
theorem dX9_line_143 : decode cX9_line 143 = .ok (.iconst 5, 1) := by decide +kernel
theorem dX9_line_144 : decode cX9_line 144 = .ok (.invokevirtual 259, 3) := by decide +kernel
theorem dX9_line_147 : decode cX9_line 147 = .ok (.goto 52, 3) := by decide +kernel
theorem dX9_line_150 : decode cX9_line 150 = .ok (.iload_n 1, 1) := by decide +kernel
theorem dX9_line_151 : decode cX9_line 151 = .ok (.bipush 11, 2) := by decide +kernel
theorem dX9_line_153 : decode cX9_line 153 = .ok (.if_icmp .ne 41, 3) := by decide +kernel
theorem dX9_line_156 : decode cX9_line 156 = .ok (.aload_n 0, 1) := by decide +kernel
theorem dX9_line_157 : decode cX9_line 157 = .ok (.iconst 0, 1) := by decide +kernel
theorem dX9_line_158 : decode cX9_line 158 = .ok (.aload_n 0, 1) := by decide +kernel
theorem dX9_line_159 : decode cX9_line 159 = .ok (.getfield 262, 3) := by decide +kernel
theorem dX9_line_162 : decode cX9_line 162 = .ok (.iconst (-1), 1) := by decide +kernel
theorem dX9_line_163 : decode cX9_line 163 = .ok (.if_icmp .eq 7, 3) := by decide +kernel
theorem dX9_line_166 : decode cX9_line 166 = .ok (.iconst 1, 1) := by decide +kernel
theorem dX9_line_167 : decode cX9_line 167 = .ok (.goto 4, 3) := by decide +kernel
theorem dX9_line_170 : decode cX9_line 170 = .ok (.iconst 0, 1) := by decide +kernel
theorem dX9_line_171 : decode cX9_line 171 = .ok (.invokevirtual 243, 3) := by decide +kernel
theorem dX9_line_174 : decode cX9_line 174 = .ok (.ifCond .eq 25, 3) := by decide +kernel
theorem dX9_line_177 : decode cX9_line 177 = .ok (.aload_n 0, 1) := by decide +kernel
theorem dX9_line_178 : decode cX9_line 178 = .ok (.aload_n 0, 1) := by decide +kernel
theorem dX9_line_179 : decode cX9_line 179 = .ok (.getfield 180, 3) := by decide +kernel
theorem dX9_line_182 : decode cX9_line 182 = .ok (.putfield 262, 3) := by decide +kernel
theorem dX9_line_185 : decode cX9_line 185 = .ok (.aload_n 0, 1) := by decide +kernel
theorem dX9_line_186 : decode cX9_line 186 = .ok (.bipush 6, 2) := by decide +kernel
theorem dX9_line_188 : decode cX9_line 188 = .ok (.invokevirtual 259, 3) := by decide +kernel
theorem dX9_line_191 : decode cX9_line 191 = .ok (.goto 8, 3) := by decide +kernel
theorem dX9_line_194 : decode cX9_line 194 = .ok (.aload_n 0, 1) := by decide +kernel
theorem dX9_line_195 : decode cX9_line 195 = .ok (.iconst 1, 1) := by decide +kernel
theorem dX9_line_196 : decode cX9_line 196 = .ok (.invokevirtual 177, 3) := by decide +kernel
theorem dX9_line_199 : decode cX9_line 199 = .ok (.aload_n 0, 1) := by decide +kernel
theorem dX9_line_200 : decode cX9_line 200 = .ok (.aload_n 0, 1) := by decide +kernel
theorem dX9_line_201 : decode cX9_line 201 = .ok (.bipush 59, 2) := by decide +kernel
theorem dX9_line_203 : decode cX9_line 203 = .ok (.invokevirtual 205, 3) := by decide +kernel
theorem dX9_line_206 : decode cX9_line 206 = .ok (.invokevirtual 265, 3) := by decide +kernel
theorem dX9_line_209 : decode cX9_line 209 = .ok (.return_, 1) := by decide +kernel
theorem dX9_town_0 : decode cX9_town 0 = .ok (.aload_n 0, 1) := by decide +kernel
theorem dX9_town_1 : decode cX9_town 1 = .ok (.iconst 0, 1) := by decide +kernel
theorem dX9_town_2 : decode cX9_town 2 = .ok (.putfield 111, 3) := by decide +kernel
theorem dX9_town_5 : decode cX9_town 5 = .ok (.aload_n 0, 1) := by decide +kernel
theorem dX9_town_6 : decode cX9_town 6 = .ok (.iload_n 1, 1) := by decide +kernel
theorem dX9_town_7 : decode cX9_town 7 = .ok (.ifCond .lt 15, 3) := by decide +kernel
theorem dX9_town_10 : decode cX9_town 10 = .ok (.iload_n 1, 1) := by decide +kernel
theorem dX9_town_11 : decode cX9_town 11 = .ok (.aload_n 0, 1) := by decide +kernel
theorem dX9_town_12 : decode cX9_town 12 = .ok (.getfield 114, 3) := by decide +kernel
theorem dX9_town_15 : decode cX9_town 15 = .ok (.if_icmp .gt 7, 3) := by decide +kernel
theorem dX9_town_18 : decode cX9_town 18 = .ok (.iconst 1, 1) := by decide +kernel
theorem dX9_town_19 : decode cX9_town 19 = .ok (.goto 4, 3) := by decide +kernel
theorem dX9_town_22 : decode cX9_town 22 = .ok (.iconst 0, 1) := by decide +kernel
theorem dX9_town_23 : decode cX9_town 23 = .ok (.iconst 1, 1) := by decide +kernel
theorem dX9_town_24 : decode cX9_town 24 = .ok (.invokevirtual 268, 3) := by decide +kernel
theorem dX9_town_27 : decode cX9_town 27 = .ok (.ifCond .ne 5, 3) := by decide +kernel
theorem dX9_town_30 : decode cX9_town 30 = .ok (.iconst 0, 1) := by decide +kernel
theorem dX9_town_31 : decode cX9_town 31 = .ok (.ireturn, 1) := by decide +kernel
theorem dX9_town_32 : decode cX9_town 32 = .ok (.aload_n 0, 1) := by decide +kernel
theorem dX9_town_33 : decode cX9_town 33 = .ok (.iconst 0, 1) := by decide +kernel
theorem dX9_town_34 : decode cX9_town 34 = .ok (.putfield 114, 3) := by decide +kernel
theorem dX9_town_37 : decode cX9_town 37 = .ok (.aload_n 0, 1) := by decide +kernel
theorem dX9_town_38 : decode cX9_town 38 = .ok (.iconst (-1), 1) := by decide +kernel
theorem dX9_town_39 : decode cX9_town 39 = .ok (.putfield 35, 3) := by decide +kernel
theorem dX9_town_42 : decode cX9_town 42 = .ok (.aload_n 0, 1) := by decide +kernel
theorem dX9_town_43 : decode cX9_town 43 = .ok (.iconst 0, 1) := by decide +kernel
theorem dX9_town_44 : decode cX9_town 44 = .ok (.putfield 167, 3) := by decide +kernel
theorem dX9_town_47 : decode cX9_town 47 = .ok (.aload_n 0, 1) := by decide +kernel
theorem dX9_town_48 : decode cX9_town 48 = .ok (.iload_n 1, 1) := by decide +kernel
theorem dX9_town_49 : decode cX9_town 49 = .ok (.putfield 121, 3) := by decide +kernel
theorem dX9_town_52 : decode cX9_town 52 = .ok (.aload_n 0, 1) := by decide +kernel
theorem dX9_town_53 : decode cX9_town 53 = .ok (.iconst 0, 1) := by decide +kernel
theorem dX9_town_54 : decode cX9_town 54 = .ok (.putfield 124, 3) := by decide +kernel
theorem dX9_town_57 : decode cX9_town 57 = .ok (.aload_n 0, 1) := by decide +kernel
theorem dX9_town_58 : decode cX9_town 58 = .ok (.iconst 0, 1) := by decide +kernel
theorem dX9_town_59 : decode cX9_town 59 = .ok (.putfield 230, 3) := by decide +kernel
theorem dX9_town_62 : decode cX9_town 62 = .ok (.aload_n 0, 1) := by decide +kernel
theorem dX9_town_63 : decode cX9_town 63 = .ok (.iconst 0, 1) := by decide +kernel
theorem dX9_town_64 : decode cX9_town 64 = .ok (.putfield 237, 3) := by decide +kernel
theorem dX9_town_67 : decode cX9_town 67 = .ok (.aload_n 0, 1) := by decide +kernel
theorem dX9_town_68 : decode cX9_town 68 = .ok (.iconst 0, 1) := by decide +kernel
theorem dX9_town_69 : decode cX9_town 69 = .ok (.putfield 240, 3) := by decide +kernel
theorem dX9_town_72 : decode cX9_town 72 = .ok (.aload_n 0, 1) := by decide +kernel
theorem dX9_town_73 : decode cX9_town 73 = .ok (.iconst (-1), 1) := by decide +kernel
theorem dX9_town_74 : decode cX9_town 74 = .ok (.putfield 256, 3) := by decide +kernel
theorem dX9_town_77 : decode cX9_town 77 = .ok (.aload_n 0, 1) := by decide +kernel
theorem dX9_town_78 : decode cX9_town 78 = .ok (.iconst (-1), 1) := by decide +kernel
theorem dX9_town_79 : decode cX9_town 79 = .ok (.putfield 262, 3) := by decide +kernel
theorem dX9_town_82 : decode cX9_town 82 = .ok (.iconst 0, 1) := by decide +kernel
theorem dX9_town_83 : decode cX9_town 83 = .ok (.istore_n 2, 1) := by decide +kernel
theorem dX9_town_84 : decode cX9_town 84 = .ok (.iload_n 2, 1) := by decide +kernel
theorem dX9_town_85 : decode cX9_town 85 = .ok (.bipush 43, 2) := by decide +kernel
theorem dX9_town_87 : decode cX9_town 87 = .ok (.if_icmp .ge 16, 3) := by decide +kernel
theorem dX9_town_90 : decode cX9_town 90 = .ok (.aload_n 0, 1) := by decide +kernel
theorem dX9_town_91 : decode cX9_town 91 = .ok (.getfield 53, 3) := by decide +kernel
theorem dX9_town_94 : decode cX9_town 94 = .ok (.iload_n 2, 1) := by decide +kernel
theorem dX9_town_95 : decode cX9_town 95 = .ok (.iconst 0, 1) := by decide +kernel
theorem dX9_town_96 : decode cX9_town 96 = .ok (.iastore, 1) := by decide +kernel
theorem dX9_town_97 : decode cX9_town 97 = .ok (.iinc 2 1, 3) := by decide +kernel
theorem dX9_town_100 : decode cX9_town 100 = .ok (.goto (-16), 3) := by decide +kernel
theorem dX9_town_103 : decode cX9_town 103 = .ok (.aload_n 0, 1) := by decide +kernel
theorem dX9_town_104 : decode cX9_town 104 = .ok (.iconst 0, 1) := by decide +kernel
theorem dX9_town_105 : decode cX9_town 105 = .ok (.putfield 180, 3) := by decide +kernel
theorem dX9_town_108 : decode cX9_town 108 = .ok (.aload_n 0, 1) := by decide +kernel
theorem dX9_town_109 : decode cX9_town 109 = .ok (.invokevirtual 174, 3) := by decide +kernel
theorem dX9_town_112 : decode cX9_town 112 = .ok (.aload_n 0, 1) := by decide +kernel
theorem dX9_town_113 : decode cX9_town 113 = .ok (.invokevirtual 170, 3) := by decide +kernel
theorem dX9_town_116 : decode cX9_town 116 = .ok (.ifCond .eq 17, 3) := by decide +kernel
theorem dX9_town_119 : decode cX9_town 119 = .ok (.aload_n 0, 1) := by decide +kernel
theorem dX9_town_120 : decode cX9_town 120 = .ok (.getfield 144, 3) := by decide +kernel
theorem dX9_town_123 : decode cX9_town 123 = .ok (.ifCond .eq 10, 3) := by decide +kernel
theorem dX9_town_126 : decode cX9_town 126 = .ok (.aload_n 0, 1) := by decide +kernel
theorem dX9_town_127 : decode cX9_town 127 = .ok (.invokevirtual 272, 3) := by decide +kernel
theorem dX9_town_130 : decode cX9_town 130 = .ok (.goto (-18), 3) := by decide +kernel
theorem dX9_town_133 : decode cX9_town 133 = .ok (.aload_n 0, 1) := by decide +kernel
theorem dX9_town_134 : decode cX9_town 134 = .ok (.invokevirtual 170, 3) := by decide +kernel
theorem dX9_town_137 : decode cX9_town 137 = .ok (.ifCond .ne 18, 3) := by decide +kernel
theorem dX9_town_140 : decode cX9_town 140 = .ok (.aload_n 0, 1) := by decide +kernel
theorem dX9_town_141 : decode cX9_town 141 = .ok (.getfield 38, 3) := by decide +kernel
theorem dX9_town_144 : decode cX9_town 144 = .ok (.iconst 0, 1) := by decide +kernel
theorem dX9_town_145 : decode cX9_town 145 = .ok (.dup2, 1) := by decide +kernel
theorem dX9_town_146 : decode cX9_town 146 = .ok (.iaload, 1) := by decide +kernel
theorem dX9_town_147 : decode cX9_town 147 = .ok (.iconst 1, 1) := by decide +kernel
theorem dX9_town_148 : decode cX9_town 148 = .ok (.iadd, 1) := by decide +kernel
theorem dX9_town_149 : decode cX9_town 149 = .ok (.iastore, 1) := by decide +kernel
theorem dX9_town_150 : decode cX9_town 150 = .ok (.aload_n 0, 1) := by decide +kernel
theorem dX9_town_151 : decode cX9_town 151 = .ok (.getfield 167, 3) := by decide +kernel
theorem dX9_town_154 : decode cX9_town 154 = .ok (.ireturn, 1) := by decide +kernel
theorem dX9_town_155 : decode cX9_town 155 = .ok (.aload_n 0, 1) := by decide +kernel
theorem dX9_town_156 : decode cX9_town 156 = .ok (.aload_n 0, 1) := by decide +kernel
theorem dX9_town_157 : decode cX9_town 157 = .ok (.getfield 230, 3) := by decide +kernel
theorem dX9_town_160 : decode cX9_town 160 = .ok (.putfield 275, 3) := by decide +kernel
theorem dX9_town_163 : decode cX9_town 163 = .ok (.aload_n 0, 1) := by decide +kernel
theorem dX9_town_164 : decode cX9_town 164 = .ok (.aload_n 0, 1) := by decide +kernel
theorem dX9_town_165 : decode cX9_town 165 = .ok (.getfield 237, 3) := by decide +kernel
theorem dX9_town_168 : decode cX9_town 168 = .ok (.putfield 278, 3) := by decide +kernel
theorem dX9_town_171 : decode cX9_town 171 = .ok (.aload_n 0, 1) := by decide +kernel
theorem dX9_town_172 : decode cX9_town 172 = .ok (.aload_n 0, 1) := by decide +kernel
theorem dX9_town_173 : decode cX9_town 173 = .ok (.getfield 240, 3) := by decide +kernel
theorem dX9_town_176 : decode cX9_town 176 = .ok (.putfield 281, 3) := by decide +kernel
theorem dX9_town_179 : decode cX9_town 179 = .ok (.aload_n 0, 1) := by decide +kernel
theorem dX9_town_180 : decode cX9_town 180 = .ok (.aload_n 0, 1) := by decide +kernel
theorem dX9_town_181 : decode cX9_town 181 = .ok (.getfield 256, 3) := by decide +kernel
theorem dX9_town_184 : decode cX9_town 184 = .ok (.putfield 9, 3) := by decide +kernel
theorem dX9_town_187 : decode cX9_town 187 = .ok (.aload_n 0, 1) := by decide +kernel
theorem dX9_town_188 : decode cX9_town 188 = .ok (.aload_n 0, 1) := by decide +kernel
theorem dX9_town_189 : decode cX9_town 189 = .ok (.getfield 262, 3) := by decide +kernel
theorem dX9_town_192 : decode cX9_town 192 = .ok (.putfield 13, 3) := by decide +kernel
theorem dX9_town_195 : decode cX9_town 195 = .ok (.aload_n 0, 1) := by decide +kernel
theorem dX9_town_196 : decode cX9_town 196 = .ok (.aload_n 0, 1) := by decide +kernel
theorem dX9_town_197 : decode cX9_town 197 = .ok (.getfield 41, 3) := by decide +kernel
theorem dX9_town_200 : decode cX9_town 200 = .ok (.aload_n 0, 1) := by decide +kernel
theorem dX9_town_201 : decode cX9_town 201 = .ok (.getfield 16, 3) := by decide +kernel
theorem dX9_town_204 : decode cX9_town 204 = .ok (.invokevirtual 284, 3) := by decide +kernel
theorem dX9_town_207 : decode cX9_town 207 = .ok (.aload_n 0, 1) := by decide +kernel
theorem dX9_town_208 : decode cX9_town 208 = .ok (.aload_n 0, 1) := by decide +kernel
theorem dX9_town_209 : decode cX9_town 209 = .ok (.getfield 44, 3) := by decide +kernel
theorem dX9_town_212 : decode cX9_town 212 = .ok (.aload_n 0, 1) := by decide +kernel
theorem dX9_town_213 : decode cX9_town 213 = .ok (.getfield 20, 3) := by decide +kernel
theorem dX9_town_216 : decode cX9_town 216 = .ok (.invokevirtual 284, 3) := by decide +kernel
theorem dX9_town_219 : decode cX9_town 219 = .ok (.aload_n 0, 1) := by decide +kernel
theorem dX9_town_220 : decode cX9_town 220 = .ok (.aload_n 0, 1) := by decide +kernel
theorem dX9_town_221 : decode cX9_town 221 = .ok (.getfield 47, 3) := by decide +kernel
theorem dX9_town_224 : decode cX9_town 224 = .ok (.aload_n 0, 1) := by decide +kernel
theorem dX9_town_225 : decode cX9_town 225 = .ok (.getfield 23, 3) := by decide +kernel
theorem dX9_town_228 : decode cX9_town 228 = .ok (.invokevirtual 284, 3) := by decide +kernel
theorem dX9_town_231 : decode cX9_town 231 = .ok (.aload_n 0, 1) := by decide +kernel
theorem dX9_town_232 : decode cX9_town 232 = .ok (.aload_n 0, 1) := by decide +kernel
theorem dX9_town_233 : decode cX9_town 233 = .ok (.getfield 50, 3) := by decide +kernel
theorem dX9_town_236 : decode cX9_town 236 = .ok (.aload_n 0, 1) := by decide +kernel
theorem dX9_town_237 : decode cX9_town 237 = .ok (.getfield 26, 3) := by decide +kernel
theorem dX9_town_240 : decode cX9_town 240 = .ok (.invokevirtual 284, 3) := by decide +kernel
theorem dX9_town_243 : decode cX9_town 243 = .ok (.aload_n 0, 1) := by decide +kernel
theorem dX9_town_244 : decode cX9_town 244 = .ok (.aload_n 0, 1) := by decide +kernel
theorem dX9_town_245 : decode cX9_town 245 = .ok (.getfield 56, 3) := by decide +kernel
theorem dX9_town_248 : decode cX9_town 248 = .ok (.aload_n 0, 1) := by decide +kernel
theorem dX9_town_249 : decode cX9_town 249 = .ok (.getfield 29, 3) := by decide +kernel
theorem dX9_town_252 : decode cX9_town 252 = .ok (.invokevirtual 284, 3) := by decide +kernel
theorem dX9_town_255 : decode cX9_town 255 = .ok (.iconst 0, 1) := by decide +kernel
theorem dX9_town_256 : decode cX9_town 256 = .ok (.istore_n 2, 1) := by decide +kernel
theorem dX9_town_257 : decode cX9_town 257 = .ok (.iload_n 2, 1) := by decide +kernel
theorem dX9_town_258 : decode cX9_town 258 = .ok (.bipush 43, 2) := by decide +kernel
theorem dX9_town_260 : decode cX9_town 260 = .ok (.if_icmp .ge 21, 3) := by decide +kernel
theorem dX9_town_263 : decode cX9_town 263 = .ok (.aload_n 0, 1) := by decide +kernel
theorem dX9_town_264 : decode cX9_town 264 = .ok (.getfield 66, 3) := by decide +kernel
theorem dX9_town_267 : decode cX9_town 267 = .ok (.iload_n 2, 1) := by decide +kernel
theorem dX9_town_268 : decode cX9_town 268 = .ok (.aload_n 0, 1) := by decide +kernel
theorem dX9_town_269 : decode cX9_town 269 = .ok (.getfield 53, 3) := by decide +kernel
theorem dX9_town_272 : decode cX9_town 272 = .ok (.iload_n 2, 1) := by decide +kernel
theorem dX9_town_273 : decode cX9_town 273 = .ok (.iaload, 1) := by decide +kernel
theorem dX9_town_274 : decode cX9_town 274 = .ok (.iastore, 1) := by decide +kernel
theorem dX9_town_275 : decode cX9_town 275 = .ok (.iinc 2 1, 3) := by decide +kernel
theorem dX9_town_278 : decode cX9_town 278 = .ok (.goto (-21), 3) := by decide +kernel
theorem dX9_town_281 : decode cX9_town 281 = .ok (.aload_n 0, 1) := by decide +kernel
theorem dX9_town_282 : decode cX9_town 282 = .ok (.iconst 0, 1) := by decide +kernel
theorem dX9_town_283 : decode cX9_town 283 = .ok (.putfield 288, 3) := by decide +kernel
theorem dX9_town_286 : decode cX9_town 286 = .ok (.aload_n 0, 1) := by decide +kernel
theorem dX9_town_287 : decode cX9_town 287 = .ok (.iconst 0, 1) := by decide +kernel
theorem dX9_town_288 : decode cX9_town 288 = .ok (.putfield 291, 3) := by decide +kernel
theorem dX9_town_291 : decode cX9_town 291 = .ok (.aload_n 0, 1) := by decide +kernel
theorem dX9_town_292 : decode cX9_town 292 = .ok (.iconst 0, 1) := by decide +kernel
theorem dX9_town_293 : decode cX9_town 293 = .ok (.putfield 294, 3) := by decide +kernel
theorem dX9_town_296 : decode cX9_town 296 = .ok (.iconst 0, 1) := by decide +kernel
theorem dX9_town_297 : decode cX9_town 297 = .ok (.ireturn, 1) := by decide +kernel
theorem dX9_fault_0 : decode cX9_fault 0 = .ok (.aload_n 0, 1) := by decide +kernel
theorem dX9_fault_1 : decode cX9_fault 1 = .ok (.iconst 0, 1) := by decide +kernel
theorem dX9_fault_2 : decode cX9_fault 2 = .ok (.putfield 111, 3) := by decide +kernel
theorem dX9_fault_5 : decode cX9_fault 5 = .ok (.aload_n 0, 1) := by decide +kernel
theorem dX9_fault_6 : decode cX9_fault 6 = .ok (.getfield 35, 3) := by decide +kernel
theorem dX9_fault_9 : decode cX9_fault 9 = .ok (.ireturn, 1) := by decide +kernel
theorem dX9_keeps_0 : decode cX9_keeps 0 = .ok (.aload_n 0, 1) := by decide +kernel
theorem dX9_keeps_1 : decode cX9_keeps 1 = .ok (.getfield 288, 3) := by decide +kernel
theorem dX9_keeps_4 : decode cX9_keeps 4 = .ok (.bipush 40, 2) := by decide +kernel
theorem dX9_keeps_6 : decode cX9_keeps 6 = .ok (.if_icmp .ne 44, 3) := by decide +kernel
theorem dX9_keeps_9 : decode cX9_keeps 9 = .ok (.bipush 43, 2) := by decide +kernel
theorem dX9_keeps_11 : decode cX9_keeps 11 = .ok (.istore_n 1, 1) := by decide +kernel
theorem dX9_keeps_12 : decode cX9_keeps 12 = .ok (.iload_n 1, 1) := by decide +kernel
theorem dX9_keeps_13 : decode cX9_keeps 13 = .ok (.sipush 1720, 3) := by decide +kernel
theorem dX9_keeps_16 : decode cX9_keeps 16 = .ok (.if_icmp .ge 24, 3) := by decide +kernel
theorem dX9_keeps_19 : decode cX9_keeps 19 = .ok (.aload_n 0, 1) := by decide +kernel
theorem dX9_keeps_20 : decode cX9_keeps 20 = .ok (.getfield 69, 3) := by decide +kernel
theorem dX9_keeps_23 : decode cX9_keeps 23 = .ok (.iload_n 1, 1) := by decide +kernel
theorem dX9_keeps_24 : decode cX9_keeps 24 = .ok (.bipush 43, 2) := by decide +kernel
theorem dX9_keeps_26 : decode cX9_keeps 26 = .ok (.isub, 1) := by decide +kernel
theorem dX9_keeps_27 : decode cX9_keeps 27 = .ok (.aload_n 0, 1) := by decide +kernel
theorem dX9_keeps_28 : decode cX9_keeps 28 = .ok (.getfield 69, 3) := by decide +kernel
theorem dX9_keeps_31 : decode cX9_keeps 31 = .ok (.iload_n 1, 1) := by decide +kernel
theorem dX9_keeps_32 : decode cX9_keeps 32 = .ok (.iaload, 1) := by decide +kernel
theorem dX9_keeps_33 : decode cX9_keeps 33 = .ok (.iastore, 1) := by decide +kernel
theorem dX9_keeps_34 : decode cX9_keeps 34 = .ok (.iinc 1 1, 3) := by decide +kernel
theorem dX9_keeps_37 : decode cX9_keeps 37 = .ok (.goto (-25), 3) := by decide +kernel
theorem dX9_keeps_40 : decode cX9_keeps 40 = .ok (.aload_n 0, 1) := by decide +kernel
theorem dX9_keeps_41 : decode cX9_keeps 41 = .ok (.dup, 1) := by decide +kernel
theorem dX9_keeps_42 : decode cX9_keeps 42 = .ok (.getfield 288, 3) := by decide +kernel
theorem dX9_keeps_45 : decode cX9_keeps 45 = .ok (.iconst 1, 1) := by decide +kernel
theorem dX9_keeps_46 : decode cX9_keeps 46 = .ok (.isub, 1) := by decide +kernel
theorem dX9_keeps_47 : decode cX9_keeps 47 = .ok (.putfield 288, 3) := by decide +kernel
theorem dX9_keeps_50 : decode cX9_keeps 50 = .ok (.iconst 0, 1) := by decide +kernel
theorem dX9_keeps_51 : decode cX9_keeps 51 = .ok (.istore_n 1, 1) := by decide +kernel
theorem dX9_keeps_52 : decode cX9_keeps 52 = .ok (.iload_n 1, 1) := by decide +kernel
theorem dX9_keeps_53 : decode cX9_keeps 53 = .ok (.bipush 43, 2) := by decide +kernel
theorem dX9_keeps_55 : decode cX9_keeps 55 = .ok (.if_icmp .ge 29, 3) := by decide +kernel
theorem dX9_keeps_58 : decode cX9_keeps 58 = .ok (.aload_n 0, 1) := by decide +kernel
theorem dX9_keeps_59 : decode cX9_keeps 59 = .ok (.getfield 69, 3) := by decide +kernel
theorem dX9_keeps_62 : decode cX9_keeps 62 = .ok (.bipush 43, 2) := by decide +kernel
theorem dX9_keeps_64 : decode cX9_keeps 64 = .ok (.aload_n 0, 1) := by decide +kernel
theorem dX9_keeps_65 : decode cX9_keeps 65 = .ok (.getfield 288, 3) := by decide +kernel
theorem dX9_keeps_68 : decode cX9_keeps 68 = .ok (.imul, 1) := by decide +kernel
theorem dX9_keeps_69 : decode cX9_keeps 69 = .ok (.iload_n 1, 1) := by decide +kernel
theorem dX9_keeps_70 : decode cX9_keeps 70 = .ok (.iadd, 1) := by decide +kernel
theorem dX9_keeps_71 : decode cX9_keeps 71 = .ok (.aload_n 0, 1) := by decide +kernel
theorem dX9_keeps_72 : decode cX9_keeps 72 = .ok (.getfield 66, 3) := by decide +kernel
theorem dX9_keeps_75 : decode cX9_keeps 75 = .ok (.iload_n 1, 1) := by decide +kernel
theorem dX9_keeps_76 : decode cX9_keeps 76 = .ok (.iaload, 1) := by decide +kernel
theorem dX9_keeps_77 : decode cX9_keeps 77 = .ok (.iastore, 1) := by decide +kernel
theorem dX9_keeps_78 : decode cX9_keeps 78 = .ok (.iinc 1 1, 3) := by decide +kernel
theorem dX9_keeps_81 : decode cX9_keeps 81 = .ok (.goto (-29), 3) := by decide +kernel
theorem dX9_keeps_84 : decode cX9_keeps 84 = .ok (.aload_n 0, 1) := by decide +kernel
theorem dX9_keeps_85 : decode cX9_keeps 85 = .ok (.dup, 1) := by decide +kernel
theorem dX9_keeps_86 : decode cX9_keeps 86 = .ok (.getfield 288, 3) := by decide +kernel
theorem dX9_keeps_89 : decode cX9_keeps 89 = .ok (.iconst 1, 1) := by decide +kernel
theorem dX9_keeps_90 : decode cX9_keeps 90 = .ok (.iadd, 1) := by decide +kernel
theorem dX9_keeps_91 : decode cX9_keeps 91 = .ok (.putfield 288, 3) := by decide +kernel
theorem dX9_keeps_94 : decode cX9_keeps 94 = .ok (.return_, 1) := by decide +kernel
theorem dX9_refuses_0 : decode cX9_refuses 0 = .ok (.aload_n 0, 1) := by decide +kernel
theorem dX9_refuses_1 : decode cX9_refuses 1 = .ok (.getfield 38, 3) := by decide +kernel
theorem dX9_refuses_4 : decode cX9_refuses 4 = .ok (.iload_n 1, 1) := by decide +kernel
theorem dX9_refuses_5 : decode cX9_refuses 5 = .ok (.dup2, 1) := by decide +kernel
theorem dX9_refuses_6 : decode cX9_refuses 6 = .ok (.iaload, 1) := by decide +kernel
theorem dX9_refuses_7 : decode cX9_refuses 7 = .ok (.iconst 1, 1) := by decide +kernel
theorem dX9_refuses_8 : decode cX9_refuses 8 = .ok (.iadd, 1) := by decide +kernel
theorem dX9_refuses_9 : decode cX9_refuses 9 = .ok (.iastore, 1) := by decide +kernel
theorem dX9_refuses_10 : decode cX9_refuses 10 = .ok (.iconst (-1), 1) := by decide +kernel
theorem dX9_refuses_11 : decode cX9_refuses 11 = .ok (.ireturn, 1) := by decide +kernel
theorem dX9_undo_0 : decode cX9_undo 0 = .ok (.aload_n 0, 1) := by decide +kernel
theorem dX9_undo_1 : decode cX9_undo 1 = .ok (.iconst 0, 1) := by decide +kernel
theorem dX9_undo_2 : decode cX9_undo 2 = .ok (.putfield 111, 3) := by decide +kernel
theorem dX9_undo_5 : decode cX9_undo 5 = .ok (.aload_n 0, 1) := by decide +kernel
theorem dX9_undo_6 : decode cX9_undo 6 = .ok (.getfield 288, 3) := by decide +kernel
theorem dX9_undo_9 : decode cX9_undo 9 = .ok (.ifCond .ne 5, 3) := by decide +kernel
theorem dX9_undo_12 : decode cX9_undo 12 = .ok (.iconst (-1), 1) := by decide +kernel
theorem dX9_undo_13 : decode cX9_undo 13 = .ok (.ireturn, 1) := by decide +kernel
theorem dX9_undo_14 : decode cX9_undo 14 = .ok (.aload_n 0, 1) := by decide +kernel
theorem dX9_undo_15 : decode cX9_undo 15 = .ok (.dup, 1) := by decide +kernel
theorem dX9_undo_16 : decode cX9_undo 16 = .ok (.getfield 288, 3) := by decide +kernel
theorem dX9_undo_19 : decode cX9_undo 19 = .ok (.iconst 1, 1) := by decide +kernel
theorem dX9_undo_20 : decode cX9_undo 20 = .ok (.isub, 1) := by decide +kernel
theorem dX9_undo_21 : decode cX9_undo 21 = .ok (.putfield 288, 3) := by decide +kernel
theorem dX9_undo_24 : decode cX9_undo 24 = .ok (.iconst 0, 1) := by decide +kernel
theorem dX9_undo_25 : decode cX9_undo 25 = .ok (.istore_n 1, 1) := by decide +kernel
theorem dX9_undo_26 : decode cX9_undo 26 = .ok (.iload_n 1, 1) := by decide +kernel
theorem dX9_undo_27 : decode cX9_undo 27 = .ok (.bipush 43, 2) := by decide +kernel
theorem dX9_undo_29 : decode cX9_undo 29 = .ok (.if_icmp .ge 29, 3) := by decide +kernel
theorem dX9_undo_32 : decode cX9_undo 32 = .ok (.aload_n 0, 1) := by decide +kernel
theorem dX9_undo_33 : decode cX9_undo 33 = .ok (.getfield 66, 3) := by decide +kernel
theorem dX9_undo_36 : decode cX9_undo 36 = .ok (.iload_n 1, 1) := by decide +kernel
theorem dX9_undo_37 : decode cX9_undo 37 = .ok (.aload_n 0, 1) := by decide +kernel
theorem dX9_undo_38 : decode cX9_undo 38 = .ok (.getfield 69, 3) := by decide +kernel
theorem dX9_undo_41 : decode cX9_undo 41 = .ok (.bipush 43, 2) := by decide +kernel
theorem dX9_undo_43 : decode cX9_undo 43 = .ok (.aload_n 0, 1) := by decide +kernel
theorem dX9_undo_44 : decode cX9_undo 44 = .ok (.getfield 288, 3) := by decide +kernel
theorem dX9_undo_47 : decode cX9_undo 47 = .ok (.imul, 1) := by decide +kernel
theorem dX9_undo_48 : decode cX9_undo 48 = .ok (.iload_n 1, 1) := by decide +kernel
theorem dX9_undo_49 : decode cX9_undo 49 = .ok (.iadd, 1) := by decide +kernel
theorem dX9_undo_50 : decode cX9_undo 50 = .ok (.iaload, 1) := by decide +kernel
theorem dX9_undo_51 : decode cX9_undo 51 = .ok (.iastore, 1) := by decide +kernel
theorem dX9_undo_52 : decode cX9_undo 52 = .ok (.iinc 1 1, 3) := by decide +kernel
theorem dX9_undo_55 : decode cX9_undo 55 = .ok (.goto (-29), 3) := by decide +kernel
theorem dX9_undo_58 : decode cX9_undo 58 = .ok (.aload_n 0, 1) := by decide +kernel
theorem dX9_undo_59 : decode cX9_undo 59 = .ok (.getfield 288, 3) := by decide +kernel
theorem dX9_undo_62 : decode cX9_undo 62 = .ok (.ireturn, 1) := by decide +kernel
theorem dX9_tries_0 : decode cX9_tries 0 = .ok (.iconst 0, 1) := by decide +kernel
theorem dX9_tries_1 : decode cX9_tries 1 = .ok (.istore_n 1, 1) := by decide +kernel
theorem dX9_tries_2 : decode cX9_tries 2 = .ok (.iload_n 1, 1) := by decide +kernel
theorem dX9_tries_3 : decode cX9_tries 3 = .ok (.bipush 43, 2) := by decide +kernel
theorem dX9_tries_5 : decode cX9_tries 5 = .ok (.if_icmp .ge 24, 3) := by decide +kernel
theorem dX9_tries_8 : decode cX9_tries 8 = .ok (.aload_n 0, 1) := by decide +kernel
theorem dX9_tries_9 : decode cX9_tries 9 = .ok (.getfield 66, 3) := by decide +kernel
theorem dX9_tries_12 : decode cX9_tries 12 = .ok (.bipush 43, 2) := by decide +kernel
theorem dX9_tries_14 : decode cX9_tries 14 = .ok (.iload_n 1, 1) := by decide +kernel
theorem dX9_tries_15 : decode cX9_tries 15 = .ok (.iadd, 1) := by decide +kernel
theorem dX9_tries_16 : decode cX9_tries 16 = .ok (.aload_n 0, 1) := by decide +kernel
theorem dX9_tries_17 : decode cX9_tries 17 = .ok (.getfield 66, 3) := by decide +kernel
theorem dX9_tries_20 : decode cX9_tries 20 = .ok (.iload_n 1, 1) := by decide +kernel
theorem dX9_tries_21 : decode cX9_tries 21 = .ok (.iaload, 1) := by decide +kernel
theorem dX9_tries_22 : decode cX9_tries 22 = .ok (.iastore, 1) := by decide +kernel
theorem dX9_tries_23 : decode cX9_tries 23 = .ok (.iinc 1 1, 3) := by decide +kernel
theorem dX9_tries_26 : decode cX9_tries 26 = .ok (.goto (-24), 3) := by decide +kernel
theorem dX9_tries_29 : decode cX9_tries 29 = .ok (.return_, 1) := by decide +kernel
theorem dX9_works_0 : decode cX9_works 0 = .ok (.iload_n 0, 1) := by decide +kernel
theorem dX9_works_1 : decode cX9_works 1 = .ok (.tableswitch 105 4 10 #[43, 57, 71, 82, 93, 97, 101], 43) := by decide +kernel
theorem dX9_works_44 : decode cX9_works 44 = .ok (.iload_n 1, 1) := by decide +kernel
theorem dX9_works_45 : decode cX9_works 45 = .ok (.ifCond .eq 11, 3) := by decide +kernel
theorem dX9_works_48 : decode cX9_works 48 = .ok (.iload_n 2, 1) := by decide +kernel
theorem dX9_works_49 : decode cX9_works 49 = .ok (.ifCond .eq 7, 3) := by decide +kernel
theorem dX9_works_52 : decode cX9_works 52 = .ok (.iconst 1, 1) := by decide +kernel
theorem dX9_works_53 : decode cX9_works 53 = .ok (.goto 4, 3) := by decide +kernel
theorem dX9_works_56 : decode cX9_works 56 = .ok (.iconst 0, 1) := by decide +kernel
theorem dX9_works_57 : decode cX9_works 57 = .ok (.ireturn, 1) := by decide +kernel
theorem dX9_works_58 : decode cX9_works 58 = .ok (.iload_n 1, 1) := by decide +kernel
theorem dX9_works_59 : decode cX9_works 59 = .ok (.ifCond .ne 7, 3) := by decide +kernel
theorem dX9_works_62 : decode cX9_works 62 = .ok (.iload_n 2, 1) := by decide +kernel
theorem dX9_works_63 : decode cX9_works 63 = .ok (.ifCond .eq 7, 3) := by decide +kernel
theorem dX9_works_66 : decode cX9_works 66 = .ok (.iconst 1, 1) := by decide +kernel
theorem dX9_works_67 : decode cX9_works 67 = .ok (.goto 4, 3) := by decide +kernel
theorem dX9_works_70 : decode cX9_works 70 = .ok (.iconst 0, 1) := by decide +kernel
theorem dX9_works_71 : decode cX9_works 71 = .ok (.ireturn, 1) := by decide +kernel
theorem dX9_works_72 : decode cX9_works 72 = .ok (.iload_n 1, 1) := by decide +kernel
theorem dX9_works_73 : decode cX9_works 73 = .ok (.iload_n 2, 1) := by decide +kernel
theorem dX9_works_74 : decode cX9_works 74 = .ok (.if_icmp .ge 7, 3) := by decide +kernel
theorem dX9_works_77 : decode cX9_works 77 = .ok (.iconst 1, 1) := by decide +kernel
theorem dX9_works_78 : decode cX9_works 78 = .ok (.goto 4, 3) := by decide +kernel
theorem dX9_works_81 : decode cX9_works 81 = .ok (.iconst 0, 1) := by decide +kernel
theorem dX9_works_82 : decode cX9_works 82 = .ok (.ireturn, 1) := by decide +kernel
theorem dX9_works_83 : decode cX9_works 83 = .ok (.iload_n 1, 1) := by decide +kernel
theorem dX9_works_84 : decode cX9_works 84 = .ok (.iload_n 2, 1) := by decide +kernel
theorem dX9_works_85 : decode cX9_works 85 = .ok (.if_icmp .ne 7, 3) := by decide +kernel
theorem dX9_works_88 : decode cX9_works 88 = .ok (.iconst 1, 1) := by decide +kernel
theorem dX9_works_89 : decode cX9_works 89 = .ok (.goto 4, 3) := by decide +kernel
theorem dX9_works_92 : decode cX9_works 92 = .ok (.iconst 0, 1) := by decide +kernel
theorem dX9_works_93 : decode cX9_works 93 = .ok (.ireturn, 1) := by decide +kernel
theorem dX9_works_94 : decode cX9_works 94 = .ok (.iload_n 1, 1) := by decide +kernel
theorem dX9_works_95 : decode cX9_works 95 = .ok (.iload_n 2, 1) := by decide +kernel
theorem dX9_works_96 : decode cX9_works 96 = .ok (.iadd, 1) := by decide +kernel
theorem dX9_works_97 : decode cX9_works 97 = .ok (.ireturn, 1) := by decide +kernel
theorem dX9_works_98 : decode cX9_works 98 = .ok (.iload_n 1, 1) := by decide +kernel
theorem dX9_works_99 : decode cX9_works 99 = .ok (.iload_n 2, 1) := by decide +kernel
theorem dX9_works_100 : decode cX9_works 100 = .ok (.isub, 1) := by decide +kernel
theorem dX9_works_101 : decode cX9_works 101 = .ok (.ireturn, 1) := by decide +kernel
theorem dX9_works_102 : decode cX9_works 102 = .ok (.iload_n 1, 1) := by decide +kernel
theorem dX9_works_103 : decode cX9_works 103 = .ok (.iload_n 2, 1) := by decide +kernel
theorem dX9_works_104 : decode cX9_works 104 = .ok (.imul, 1) := by decide +kernel
theorem dX9_works_105 : decode cX9_works 105 = .ok (.ireturn, 1) := by decide +kernel
theorem dX9_works_106 : decode cX9_works 106 = .ok (.iload_n 2, 1) := by decide +kernel
theorem dX9_works_107 : decode cX9_works 107 = .ok (.ifCond .ne 7, 3) := by decide +kernel
theorem dX9_works_110 : decode cX9_works 110 = .ok (.iconst 0, 1) := by decide +kernel
theorem dX9_works_111 : decode cX9_works 111 = .ok (.goto 6, 3) := by decide +kernel
theorem dX9_works_114 : decode cX9_works 114 = .ok (.iload_n 1, 1) := by decide +kernel
theorem dX9_works_115 : decode cX9_works 115 = .ok (.iload_n 2, 1) := by decide +kernel
theorem dX9_works_116 : decode cX9_works 116 = .ok (.idiv, 1) := by decide +kernel
theorem dX9_works_117 : decode cX9_works 117 = .ok (.ireturn, 1) := by decide +kernel
theorem dX9_reckons_0 : decode cX9_reckons 0 = .ok (.iconst 0, 1) := by decide +kernel
theorem dX9_reckons_1 : decode cX9_reckons 1 = .ok (.istore_n 2, 1) := by decide +kernel
theorem dX9_reckons_2 : decode cX9_reckons 2 = .ok (.iload_n 1, 1) := by decide +kernel
theorem dX9_reckons_3 : decode cX9_reckons 3 = .ok (.istore_n 3, 1) := by decide +kernel
theorem dX9_reckons_4 : decode cX9_reckons 4 = .ok (.aload_n 0, 1) := by decide +kernel
theorem dX9_reckons_5 : decode cX9_reckons 5 = .ok (.getfield 29, 3) := by decide +kernel
theorem dX9_reckons_8 : decode cX9_reckons 8 = .ok (.iload_n 3, 1) := by decide +kernel
theorem dX9_reckons_9 : decode cX9_reckons 9 = .ok (.iaload, 1) := by decide +kernel
theorem dX9_reckons_10 : decode cX9_reckons 10 = .ok (.ifCond .eq 133, 3) := by decide +kernel
theorem dX9_reckons_13 : decode cX9_reckons 13 = .ok (.aload_n 0, 1) := by decide +kernel
theorem dX9_reckons_14 : decode cX9_reckons 14 = .ok (.getfield 29, 3) := by decide +kernel
theorem dX9_reckons_17 : decode cX9_reckons 17 = .ok (.iload_n 3, 1) := by decide +kernel
theorem dX9_reckons_18 : decode cX9_reckons 18 = .ok (.iaload, 1) := by decide +kernel
theorem dX9_reckons_19 : decode cX9_reckons 19 = .ok (.istore 4, 2) := by decide +kernel
theorem dX9_reckons_21 : decode cX9_reckons 21 = .ok (.iinc 3 1, 3) := by decide +kernel
theorem dX9_reckons_24 : decode cX9_reckons 24 = .ok (.iload 4, 2) := by decide +kernel
theorem dX9_reckons_26 : decode cX9_reckons 26 = .ok (.iconst 1, 1) := by decide +kernel
theorem dX9_reckons_27 : decode cX9_reckons 27 = .ok (.if_icmp .eq 9, 3) := by decide +kernel
theorem dX9_reckons_30 : decode cX9_reckons 30 = .ok (.iload 4, 2) := by decide +kernel
theorem dX9_reckons_32 : decode cX9_reckons 32 = .ok (.iconst 2, 1) := by decide +kernel
theorem dX9_reckons_33 : decode cX9_reckons 33 = .ok (.if_icmp .ne 44, 3) := by decide +kernel
theorem dX9_reckons_36 : decode cX9_reckons 36 = .ok (.aload_n 0, 1) := by decide +kernel
theorem dX9_reckons_37 : decode cX9_reckons 37 = .ok (.getfield 75, 3) := by decide +kernel
theorem dX9_reckons_40 : decode cX9_reckons 40 = .ok (.iload_n 2, 1) := by decide +kernel
theorem dX9_reckons_41 : decode cX9_reckons 41 = .ok (.iload 4, 2) := by decide +kernel
theorem dX9_reckons_43 : decode cX9_reckons 43 = .ok (.iconst 1, 1) := by decide +kernel
theorem dX9_reckons_44 : decode cX9_reckons 44 = .ok (.if_icmp .ne 12, 3) := by decide +kernel
theorem dX9_reckons_47 : decode cX9_reckons 47 = .ok (.aload_n 0, 1) := by decide +kernel
theorem dX9_reckons_48 : decode cX9_reckons 48 = .ok (.getfield 29, 3) := by decide +kernel
theorem dX9_reckons_51 : decode cX9_reckons 51 = .ok (.iload_n 3, 1) := by decide +kernel
theorem dX9_reckons_52 : decode cX9_reckons 52 = .ok (.iaload, 1) := by decide +kernel
theorem dX9_reckons_53 : decode cX9_reckons 53 = .ok (.goto 14, 3) := by decide +kernel
theorem dX9_reckons_56 : decode cX9_reckons 56 = .ok (.aload_n 0, 1) := by decide +kernel
theorem dX9_reckons_57 : decode cX9_reckons 57 = .ok (.getfield 72, 3) := by decide +kernel
theorem dX9_reckons_60 : decode cX9_reckons 60 = .ok (.aload_n 0, 1) := by decide +kernel
theorem dX9_reckons_61 : decode cX9_reckons 61 = .ok (.getfield 29, 3) := by decide +kernel
theorem dX9_reckons_64 : decode cX9_reckons 64 = .ok (.iload_n 3, 1) := by decide +kernel
theorem dX9_reckons_65 : decode cX9_reckons 65 = .ok (.iaload, 1) := by decide +kernel
theorem dX9_reckons_66 : decode cX9_reckons 66 = .ok (.iaload, 1) := by decide +kernel
theorem dX9_reckons_67 : decode cX9_reckons 67 = .ok (.iastore, 1) := by decide +kernel
theorem dX9_reckons_68 : decode cX9_reckons 68 = .ok (.iinc 3 1, 3) := by decide +kernel
theorem dX9_reckons_71 : decode cX9_reckons 71 = .ok (.iinc 2 1, 3) := by decide +kernel
theorem dX9_reckons_74 : decode cX9_reckons 74 = .ok (.goto 66, 3) := by decide +kernel
theorem dX9_reckons_77 : decode cX9_reckons 77 = .ok (.iload 4, 2) := by decide +kernel
theorem dX9_reckons_79 : decode cX9_reckons 79 = .ok (.iconst 3, 1) := by decide +kernel
theorem dX9_reckons_80 : decode cX9_reckons 80 = .ok (.if_icmp .ne 30, 3) := by decide +kernel
theorem dX9_reckons_83 : decode cX9_reckons 83 = .ok (.aload_n 0, 1) := by decide +kernel
theorem dX9_reckons_84 : decode cX9_reckons 84 = .ok (.getfield 75, 3) := by decide +kernel
theorem dX9_reckons_87 : decode cX9_reckons 87 = .ok (.iload_n 2, 1) := by decide +kernel
theorem dX9_reckons_88 : decode cX9_reckons 88 = .ok (.iconst 1, 1) := by decide +kernel
theorem dX9_reckons_89 : decode cX9_reckons 89 = .ok (.isub, 1) := by decide +kernel
theorem dX9_reckons_90 : decode cX9_reckons 90 = .ok (.aload_n 0, 1) := by decide +kernel
theorem dX9_reckons_91 : decode cX9_reckons 91 = .ok (.getfield 75, 3) := by decide +kernel
theorem dX9_reckons_94 : decode cX9_reckons 94 = .ok (.iload_n 2, 1) := by decide +kernel
theorem dX9_reckons_95 : decode cX9_reckons 95 = .ok (.iconst 1, 1) := by decide +kernel
theorem dX9_reckons_96 : decode cX9_reckons 96 = .ok (.isub, 1) := by decide +kernel
theorem dX9_reckons_97 : decode cX9_reckons 97 = .ok (.iaload, 1) := by decide +kernel
theorem dX9_reckons_98 : decode cX9_reckons 98 = .ok (.ifCond .ne 7, 3) := by decide +kernel
theorem dX9_reckons_101 : decode cX9_reckons 101 = .ok (.iconst 1, 1) := by decide +kernel
theorem dX9_reckons_102 : decode cX9_reckons 102 = .ok (.goto 4, 3) := by decide +kernel
theorem dX9_reckons_105 : decode cX9_reckons 105 = .ok (.iconst 0, 1) := by decide +kernel
theorem dX9_reckons_106 : decode cX9_reckons 106 = .ok (.iastore, 1) := by decide +kernel
theorem dX9_reckons_107 : decode cX9_reckons 107 = .ok (.goto 33, 3) := by decide +kernel
theorem dX9_reckons_110 : decode cX9_reckons 110 = .ok (.iinc 2 (-1), 3) := by decide +kernel
theorem dX9_reckons_113 : decode cX9_reckons 113 = .ok (.aload_n 0, 1) := by decide +kernel
theorem dX9_reckons_114 : decode cX9_reckons 114 = .ok (.getfield 75, 3) := by decide +kernel
theorem dX9_reckons_117 : decode cX9_reckons 117 = .ok (.iload_n 2, 1) := by decide +kernel
theorem dX9_reckons_118 : decode cX9_reckons 118 = .ok (.iconst 1, 1) := by decide +kernel
theorem dX9_reckons_119 : decode cX9_reckons 119 = .ok (.isub, 1) := by decide +kernel
theorem dX9_reckons_120 : decode cX9_reckons 120 = .ok (.iload 4, 2) := by decide +kernel
theorem dX9_reckons_122 : decode cX9_reckons 122 = .ok (.aload_n 0, 1) := by decide +kernel
theorem dX9_reckons_123 : decode cX9_reckons 123 = .ok (.getfield 75, 3) := by decide +kernel
theorem dX9_reckons_126 : decode cX9_reckons 126 = .ok (.iload_n 2, 1) := by decide +kernel
theorem dX9_reckons_127 : decode cX9_reckons 127 = .ok (.iconst 1, 1) := by decide +kernel
theorem dX9_reckons_128 : decode cX9_reckons 128 = .ok (.isub, 1) := by decide +kernel
theorem dX9_reckons_129 : decode cX9_reckons 129 = .ok (.iaload, 1) := by decide +kernel
theorem dX9_reckons_130 : decode cX9_reckons 130 = .ok (.aload_n 0, 1) := by decide +kernel
theorem dX9_reckons_131 : decode cX9_reckons 131 = .ok (.getfield 75, 3) := by decide +kernel
theorem dX9_reckons_134 : decode cX9_reckons 134 = .ok (.iload_n 2, 1) := by decide +kernel
theorem dX9_reckons_135 : decode cX9_reckons 135 = .ok (.iaload, 1) := by decide +kernel
theorem dX9_reckons_136 : decode cX9_reckons 136 = .ok (.invokestatic 298, 3) := by decide +kernel
theorem dX9_reckons_139 : decode cX9_reckons 139 = .ok (.iastore, 1) := by decide +kernel
theorem dX9_reckons_140 : decode cX9_reckons 140 = .ok (.goto (-136), 3) := by decide +kernel
theorem dX9_reckons_143 : decode cX9_reckons 143 = .ok (.aload_n 0, 1) := by decide +kernel
theorem dX9_reckons_144 : decode cX9_reckons 144 = .ok (.getfield 75, 3) := by decide +kernel
theorem dX9_reckons_147 : decode cX9_reckons 147 = .ok (.iconst 0, 1) := by decide +kernel
theorem dX9_reckons_148 : decode cX9_reckons 148 = .ok (.iaload, 1) := by decide +kernel
theorem dX9_reckons_149 : decode cX9_reckons 149 = .ok (.ireturn, 1) := by decide +kernel
theorem dX9_toldDamp_0 : decode cX9_toldDamp 0 = .ok (.aload_n 0, 1) := by decide +kernel
theorem dX9_toldDamp_1 : decode cX9_toldDamp 1 = .ok (.getfield 281, 3) := by decide +kernel
theorem dX9_toldDamp_4 : decode cX9_toldDamp 4 = .ok (.ifCond .ne 7, 3) := by decide +kernel
theorem dX9_toldDamp_7 : decode cX9_toldDamp 7 = .ok (.iconst 3, 1) := by decide +kernel
theorem dX9_toldDamp_8 : decode cX9_toldDamp 8 = .ok (.goto 14, 3) := by decide +kernel
theorem dX9_toldDamp_11 : decode cX9_toldDamp 11 = .ok (.aload_n 0, 1) := by decide +kernel
theorem dX9_toldDamp_12 : decode cX9_toldDamp 12 = .ok (.getfield 26, 3) := by decide +kernel
theorem dX9_toldDamp_15 : decode cX9_toldDamp 15 = .ok (.iload_n 1, 1) := by decide +kernel
theorem dX9_toldDamp_16 : decode cX9_toldDamp 16 = .ok (.aload_n 0, 1) := by decide +kernel
theorem dX9_toldDamp_17 : decode cX9_toldDamp 17 = .ok (.getfield 281, 3) := by decide +kernel
theorem dX9_toldDamp_20 : decode cX9_toldDamp 20 = .ok (.irem, 1) := by decide +kernel
theorem dX9_toldDamp_21 : decode cX9_toldDamp 21 = .ok (.iaload, 1) := by decide +kernel
theorem dX9_toldDamp_22 : decode cX9_toldDamp 22 = .ok (.ireturn, 1) := by decide +kernel
theorem dX9_dampIn_0 : decode cX9_dampIn 0 = .ok (.aload_n 0, 1) := by decide +kernel
theorem dX9_dampIn_1 : decode cX9_dampIn 1 = .ok (.getfield 78, 3) := by decide +kernel
theorem dX9_dampIn_4 : decode cX9_dampIn 4 = .ok (.iconst (-1), 1) := by decide +kernel
theorem dX9_dampIn_5 : decode cX9_dampIn 5 = .ok (.if_icmp .eq 10, 3) := by decide +kernel
theorem dX9_dampIn_8 : decode cX9_dampIn 8 = .ok (.aload_n 0, 1) := by decide +kernel
theorem dX9_dampIn_9 : decode cX9_dampIn 9 = .ok (.getfield 78, 3) := by decide +kernel
theorem dX9_dampIn_12 : decode cX9_dampIn 12 = .ok (.goto 32, 3) := by decide +kernel
theorem dX9_dampIn_15 : decode cX9_dampIn 15 = .ok (.aload_n 0, 1) := by decide +kernel
theorem dX9_dampIn_16 : decode cX9_dampIn 16 = .ok (.getfield 66, 3) := by decide +kernel
theorem dX9_dampIn_19 : decode cX9_dampIn 19 = .ok (.iload_n 1, 1) := by decide +kernel
theorem dX9_dampIn_20 : decode cX9_dampIn 20 = .ok (.iconst 2, 1) := by decide +kernel
theorem dX9_dampIn_21 : decode cX9_dampIn 21 = .ok (.iadd, 1) := by decide +kernel
theorem dX9_dampIn_22 : decode cX9_dampIn 22 = .ok (.iaload, 1) := by decide +kernel
theorem dX9_dampIn_23 : decode cX9_dampIn 23 = .ok (.iconst 1, 1) := by decide +kernel
theorem dX9_dampIn_24 : decode cX9_dampIn 24 = .ok (.if_icmp .ne 8, 3) := by decide +kernel
theorem dX9_dampIn_27 : decode cX9_dampIn 27 = .ok (.bipush 9, 2) := by decide +kernel
theorem dX9_dampIn_29 : decode cX9_dampIn 29 = .ok (.goto 15, 3) := by decide +kernel
theorem dX9_dampIn_32 : decode cX9_dampIn 32 = .ok (.aload_n 0, 1) := by decide +kernel
theorem dX9_dampIn_33 : decode cX9_dampIn 33 = .ok (.aload_n 0, 1) := by decide +kernel
theorem dX9_dampIn_34 : decode cX9_dampIn 34 = .ok (.getfield 66, 3) := by decide +kernel
theorem dX9_dampIn_37 : decode cX9_dampIn 37 = .ok (.iload_n 1, 1) := by decide +kernel
theorem dX9_dampIn_38 : decode cX9_dampIn 38 = .ok (.iconst 0, 1) := by decide +kernel
theorem dX9_dampIn_39 : decode cX9_dampIn 39 = .ok (.iadd, 1) := by decide +kernel
theorem dX9_dampIn_40 : decode cX9_dampIn 40 = .ok (.iaload, 1) := by decide +kernel
theorem dX9_dampIn_41 : decode cX9_dampIn 41 = .ok (.invokevirtual 302, 3) := by decide +kernel
theorem dX9_dampIn_44 : decode cX9_dampIn 44 = .ok (.ireturn, 1) := by decide +kernel
theorem dX9_tightOf_0 : decode cX9_tightOf 0 = .ok (.aload_n 0, 1) := by decide +kernel
theorem dX9_tightOf_1 : decode cX9_tightOf 1 = .ok (.getfield 66, 3) := by decide +kernel
theorem dX9_tightOf_4 : decode cX9_tightOf 4 = .ok (.iload_n 1, 1) := by decide +kernel
theorem dX9_tightOf_5 : decode cX9_tightOf 5 = .ok (.bipush 27, 2) := by decide +kernel
theorem dX9_tightOf_7 : decode cX9_tightOf 7 = .ok (.iadd, 1) := by decide +kernel
theorem dX9_tightOf_8 : decode cX9_tightOf 8 = .ok (.iload_n 2, 1) := by decide +kernel
theorem dX9_tightOf_9 : decode cX9_tightOf 9 = .ok (.iadd, 1) := by decide +kernel
theorem dX9_tightOf_10 : decode cX9_tightOf 10 = .ok (.iaload, 1) := by decide +kernel
theorem dX9_tightOf_11 : decode cX9_tightOf 11 = .ok (.aload_n 0, 1) := by decide +kernel
theorem dX9_tightOf_12 : decode cX9_tightOf 12 = .ok (.getfield 66, 3) := by decide +kernel
theorem dX9_tightOf_15 : decode cX9_tightOf 15 = .ok (.iload_n 1, 1) := by decide +kernel
theorem dX9_tightOf_16 : decode cX9_tightOf 16 = .ok (.iconst 3, 1) := by decide +kernel
theorem dX9_tightOf_17 : decode cX9_tightOf 17 = .ok (.iadd, 1) := by decide +kernel
theorem dX9_tightOf_18 : decode cX9_tightOf 18 = .ok (.iload_n 3, 1) := by decide +kernel
theorem dX9_tightOf_19 : decode cX9_tightOf 19 = .ok (.iadd, 1) := by decide +kernel
theorem dX9_tightOf_20 : decode cX9_tightOf 20 = .ok (.iaload, 1) := by decide +kernel
theorem dX9_tightOf_21 : decode cX9_tightOf 21 = .ok (.isub, 1) := by decide +kernel
theorem dX9_tightOf_22 : decode cX9_tightOf 22 = .ok (.iconst 0, 1) := by decide +kernel
theorem dX9_tightOf_23 : decode cX9_tightOf 23 = .ok (.ldc_w 305, 3) := by decide +kernel
theorem dX9_tightOf_26 : decode cX9_tightOf 26 = .ok (.invokestatic 306, 3) := by decide +kernel
theorem dX9_tightOf_29 : decode cX9_tightOf 29 = .ok (.ireturn, 1) := by decide +kernel
theorem dX9_asks_0 : decode cX9_asks 0 = .ok (.aload_n 0, 1) := by decide +kernel
theorem dX9_asks_1 : decode cX9_asks 1 = .ok (.getfield 72, 3) := by decide +kernel
theorem dX9_asks_4 : decode cX9_asks 4 = .ok (.iconst 0, 1) := by decide +kernel
theorem dX9_asks_5 : decode cX9_asks 5 = .ok (.aload_n 0, 1) := by decide +kernel
theorem dX9_asks_6 : decode cX9_asks 6 = .ok (.getfield 66, 3) := by decide +kernel
theorem dX9_asks_9 : decode cX9_asks 9 = .ok (.iload_n 2, 1) := by decide +kernel
theorem dX9_asks_10 : decode cX9_asks 10 = .ok (.bipush 27, 2) := by decide +kernel
theorem dX9_asks_12 : decode cX9_asks 12 = .ok (.iadd, 1) := by decide +kernel
theorem dX9_asks_13 : decode cX9_asks 13 = .ok (.iload_n 3, 1) := by decide +kernel
theorem dX9_asks_14 : decode cX9_asks 14 = .ok (.iadd, 1) := by decide +kernel
theorem dX9_asks_15 : decode cX9_asks 15 = .ok (.iaload, 1) := by decide +kernel
theorem dX9_asks_16 : decode cX9_asks 16 = .ok (.iastore, 1) := by decide +kernel
theorem dX9_asks_17 : decode cX9_asks 17 = .ok (.aload_n 0, 1) := by decide +kernel
theorem dX9_asks_18 : decode cX9_asks 18 = .ok (.getfield 72, 3) := by decide +kernel
theorem dX9_asks_21 : decode cX9_asks 21 = .ok (.iconst 1, 1) := by decide +kernel
theorem dX9_asks_22 : decode cX9_asks 22 = .ok (.aload_n 0, 1) := by decide +kernel
theorem dX9_asks_23 : decode cX9_asks 23 = .ok (.getfield 66, 3) := by decide +kernel
theorem dX9_asks_26 : decode cX9_asks 26 = .ok (.iload_n 2, 1) := by decide +kernel
theorem dX9_asks_27 : decode cX9_asks 27 = .ok (.iconst 3, 1) := by decide +kernel
theorem dX9_asks_28 : decode cX9_asks 28 = .ok (.iadd, 1) := by decide +kernel
theorem dX9_asks_29 : decode cX9_asks 29 = .ok (.iload 4, 2) := by decide +kernel
theorem dX9_asks_31 : decode cX9_asks 31 = .ok (.iadd, 1) := by decide +kernel
theorem dX9_asks_32 : decode cX9_asks 32 = .ok (.iaload, 1) := by decide +kernel
theorem dX9_asks_33 : decode cX9_asks 33 = .ok (.iastore, 1) := by decide +kernel
theorem dX9_asks_34 : decode cX9_asks 34 = .ok (.aload_n 0, 1) := by decide +kernel
theorem dX9_asks_35 : decode cX9_asks 35 = .ok (.getfield 72, 3) := by decide +kernel
theorem dX9_asks_38 : decode cX9_asks 38 = .ok (.iconst 2, 1) := by decide +kernel
theorem dX9_asks_39 : decode cX9_asks 39 = .ok (.aload_n 0, 1) := by decide +kernel
theorem dX9_asks_40 : decode cX9_asks 40 = .ok (.getfield 16, 3) := by decide +kernel
theorem dX9_asks_43 : decode cX9_asks 43 = .ok (.iload 4, 2) := by decide +kernel
theorem dX9_asks_45 : decode cX9_asks 45 = .ok (.iaload, 1) := by decide +kernel
theorem dX9_asks_46 : decode cX9_asks 46 = .ok (.iastore, 1) := by decide +kernel
theorem dX9_asks_47 : decode cX9_asks 47 = .ok (.aload_n 0, 1) := by decide +kernel
theorem dX9_asks_48 : decode cX9_asks 48 = .ok (.getfield 72, 3) := by decide +kernel
theorem dX9_asks_51 : decode cX9_asks 51 = .ok (.iconst 3, 1) := by decide +kernel
theorem dX9_asks_52 : decode cX9_asks 52 = .ok (.aload_n 0, 1) := by decide +kernel
theorem dX9_asks_53 : decode cX9_asks 53 = .ok (.getfield 66, 3) := by decide +kernel
theorem dX9_asks_56 : decode cX9_asks 56 = .ok (.iload_n 2, 1) := by decide +kernel
theorem dX9_asks_57 : decode cX9_asks 57 = .ok (.bipush 11, 2) := by decide +kernel
theorem dX9_asks_59 : decode cX9_asks 59 = .ok (.iadd, 1) := by decide +kernel
theorem dX9_asks_60 : decode cX9_asks 60 = .ok (.iload 4, 2) := by decide +kernel
theorem dX9_asks_62 : decode cX9_asks 62 = .ok (.iadd, 1) := by decide +kernel
theorem dX9_asks_63 : decode cX9_asks 63 = .ok (.iaload, 1) := by decide +kernel
theorem dX9_asks_64 : decode cX9_asks 64 = .ok (.iastore, 1) := by decide +kernel
theorem dX9_asks_65 : decode cX9_asks 65 = .ok (.aload_n 0, 1) := by decide +kernel
theorem dX9_asks_66 : decode cX9_asks 66 = .ok (.getfield 72, 3) := by decide +kernel
theorem dX9_asks_69 : decode cX9_asks 69 = .ok (.iconst 4, 1) := by decide +kernel
theorem dX9_asks_70 : decode cX9_asks 70 = .ok (.aload_n 0, 1) := by decide +kernel
theorem dX9_asks_71 : decode cX9_asks 71 = .ok (.iload_n 2, 1) := by decide +kernel
theorem dX9_asks_72 : decode cX9_asks 72 = .ok (.invokevirtual 309, 3) := by decide +kernel
theorem dX9_asks_75 : decode cX9_asks 75 = .ok (.iastore, 1) := by decide +kernel
theorem dX9_asks_76 : decode cX9_asks 76 = .ok (.aload_n 0, 1) := by decide +kernel
theorem dX9_asks_77 : decode cX9_asks 77 = .ok (.getfield 72, 3) := by decide +kernel
theorem dX9_asks_80 : decode cX9_asks 80 = .ok (.iconst 5, 1) := by decide +kernel
theorem dX9_asks_81 : decode cX9_asks 81 = .ok (.aload_n 0, 1) := by decide +kernel
theorem dX9_asks_82 : decode cX9_asks 82 = .ok (.getfield 66, 3) := by decide +kernel
theorem dX9_asks_85 : decode cX9_asks 85 = .ok (.iload_n 2, 1) := by decide +kernel
theorem dX9_asks_86 : decode cX9_asks 86 = .ok (.iconst 0, 1) := by decide +kernel
theorem dX9_asks_87 : decode cX9_asks 87 = .ok (.iadd, 1) := by decide +kernel
theorem dX9_asks_88 : decode cX9_asks 88 = .ok (.iaload, 1) := by decide +kernel
theorem dX9_asks_89 : decode cX9_asks 89 = .ok (.iastore, 1) := by decide +kernel
theorem dX9_asks_90 : decode cX9_asks 90 = .ok (.aload_n 0, 1) := by decide +kernel
theorem dX9_asks_91 : decode cX9_asks 91 = .ok (.getfield 72, 3) := by decide +kernel
theorem dX9_asks_94 : decode cX9_asks 94 = .ok (.bipush 6, 2) := by decide +kernel
theorem dX9_asks_96 : decode cX9_asks 96 = .ok (.aload_n 0, 1) := by decide +kernel
theorem dX9_asks_97 : decode cX9_asks 97 = .ok (.iload_n 2, 1) := by decide +kernel
theorem dX9_asks_98 : decode cX9_asks 98 = .ok (.iload_n 3, 1) := by decide +kernel
theorem dX9_asks_99 : decode cX9_asks 99 = .ok (.iload 4, 2) := by decide +kernel
theorem dX9_asks_101 : decode cX9_asks 101 = .ok (.invokevirtual 312, 3) := by decide +kernel
theorem dX9_asks_104 : decode cX9_asks 104 = .ok (.iastore, 1) := by decide +kernel
theorem dX9_asks_105 : decode cX9_asks 105 = .ok (.aload_n 0, 1) := by decide +kernel
theorem dX9_asks_106 : decode cX9_asks 106 = .ok (.iload_n 1, 1) := by decide +kernel
theorem dX9_asks_107 : decode cX9_asks 107 = .ok (.invokevirtual 315, 3) := by decide +kernel
theorem dX9_asks_110 : decode cX9_asks 110 = .ok (.ireturn, 1) := by decide +kernel
theorem dX9_easesOf_0 : decode cX9_easesOf 0 = .ok (.aload_n 0, 1) := by decide +kernel
theorem dX9_easesOf_1 : decode cX9_easesOf 1 = .ok (.getfield 9, 3) := by decide +kernel
theorem dX9_easesOf_4 : decode cX9_easesOf 4 = .ok (.iconst (-1), 1) := by decide +kernel
theorem dX9_easesOf_5 : decode cX9_easesOf 5 = .ok (.if_icmp .ne 33, 3) := by decide +kernel
theorem dX9_easesOf_8 : decode cX9_easesOf 8 = .ok (.aload_n 0, 1) := by decide +kernel
theorem dX9_easesOf_9 : decode cX9_easesOf 9 = .ok (.getfield 16, 3) := by decide +kernel
theorem dX9_easesOf_12 : decode cX9_easesOf 12 = .ok (.iload_n 3, 1) := by decide +kernel
theorem dX9_easesOf_13 : decode cX9_easesOf 13 = .ok (.iaload, 1) := by decide +kernel
theorem dX9_easesOf_14 : decode cX9_easesOf 14 = .ok (.aload_n 0, 1) := by decide +kernel
theorem dX9_easesOf_15 : decode cX9_easesOf 15 = .ok (.iload_n 1, 1) := by decide +kernel
theorem dX9_easesOf_16 : decode cX9_easesOf 16 = .ok (.invokevirtual 309, 3) := by decide +kernel
theorem dX9_easesOf_19 : decode cX9_easesOf 19 = .ok (.iadd, 1) := by decide +kernel
theorem dX9_easesOf_20 : decode cX9_easesOf 20 = .ok (.aload_n 0, 1) := by decide +kernel
theorem dX9_easesOf_21 : decode cX9_easesOf 21 = .ok (.getfield 66, 3) := by decide +kernel
theorem dX9_easesOf_24 : decode cX9_easesOf 24 = .ok (.iload_n 1, 1) := by decide +kernel
theorem dX9_easesOf_25 : decode cX9_easesOf 25 = .ok (.bipush 11, 2) := by decide +kernel
theorem dX9_easesOf_27 : decode cX9_easesOf 27 = .ok (.iadd, 1) := by decide +kernel
theorem dX9_easesOf_28 : decode cX9_easesOf 28 = .ok (.iload_n 3, 1) := by decide +kernel
theorem dX9_easesOf_29 : decode cX9_easesOf 29 = .ok (.iadd, 1) := by decide +kernel
theorem dX9_easesOf_30 : decode cX9_easesOf 30 = .ok (.iaload, 1) := by decide +kernel
theorem dX9_easesOf_31 : decode cX9_easesOf 31 = .ok (.bipush 10, 2) := by decide +kernel
theorem dX9_easesOf_33 : decode cX9_easesOf 33 = .ok (.idiv, 1) := by decide +kernel
theorem dX9_easesOf_34 : decode cX9_easesOf 34 = .ok (.iadd, 1) := by decide +kernel
theorem dX9_easesOf_35 : decode cX9_easesOf 35 = .ok (.goto 14, 3) := by decide +kernel
theorem dX9_easesOf_38 : decode cX9_easesOf 38 = .ok (.aload_n 0, 1) := by decide +kernel
theorem dX9_easesOf_39 : decode cX9_easesOf 39 = .ok (.aload_n 0, 1) := by decide +kernel
theorem dX9_easesOf_40 : decode cX9_easesOf 40 = .ok (.getfield 9, 3) := by decide +kernel
theorem dX9_easesOf_43 : decode cX9_easesOf 43 = .ok (.iload_n 1, 1) := by decide +kernel
theorem dX9_easesOf_44 : decode cX9_easesOf 44 = .ok (.iload_n 2, 1) := by decide +kernel
theorem dX9_easesOf_45 : decode cX9_easesOf 45 = .ok (.iload_n 3, 1) := by decide +kernel
theorem dX9_easesOf_46 : decode cX9_easesOf 46 = .ok (.invokevirtual 318, 3) := by decide +kernel
theorem dX9_easesOf_49 : decode cX9_easesOf 49 = .ok (.iconst 0, 1) := by decide +kernel
theorem dX9_easesOf_50 : decode cX9_easesOf 50 = .ok (.bipush 30, 2) := by decide +kernel
theorem dX9_easesOf_52 : decode cX9_easesOf 52 = .ok (.invokestatic 306, 3) := by decide +kernel
theorem dX9_easesOf_55 : decode cX9_easesOf 55 = .ok (.ireturn, 1) := by decide +kernel
theorem dX9_isBurst_0 : decode cX9_isBurst 0 = .ok (.aload_n 0, 1) := by decide +kernel
theorem dX9_isBurst_1 : decode cX9_isBurst 1 = .ok (.getfield 66, 3) := by decide +kernel
theorem dX9_isBurst_4 : decode cX9_isBurst 4 = .ok (.iload_n 1, 1) := by decide +kernel
theorem dX9_isBurst_5 : decode cX9_isBurst 5 = .ok (.iconst 1, 1) := by decide +kernel
theorem dX9_isBurst_6 : decode cX9_isBurst 6 = .ok (.iadd, 1) := by decide +kernel
theorem dX9_isBurst_7 : decode cX9_isBurst 7 = .ok (.iaload, 1) := by decide +kernel
theorem dX9_isBurst_8 : decode cX9_isBurst 8 = .ok (.iload_n 2, 1) := by decide +kernel
theorem dX9_isBurst_9 : decode cX9_isBurst 9 = .ok (.ishr, 1) := by decide +kernel
theorem dX9_isBurst_10 : decode cX9_isBurst 10 = .ok (.iconst 1, 1) := by decide +kernel
theorem dX9_isBurst_11 : decode cX9_isBurst 11 = .ok (.iand, 1) := by decide +kernel
theorem dX9_isBurst_12 : decode cX9_isBurst 12 = .ok (.iconst 1, 1) := by decide +kernel
theorem dX9_isBurst_13 : decode cX9_isBurst 13 = .ok (.if_icmp .ne 7, 3) := by decide +kernel
theorem dX9_isBurst_16 : decode cX9_isBurst 16 = .ok (.iconst 1, 1) := by decide +kernel
theorem dX9_isBurst_17 : decode cX9_isBurst 17 = .ok (.goto 4, 3) := by decide +kernel
theorem dX9_isBurst_20 : decode cX9_isBurst 20 = .ok (.iconst 0, 1) := by decide +kernel
theorem dX9_isBurst_21 : decode cX9_isBurst 21 = .ok (.ireturn, 1) := by decide +kernel
theorem dX9_wouldGo_0 : decode cX9_wouldGo 0 = .ok (.aload_n 0, 1) := by decide +kernel
theorem dX9_wouldGo_1 : decode cX9_wouldGo 1 = .ok (.iload_n 1, 1) := by decide +kernel
theorem dX9_wouldGo_2 : decode cX9_wouldGo 2 = .ok (.iload_n 3, 1) := by decide +kernel
theorem dX9_wouldGo_3 : decode cX9_wouldGo 3 = .ok (.invokevirtual 322, 3) := by decide +kernel
theorem dX9_wouldGo_6 : decode cX9_wouldGo 6 = .ok (.ifCond .ne 24, 3) := by decide +kernel
theorem dX9_wouldGo_9 : decode cX9_wouldGo 9 = .ok (.aload_n 0, 1) := by decide +kernel
theorem dX9_wouldGo_10 : decode cX9_wouldGo 10 = .ok (.iload_n 1, 1) := by decide +kernel
theorem dX9_wouldGo_11 : decode cX9_wouldGo 11 = .ok (.iload_n 2, 1) := by decide +kernel
theorem dX9_wouldGo_12 : decode cX9_wouldGo 12 = .ok (.iload_n 3, 1) := by decide +kernel
theorem dX9_wouldGo_13 : decode cX9_wouldGo 13 = .ok (.invokevirtual 312, 3) := by decide +kernel
theorem dX9_wouldGo_16 : decode cX9_wouldGo 16 = .ok (.aload_n 0, 1) := by decide +kernel
theorem dX9_wouldGo_17 : decode cX9_wouldGo 17 = .ok (.iload_n 1, 1) := by decide +kernel
theorem dX9_wouldGo_18 : decode cX9_wouldGo 18 = .ok (.iload_n 2, 1) := by decide +kernel
theorem dX9_wouldGo_19 : decode cX9_wouldGo 19 = .ok (.iload_n 3, 1) := by decide +kernel
theorem dX9_wouldGo_20 : decode cX9_wouldGo 20 = .ok (.invokevirtual 326, 3) := by decide +kernel
theorem dX9_wouldGo_23 : decode cX9_wouldGo 23 = .ok (.if_icmp .gt 7, 3) := by decide +kernel
theorem dX9_wouldGo_26 : decode cX9_wouldGo 26 = .ok (.iconst 1, 1) := by decide +kernel
theorem dX9_wouldGo_27 : decode cX9_wouldGo 27 = .ok (.goto 4, 3) := by decide +kernel
theorem dX9_wouldGo_30 : decode cX9_wouldGo 30 = .ok (.iconst 0, 1) := by decide +kernel
theorem dX9_wouldGo_31 : decode cX9_wouldGo 31 = .ok (.ireturn, 1) := by decide +kernel
theorem dX9_houseOf_0 : decode cX9_houseOf 0 = .ok (.iconst 0, 1) := by decide +kernel
theorem dX9_houseOf_1 : decode cX9_houseOf 1 = .ok (.istore_n 3, 1) := by decide +kernel
theorem dX9_houseOf_2 : decode cX9_houseOf 2 = .ok (.iload_n 3, 1) := by decide +kernel
theorem dX9_houseOf_3 : decode cX9_houseOf 3 = .ok (.aload_n 0, 1) := by decide +kernel
theorem dX9_houseOf_4 : decode cX9_houseOf 4 = .ok (.getfield 275, 3) := by decide +kernel
theorem dX9_houseOf_7 : decode cX9_houseOf 7 = .ok (.if_icmp .ge 26, 3) := by decide +kernel
theorem dX9_houseOf_10 : decode cX9_houseOf 10 = .ok (.aload_n 0, 1) := by decide +kernel
theorem dX9_houseOf_11 : decode cX9_houseOf 11 = .ok (.getfield 66, 3) := by decide +kernel
theorem dX9_houseOf_14 : decode cX9_houseOf 14 = .ok (.iload_n 1, 1) := by decide +kernel
theorem dX9_houseOf_15 : decode cX9_houseOf 15 = .ok (.bipush 19, 2) := by decide +kernel
theorem dX9_houseOf_17 : decode cX9_houseOf 17 = .ok (.iadd, 1) := by decide +kernel
theorem dX9_houseOf_18 : decode cX9_houseOf 18 = .ok (.iload_n 3, 1) := by decide +kernel
theorem dX9_houseOf_19 : decode cX9_houseOf 19 = .ok (.iadd, 1) := by decide +kernel
theorem dX9_houseOf_20 : decode cX9_houseOf 20 = .ok (.iaload, 1) := by decide +kernel
theorem dX9_houseOf_21 : decode cX9_houseOf 21 = .ok (.iload_n 2, 1) := by decide +kernel
theorem dX9_houseOf_22 : decode cX9_houseOf 22 = .ok (.if_icmp .ne 5, 3) := by decide +kernel
theorem dX9_houseOf_25 : decode cX9_houseOf 25 = .ok (.iload_n 3, 1) := by decide +kernel
theorem dX9_houseOf_26 : decode cX9_houseOf 26 = .ok (.ireturn, 1) := by decide +kernel
theorem dX9_houseOf_27 : decode cX9_houseOf 27 = .ok (.iinc 3 1, 3) := by decide +kernel
theorem dX9_houseOf_30 : decode cX9_houseOf 30 = .ok (.goto (-28), 3) := by decide +kernel
theorem dX9_houseOf_33 : decode cX9_houseOf 33 = .ok (.iconst (-1), 1) := by decide +kernel
theorem dX9_houseOf_34 : decode cX9_houseOf 34 = .ok (.ireturn, 1) := by decide +kernel
theorem dX9_wears_0 : decode cX9_wears 0 = .ok (.aload_n 0, 1) := by decide +kernel
theorem dX9_wears_1 : decode cX9_wears 1 = .ok (.getfield 66, 3) := by decide +kernel
theorem dX9_wears_4 : decode cX9_wears 4 = .ok (.iload_n 1, 1) := by decide +kernel
theorem dX9_wears_5 : decode cX9_wears 5 = .ok (.bipush 19, 2) := by decide +kernel
theorem dX9_wears_7 : decode cX9_wears 7 = .ok (.iadd, 1) := by decide +kernel
theorem dX9_wears_8 : decode cX9_wears 8 = .ok (.iload_n 2, 1) := by decide +kernel
theorem dX9_wears_9 : decode cX9_wears 9 = .ok (.iadd, 1) := by decide +kernel
theorem dX9_wears_10 : decode cX9_wears 10 = .ok (.iaload, 1) := by decide +kernel
theorem dX9_wears_11 : decode cX9_wears 11 = .ok (.istore_n 3, 1) := by decide +kernel
theorem dX9_wears_12 : decode cX9_wears 12 = .ok (.aload_n 0, 1) := by decide +kernel
theorem dX9_wears_13 : decode cX9_wears 13 = .ok (.iload_n 1, 1) := by decide +kernel
theorem dX9_wears_14 : decode cX9_wears 14 = .ok (.iload_n 3, 1) := by decide +kernel
theorem dX9_wears_15 : decode cX9_wears 15 = .ok (.iload_n 2, 1) := by decide +kernel
theorem dX9_wears_16 : decode cX9_wears 16 = .ok (.invokevirtual 312, 3) := by decide +kernel
theorem dX9_wears_19 : decode cX9_wears 19 = .ok (.istore 4, 2) := by decide +kernel
theorem dX9_wears_21 : decode cX9_wears 21 = .ok (.aload_n 0, 1) := by decide +kernel
theorem dX9_wears_22 : decode cX9_wears 22 = .ok (.getfield 66, 3) := by decide +kernel
theorem dX9_wears_25 : decode cX9_wears 25 = .ok (.iload_n 1, 1) := by decide +kernel
theorem dX9_wears_26 : decode cX9_wears 26 = .ok (.bipush 11, 2) := by decide +kernel
theorem dX9_wears_28 : decode cX9_wears 28 = .ok (.iadd, 1) := by decide +kernel
theorem dX9_wears_29 : decode cX9_wears 29 = .ok (.iload_n 2, 1) := by decide +kernel
theorem dX9_wears_30 : decode cX9_wears 30 = .ok (.iadd, 1) := by decide +kernel
theorem dX9_wears_31 : decode cX9_wears 31 = .ok (.bipush 99, 2) := by decide +kernel
theorem dX9_wears_33 : decode cX9_wears 33 = .ok (.aload_n 0, 1) := by decide +kernel
theorem dX9_wears_34 : decode cX9_wears 34 = .ok (.getfield 66, 3) := by decide +kernel
theorem dX9_wears_37 : decode cX9_wears 37 = .ok (.iload_n 1, 1) := by decide +kernel
theorem dX9_wears_38 : decode cX9_wears 38 = .ok (.bipush 11, 2) := by decide +kernel
theorem dX9_wears_40 : decode cX9_wears 40 = .ok (.iadd, 1) := by decide +kernel
theorem dX9_wears_41 : decode cX9_wears 41 = .ok (.iload_n 2, 1) := by decide +kernel
theorem dX9_wears_42 : decode cX9_wears 42 = .ok (.iadd, 1) := by decide +kernel
theorem dX9_wears_43 : decode cX9_wears 43 = .ok (.iaload, 1) := by decide +kernel
theorem dX9_wears_44 : decode cX9_wears 44 = .ok (.iload 4, 2) := by decide +kernel
theorem dX9_wears_46 : decode cX9_wears 46 = .ok (.iadd, 1) := by decide +kernel
theorem dX9_wears_47 : decode cX9_wears 47 = .ok (.invokestatic 329, 3) := by decide +kernel
theorem dX9_wears_50 : decode cX9_wears 50 = .ok (.iastore, 1) := by decide +kernel
theorem dX9_wears_51 : decode cX9_wears 51 = .ok (.aload_n 0, 1) := by decide +kernel
theorem dX9_wears_52 : decode cX9_wears 52 = .ok (.getfield 66, 3) := by decide +kernel
theorem dX9_wears_55 : decode cX9_wears 55 = .ok (.iload_n 1, 1) := by decide +kernel
theorem dX9_wears_56 : decode cX9_wears 56 = .ok (.bipush 35, 2) := by decide +kernel
theorem dX9_wears_58 : decode cX9_wears 58 = .ok (.iadd, 1) := by decide +kernel
theorem dX9_wears_59 : decode cX9_wears 59 = .ok (.iload_n 3, 1) := by decide +kernel
theorem dX9_wears_60 : decode cX9_wears 60 = .ok (.iadd, 1) := by decide +kernel
theorem dX9_wears_61 : decode cX9_wears 61 = .ok (.sipush 999, 3) := by decide +kernel
theorem dX9_wears_64 : decode cX9_wears 64 = .ok (.aload_n 0, 1) := by decide +kernel
theorem dX9_wears_65 : decode cX9_wears 65 = .ok (.getfield 66, 3) := by decide +kernel
theorem dX9_wears_68 : decode cX9_wears 68 = .ok (.iload_n 1, 1) := by decide +kernel
theorem dX9_wears_69 : decode cX9_wears 69 = .ok (.bipush 35, 2) := by decide +kernel
theorem dX9_wears_71 : decode cX9_wears 71 = .ok (.iadd, 1) := by decide +kernel
theorem dX9_wears_72 : decode cX9_wears 72 = .ok (.iload_n 3, 1) := by decide +kernel
theorem dX9_wears_73 : decode cX9_wears 73 = .ok (.iadd, 1) := by decide +kernel
theorem dX9_wears_74 : decode cX9_wears 74 = .ok (.iaload, 1) := by decide +kernel
theorem dX9_wears_75 : decode cX9_wears 75 = .ok (.iload 4, 2) := by decide +kernel
theorem dX9_wears_77 : decode cX9_wears 77 = .ok (.iadd, 1) := by decide +kernel
theorem dX9_wears_78 : decode cX9_wears 78 = .ok (.invokestatic 329, 3) := by decide +kernel
theorem dX9_wears_81 : decode cX9_wears 81 = .ok (.iastore, 1) := by decide +kernel
theorem dX9_wears_82 : decode cX9_wears 82 = .ok (.aload_n 0, 1) := by decide +kernel
theorem dX9_wears_83 : decode cX9_wears 83 = .ok (.getfield 13, 3) := by decide +kernel
theorem dX9_wears_86 : decode cX9_wears 86 = .ok (.iconst (-1), 1) := by decide +kernel
theorem dX9_wears_87 : decode cX9_wears 87 = .ok (.if_icmp .ne 25, 3) := by decide +kernel
theorem dX9_wears_90 : decode cX9_wears 90 = .ok (.iload 4, 2) := by decide +kernel
theorem dX9_wears_92 : decode cX9_wears 92 = .ok (.bipush 9, 2) := by decide +kernel
theorem dX9_wears_94 : decode cX9_wears 94 = .ok (.aload_n 0, 1) := by decide +kernel
theorem dX9_wears_95 : decode cX9_wears 95 = .ok (.getfield 16, 3) := by decide +kernel
theorem dX9_wears_98 : decode cX9_wears 98 = .ok (.iload_n 2, 1) := by decide +kernel
theorem dX9_wears_99 : decode cX9_wears 99 = .ok (.iaload, 1) := by decide +kernel
theorem dX9_wears_100 : decode cX9_wears 100 = .ok (.iadd, 1) := by decide +kernel
theorem dX9_wears_101 : decode cX9_wears 101 = .ok (.if_icmp .le 7, 3) := by decide +kernel
theorem dX9_wears_104 : decode cX9_wears 104 = .ok (.iconst 1, 1) := by decide +kernel
theorem dX9_wears_105 : decode cX9_wears 105 = .ok (.goto 26, 3) := by decide +kernel
theorem dX9_wears_108 : decode cX9_wears 108 = .ok (.iconst 0, 1) := by decide +kernel
theorem dX9_wears_109 : decode cX9_wears 109 = .ok (.goto 22, 3) := by decide +kernel
theorem dX9_wears_112 : decode cX9_wears 112 = .ok (.aload_n 0, 1) := by decide +kernel
theorem dX9_wears_113 : decode cX9_wears 113 = .ok (.aload_n 0, 1) := by decide +kernel
theorem dX9_wears_114 : decode cX9_wears 114 = .ok (.getfield 13, 3) := by decide +kernel
theorem dX9_wears_117 : decode cX9_wears 117 = .ok (.iload_n 1, 1) := by decide +kernel
theorem dX9_wears_118 : decode cX9_wears 118 = .ok (.iload_n 3, 1) := by decide +kernel
theorem dX9_wears_119 : decode cX9_wears 119 = .ok (.iload_n 2, 1) := by decide +kernel
theorem dX9_wears_120 : decode cX9_wears 120 = .ok (.invokevirtual 318, 3) := by decide +kernel
theorem dX9_wears_123 : decode cX9_wears 123 = .ok (.ifCond .le 7, 3) := by decide +kernel
theorem dX9_wears_126 : decode cX9_wears 126 = .ok (.iconst 1, 1) := by decide +kernel
theorem dX9_wears_127 : decode cX9_wears 127 = .ok (.goto 4, 3) := by decide +kernel
theorem dX9_wears_130 : decode cX9_wears 130 = .ok (.iconst 0, 1) := by decide +kernel
theorem dX9_wears_131 : decode cX9_wears 131 = .ok (.istore 5, 2) := by decide +kernel
theorem dX9_wears_133 : decode cX9_wears 133 = .ok (.iload 5, 2) := by decide +kernel
theorem dX9_wears_135 : decode cX9_wears 135 = .ok (.ifCond .ne 4, 3) := by decide +kernel
theorem dX9_wears_138 : decode cX9_wears 138 = .ok (.return_, 1) := by decide +kernel
theorem dX9_wears_139 : decode cX9_wears 139 = .ok (.aload_n 0, 1) := by decide +kernel
theorem dX9_wears_140 : decode cX9_wears 140 = .ok (.getfield 66, 3) := by decide +kernel
theorem dX9_wears_143 : decode cX9_wears 143 = .ok (.iload_n 1, 1) := by decide +kernel
theorem dX9_wears_144 : decode cX9_wears 144 = .ok (.iconst 1, 1) := by decide +kernel
theorem dX9_wears_145 : decode cX9_wears 145 = .ok (.iadd, 1) := by decide +kernel
theorem dX9_wears_146 : decode cX9_wears 146 = .ok (.dup2, 1) := by decide +kernel
theorem dX9_wears_147 : decode cX9_wears 147 = .ok (.iaload, 1) := by decide +kernel
theorem dX9_wears_148 : decode cX9_wears 148 = .ok (.iconst 1, 1) := by decide +kernel
theorem dX9_wears_149 : decode cX9_wears 149 = .ok (.iload_n 2, 1) := by decide +kernel
theorem dX9_wears_150 : decode cX9_wears 150 = .ok (.ishl, 1) := by decide +kernel
theorem dX9_wears_151 : decode cX9_wears 151 = .ok (.ior, 1) := by decide +kernel
theorem dX9_wears_152 : decode cX9_wears 152 = .ok (.iastore, 1) := by decide +kernel
theorem dX9_wears_153 : decode cX9_wears 153 = .ok (.aload_n 0, 1) := by decide +kernel
theorem dX9_wears_154 : decode cX9_wears 154 = .ok (.getfield 66, 3) := by decide +kernel
theorem dX9_wears_157 : decode cX9_wears 157 = .ok (.iload_n 1, 1) := by decide +kernel
theorem dX9_wears_158 : decode cX9_wears 158 = .ok (.bipush 19, 2) := by decide +kernel
theorem dX9_wears_160 : decode cX9_wears 160 = .ok (.iadd, 1) := by decide +kernel
theorem dX9_wears_161 : decode cX9_wears 161 = .ok (.iload_n 2, 1) := by decide +kernel
theorem dX9_wears_162 : decode cX9_wears 162 = .ok (.iadd, 1) := by decide +kernel
theorem dX9_wears_163 : decode cX9_wears 163 = .ok (.iconst (-1), 1) := by decide +kernel
theorem dX9_wears_164 : decode cX9_wears 164 = .ok (.iastore, 1) := by decide +kernel
theorem dX9_wears_165 : decode cX9_wears 165 = .ok (.return_, 1) := by decide +kernel
theorem dX9_dayGoes_0 : decode cX9_dayGoes 0 = .ok (.iconst 0, 1) := by decide +kernel
theorem dX9_dayGoes_1 : decode cX9_dayGoes 1 = .ok (.istore_n 2, 1) := by decide +kernel
theorem dX9_dayGoes_2 : decode cX9_dayGoes 2 = .ok (.iload_n 2, 1) := by decide +kernel
theorem dX9_dayGoes_3 : decode cX9_dayGoes 3 = .ok (.aload_n 0, 1) := by decide +kernel
theorem dX9_dayGoes_4 : decode cX9_dayGoes 4 = .ok (.getfield 275, 3) := by decide +kernel
theorem dX9_dayGoes_7 : decode cX9_dayGoes 7 = .ok (.if_icmp .ge 30, 3) := by decide +kernel
theorem dX9_dayGoes_10 : decode cX9_dayGoes 10 = .ok (.aload_n 0, 1) := by decide +kernel
theorem dX9_dayGoes_11 : decode cX9_dayGoes 11 = .ok (.getfield 66, 3) := by decide +kernel
theorem dX9_dayGoes_14 : decode cX9_dayGoes 14 = .ok (.iload_n 1, 1) := by decide +kernel
theorem dX9_dayGoes_15 : decode cX9_dayGoes 15 = .ok (.bipush 19, 2) := by decide +kernel
theorem dX9_dayGoes_17 : decode cX9_dayGoes 17 = .ok (.iadd, 1) := by decide +kernel
theorem dX9_dayGoes_18 : decode cX9_dayGoes 18 = .ok (.iload_n 2, 1) := by decide +kernel
theorem dX9_dayGoes_19 : decode cX9_dayGoes 19 = .ok (.iadd, 1) := by decide +kernel
theorem dX9_dayGoes_20 : decode cX9_dayGoes 20 = .ok (.iaload, 1) := by decide +kernel
theorem dX9_dayGoes_21 : decode cX9_dayGoes 21 = .ok (.iconst (-1), 1) := by decide +kernel
theorem dX9_dayGoes_22 : decode cX9_dayGoes 22 = .ok (.if_icmp .eq 9, 3) := by decide +kernel
theorem dX9_dayGoes_25 : decode cX9_dayGoes 25 = .ok (.aload_n 0, 1) := by decide +kernel
theorem dX9_dayGoes_26 : decode cX9_dayGoes 26 = .ok (.iload_n 1, 1) := by decide +kernel
theorem dX9_dayGoes_27 : decode cX9_dayGoes 27 = .ok (.iload_n 2, 1) := by decide +kernel
theorem dX9_dayGoes_28 : decode cX9_dayGoes 28 = .ok (.invokevirtual 332, 3) := by decide +kernel
theorem dX9_dayGoes_31 : decode cX9_dayGoes 31 = .ok (.iinc 2 1, 3) := by decide +kernel
theorem dX9_dayGoes_34 : decode cX9_dayGoes 34 = .ok (.goto (-32), 3) := by decide +kernel
theorem dX9_dayGoes_37 : decode cX9_dayGoes 37 = .ok (.iconst 0, 1) := by decide +kernel
theorem dX9_dayGoes_38 : decode cX9_dayGoes 38 = .ok (.istore_n 2, 1) := by decide +kernel
theorem dX9_dayGoes_39 : decode cX9_dayGoes 39 = .ok (.iload_n 2, 1) := by decide +kernel
theorem dX9_dayGoes_40 : decode cX9_dayGoes 40 = .ok (.aload_n 0, 1) := by decide +kernel
theorem dX9_dayGoes_41 : decode cX9_dayGoes 41 = .ok (.getfield 278, 3) := by decide +kernel
theorem dX9_dayGoes_44 : decode cX9_dayGoes 44 = .ok (.if_icmp .ge 43, 3) := by decide +kernel
theorem dX9_dayGoes_47 : decode cX9_dayGoes 47 = .ok (.aload_n 0, 1) := by decide +kernel
theorem dX9_dayGoes_48 : decode cX9_dayGoes 48 = .ok (.getfield 66, 3) := by decide +kernel
theorem dX9_dayGoes_51 : decode cX9_dayGoes 51 = .ok (.iload_n 1, 1) := by decide +kernel
theorem dX9_dayGoes_52 : decode cX9_dayGoes 52 = .ok (.bipush 27, 2) := by decide +kernel
theorem dX9_dayGoes_54 : decode cX9_dayGoes 54 = .ok (.iadd, 1) := by decide +kernel
theorem dX9_dayGoes_55 : decode cX9_dayGoes 55 = .ok (.iload_n 2, 1) := by decide +kernel
theorem dX9_dayGoes_56 : decode cX9_dayGoes 56 = .ok (.iadd, 1) := by decide +kernel
theorem dX9_dayGoes_57 : decode cX9_dayGoes 57 = .ok (.bipush 99, 2) := by decide +kernel
theorem dX9_dayGoes_59 : decode cX9_dayGoes 59 = .ok (.aload_n 0, 1) := by decide +kernel
theorem dX9_dayGoes_60 : decode cX9_dayGoes 60 = .ok (.getfield 66, 3) := by decide +kernel
theorem dX9_dayGoes_63 : decode cX9_dayGoes 63 = .ok (.iload_n 1, 1) := by decide +kernel
theorem dX9_dayGoes_64 : decode cX9_dayGoes 64 = .ok (.bipush 27, 2) := by decide +kernel
theorem dX9_dayGoes_66 : decode cX9_dayGoes 66 = .ok (.iadd, 1) := by decide +kernel
theorem dX9_dayGoes_67 : decode cX9_dayGoes 67 = .ok (.iload_n 2, 1) := by decide +kernel
theorem dX9_dayGoes_68 : decode cX9_dayGoes 68 = .ok (.iadd, 1) := by decide +kernel
theorem dX9_dayGoes_69 : decode cX9_dayGoes 69 = .ok (.iaload, 1) := by decide +kernel
theorem dX9_dayGoes_70 : decode cX9_dayGoes 70 = .ok (.aload_n 0, 1) := by decide +kernel
theorem dX9_dayGoes_71 : decode cX9_dayGoes 71 = .ok (.getfield 23, 3) := by decide +kernel
theorem dX9_dayGoes_74 : decode cX9_dayGoes 74 = .ok (.iload_n 2, 1) := by decide +kernel
theorem dX9_dayGoes_75 : decode cX9_dayGoes 75 = .ok (.iaload, 1) := by decide +kernel
theorem dX9_dayGoes_76 : decode cX9_dayGoes 76 = .ok (.iadd, 1) := by decide +kernel
theorem dX9_dayGoes_77 : decode cX9_dayGoes 77 = .ok (.invokestatic 329, 3) := by decide +kernel
theorem dX9_dayGoes_80 : decode cX9_dayGoes 80 = .ok (.iastore, 1) := by decide +kernel
theorem dX9_dayGoes_81 : decode cX9_dayGoes 81 = .ok (.iinc 2 1, 3) := by decide +kernel
theorem dX9_dayGoes_84 : decode cX9_dayGoes 84 = .ok (.goto (-45), 3) := by decide +kernel
theorem dX9_dayGoes_87 : decode cX9_dayGoes 87 = .ok (.aload_n 0, 1) := by decide +kernel
theorem dX9_dayGoes_88 : decode cX9_dayGoes 88 = .ok (.getfield 66, 3) := by decide +kernel
theorem dX9_dayGoes_91 : decode cX9_dayGoes 91 = .ok (.iload_n 1, 1) := by decide +kernel
theorem dX9_dayGoes_92 : decode cX9_dayGoes 92 = .ok (.iconst 0, 1) := by decide +kernel
theorem dX9_dayGoes_93 : decode cX9_dayGoes 93 = .ok (.iadd, 1) := by decide +kernel
theorem dX9_dayGoes_94 : decode cX9_dayGoes 94 = .ok (.dup2, 1) := by decide +kernel
theorem dX9_dayGoes_95 : decode cX9_dayGoes 95 = .ok (.iaload, 1) := by decide +kernel
theorem dX9_dayGoes_96 : decode cX9_dayGoes 96 = .ok (.iconst 1, 1) := by decide +kernel
theorem dX9_dayGoes_97 : decode cX9_dayGoes 97 = .ok (.iadd, 1) := by decide +kernel
theorem dX9_dayGoes_98 : decode cX9_dayGoes 98 = .ok (.iastore, 1) := by decide +kernel
theorem dX9_dayGoes_99 : decode cX9_dayGoes 99 = .ok (.aload_n 0, 1) := by decide +kernel
theorem dX9_dayGoes_100 : decode cX9_dayGoes 100 = .ok (.getfield 66, 3) := by decide +kernel
theorem dX9_dayGoes_103 : decode cX9_dayGoes 103 = .ok (.iload_n 1, 1) := by decide +kernel
theorem dX9_dayGoes_104 : decode cX9_dayGoes 104 = .ok (.iconst 2, 1) := by decide +kernel
theorem dX9_dayGoes_105 : decode cX9_dayGoes 105 = .ok (.iadd, 1) := by decide +kernel
theorem dX9_dayGoes_106 : decode cX9_dayGoes 106 = .ok (.iconst 0, 1) := by decide +kernel
theorem dX9_dayGoes_107 : decode cX9_dayGoes 107 = .ok (.iastore, 1) := by decide +kernel
theorem dX9_dayGoes_108 : decode cX9_dayGoes 108 = .ok (.return_, 1) := by decide +kernel
theorem dX9_daysGo_0 : decode cX9_daysGo 0 = .ok (.iconst 0, 1) := by decide +kernel
theorem dX9_daysGo_1 : decode cX9_daysGo 1 = .ok (.istore_n 2, 1) := by decide +kernel
theorem dX9_daysGo_2 : decode cX9_daysGo 2 = .ok (.iload_n 2, 1) := by decide +kernel
theorem dX9_daysGo_3 : decode cX9_daysGo 3 = .ok (.iload_n 1, 1) := by decide +kernel
theorem dX9_daysGo_4 : decode cX9_daysGo 4 = .ok (.if_icmp .ge 15, 3) := by decide +kernel
theorem dX9_daysGo_7 : decode cX9_daysGo 7 = .ok (.aload_n 0, 1) := by decide +kernel
theorem dX9_daysGo_8 : decode cX9_daysGo 8 = .ok (.bipush 43, 2) := by decide +kernel
theorem dX9_daysGo_10 : decode cX9_daysGo 10 = .ok (.invokevirtual 336, 3) := by decide +kernel
theorem dX9_daysGo_13 : decode cX9_daysGo 13 = .ok (.iinc 2 1, 3) := by decide +kernel
theorem dX9_daysGo_16 : decode cX9_daysGo 16 = .ok (.goto (-14), 3) := by decide +kernel
theorem dX9_daysGo_19 : decode cX9_daysGo 19 = .ok (.return_, 1) := by decide +kernel
theorem dX9_lodgersIn_0 : decode cX9_lodgersIn 0 = .ok (.iconst 0, 1) := by decide +kernel
theorem dX9_lodgersIn_1 : decode cX9_lodgersIn 1 = .ok (.istore_n 2, 1) := by decide +kernel
theorem dX9_lodgersIn_2 : decode cX9_lodgersIn 2 = .ok (.iconst 0, 1) := by decide +kernel
theorem dX9_lodgersIn_3 : decode cX9_lodgersIn 3 = .ok (.istore_n 3, 1) := by decide +kernel
theorem dX9_lodgersIn_4 : decode cX9_lodgersIn 4 = .ok (.iload_n 3, 1) := by decide +kernel
theorem dX9_lodgersIn_5 : decode cX9_lodgersIn 5 = .ok (.aload_n 0, 1) := by decide +kernel
theorem dX9_lodgersIn_6 : decode cX9_lodgersIn 6 = .ok (.getfield 278, 3) := by decide +kernel
theorem dX9_lodgersIn_9 : decode cX9_lodgersIn 9 = .ok (.if_icmp .ge 29, 3) := by decide +kernel
theorem dX9_lodgersIn_12 : decode cX9_lodgersIn 12 = .ok (.iload_n 2, 1) := by decide +kernel
theorem dX9_lodgersIn_13 : decode cX9_lodgersIn 13 = .ok (.aload_n 0, 1) := by decide +kernel
theorem dX9_lodgersIn_14 : decode cX9_lodgersIn 14 = .ok (.iload_n 1, 1) := by decide +kernel
theorem dX9_lodgersIn_15 : decode cX9_lodgersIn 15 = .ok (.iload_n 3, 1) := by decide +kernel
theorem dX9_lodgersIn_16 : decode cX9_lodgersIn 16 = .ok (.invokevirtual 339, 3) := by decide +kernel
theorem dX9_lodgersIn_19 : decode cX9_lodgersIn 19 = .ok (.iconst (-1), 1) := by decide +kernel
theorem dX9_lodgersIn_20 : decode cX9_lodgersIn 20 = .ok (.if_icmp .ne 9, 3) := by decide +kernel
theorem dX9_lodgersIn_23 : decode cX9_lodgersIn 23 = .ok (.iconst 1, 1) := by decide +kernel
theorem dX9_lodgersIn_24 : decode cX9_lodgersIn 24 = .ok (.iload_n 3, 1) := by decide +kernel
theorem dX9_lodgersIn_25 : decode cX9_lodgersIn 25 = .ok (.ishl, 1) := by decide +kernel
theorem dX9_lodgersIn_26 : decode cX9_lodgersIn 26 = .ok (.goto 4, 3) := by decide +kernel
theorem dX9_lodgersIn_29 : decode cX9_lodgersIn 29 = .ok (.iconst 0, 1) := by decide +kernel
theorem dX9_lodgersIn_30 : decode cX9_lodgersIn 30 = .ok (.ior, 1) := by decide +kernel
theorem dX9_lodgersIn_31 : decode cX9_lodgersIn 31 = .ok (.istore_n 2, 1) := by decide +kernel
theorem dX9_lodgersIn_32 : decode cX9_lodgersIn 32 = .ok (.iinc 3 1, 3) := by decide +kernel
theorem dX9_lodgersIn_35 : decode cX9_lodgersIn 35 = .ok (.goto (-31), 3) := by decide +kernel
theorem dX9_lodgersIn_38 : decode cX9_lodgersIn 38 = .ok (.iload_n 2, 1) := by decide +kernel
theorem dX9_lodgersIn_39 : decode cX9_lodgersIn 39 = .ok (.ireturn, 1) := by decide +kernel
theorem dX9_soreIn_0 : decode cX9_soreIn 0 = .ok (.iconst 0, 1) := by decide +kernel
theorem dX9_soreIn_1 : decode cX9_soreIn 1 = .ok (.istore_n 2, 1) := by decide +kernel
theorem dX9_soreIn_2 : decode cX9_soreIn 2 = .ok (.iconst 0, 1) := by decide +kernel
theorem dX9_soreIn_3 : decode cX9_soreIn 3 = .ok (.istore_n 3, 1) := by decide +kernel
theorem dX9_soreIn_4 : decode cX9_soreIn 4 = .ok (.iload_n 3, 1) := by decide +kernel
theorem dX9_soreIn_5 : decode cX9_soreIn 5 = .ok (.aload_n 0, 1) := by decide +kernel
theorem dX9_soreIn_6 : decode cX9_soreIn 6 = .ok (.getfield 278, 3) := by decide +kernel
theorem dX9_soreIn_9 : decode cX9_soreIn 9 = .ok (.if_icmp .ge 23, 3) := by decide +kernel
theorem dX9_soreIn_12 : decode cX9_soreIn 12 = .ok (.iload_n 2, 1) := by decide +kernel
theorem dX9_soreIn_13 : decode cX9_soreIn 13 = .ok (.aload_n 0, 1) := by decide +kernel
theorem dX9_soreIn_14 : decode cX9_soreIn 14 = .ok (.getfield 66, 3) := by decide +kernel
theorem dX9_soreIn_17 : decode cX9_soreIn 17 = .ok (.iload_n 1, 1) := by decide +kernel
theorem dX9_soreIn_18 : decode cX9_soreIn 18 = .ok (.bipush 35, 2) := by decide +kernel
theorem dX9_soreIn_20 : decode cX9_soreIn 20 = .ok (.iadd, 1) := by decide +kernel
theorem dX9_soreIn_21 : decode cX9_soreIn 21 = .ok (.iload_n 3, 1) := by decide +kernel
theorem dX9_soreIn_22 : decode cX9_soreIn 22 = .ok (.iadd, 1) := by decide +kernel
theorem dX9_soreIn_23 : decode cX9_soreIn 23 = .ok (.iaload, 1) := by decide +kernel
theorem dX9_soreIn_24 : decode cX9_soreIn 24 = .ok (.iadd, 1) := by decide +kernel
theorem dX9_soreIn_25 : decode cX9_soreIn 25 = .ok (.istore_n 2, 1) := by decide +kernel
theorem dX9_soreIn_26 : decode cX9_soreIn 26 = .ok (.iinc 3 1, 3) := by decide +kernel
theorem dX9_soreIn_29 : decode cX9_soreIn 29 = .ok (.goto (-25), 3) := by decide +kernel
theorem dX9_soreIn_32 : decode cX9_soreIn 32 = .ok (.iload_n 2, 1) := by decide +kernel
theorem dX9_soreIn_33 : decode cX9_soreIn 33 = .ok (.ireturn, 1) := by decide +kernel
theorem dX9_tightNow_0 : decode cX9_tightNow 0 = .ok (.aload_n 0, 1) := by decide +kernel
theorem dX9_tightNow_1 : decode cX9_tightNow 1 = .ok (.iconst 0, 1) := by decide +kernel
theorem dX9_tightNow_2 : decode cX9_tightNow 2 = .ok (.iload_n 1, 1) := by decide +kernel
theorem dX9_tightNow_3 : decode cX9_tightNow 3 = .ok (.invokevirtual 339, 3) := by decide +kernel
theorem dX9_tightNow_6 : decode cX9_tightNow 6 = .ok (.istore_n 2, 1) := by decide +kernel
theorem dX9_tightNow_7 : decode cX9_tightNow 7 = .ok (.iload_n 2, 1) := by decide +kernel
theorem dX9_tightNow_8 : decode cX9_tightNow 8 = .ok (.iconst (-1), 1) := by decide +kernel
theorem dX9_tightNow_9 : decode cX9_tightNow 9 = .ok (.if_icmp .ne 7, 3) := by decide +kernel
theorem dX9_tightNow_12 : decode cX9_tightNow 12 = .ok (.iconst 0, 1) := by decide +kernel
theorem dX9_tightNow_13 : decode cX9_tightNow 13 = .ok (.goto 10, 3) := by decide +kernel
theorem dX9_tightNow_16 : decode cX9_tightNow 16 = .ok (.aload_n 0, 1) := by decide +kernel
theorem dX9_tightNow_17 : decode cX9_tightNow 17 = .ok (.iconst 0, 1) := by decide +kernel
theorem dX9_tightNow_18 : decode cX9_tightNow 18 = .ok (.iload_n 1, 1) := by decide +kernel
theorem dX9_tightNow_19 : decode cX9_tightNow 19 = .ok (.iload_n 2, 1) := by decide +kernel
theorem dX9_tightNow_20 : decode cX9_tightNow 20 = .ok (.invokevirtual 312, 3) := by decide +kernel
theorem dX9_tightNow_23 : decode cX9_tightNow 23 = .ok (.ireturn, 1) := by decide +kernel
theorem dX9_tightest_0 : decode cX9_tightest 0 = .ok (.iconst (-1), 1) := by decide +kernel
theorem dX9_tightest_1 : decode cX9_tightest 1 = .ok (.istore_n 1, 1) := by decide +kernel
theorem dX9_tightest_2 : decode cX9_tightest 2 = .ok (.iconst 0, 1) := by decide +kernel
theorem dX9_tightest_3 : decode cX9_tightest 3 = .ok (.istore_n 2, 1) := by decide +kernel
theorem dX9_tightest_4 : decode cX9_tightest 4 = .ok (.iload_n 2, 1) := by decide +kernel
theorem dX9_tightest_5 : decode cX9_tightest 5 = .ok (.aload_n 0, 1) := by decide +kernel
theorem dX9_tightest_6 : decode cX9_tightest 6 = .ok (.getfield 278, 3) := by decide +kernel
theorem dX9_tightest_9 : decode cX9_tightest 9 = .ok (.if_icmp .ge 33, 3) := by decide +kernel
theorem dX9_tightest_12 : decode cX9_tightest 12 = .ok (.aload_n 0, 1) := by decide +kernel
theorem dX9_tightest_13 : decode cX9_tightest 13 = .ok (.iload_n 2, 1) := by decide +kernel
theorem dX9_tightest_14 : decode cX9_tightest 14 = .ok (.invokevirtual 342, 3) := by decide +kernel
theorem dX9_tightest_17 : decode cX9_tightest 17 = .ok (.iload_n 1, 1) := by decide +kernel
theorem dX9_tightest_18 : decode cX9_tightest 18 = .ok (.iconst (-1), 1) := by decide +kernel
theorem dX9_tightest_19 : decode cX9_tightest 19 = .ok (.if_icmp .ne 7, 3) := by decide +kernel
theorem dX9_tightest_22 : decode cX9_tightest 22 = .ok (.iconst 0, 1) := by decide +kernel
theorem dX9_tightest_23 : decode cX9_tightest 23 = .ok (.goto 8, 3) := by decide +kernel
theorem dX9_tightest_26 : decode cX9_tightest 26 = .ok (.aload_n 0, 1) := by decide +kernel
theorem dX9_tightest_27 : decode cX9_tightest 27 = .ok (.iload_n 1, 1) := by decide +kernel
theorem dX9_tightest_28 : decode cX9_tightest 28 = .ok (.invokevirtual 342, 3) := by decide +kernel
theorem dX9_tightest_31 : decode cX9_tightest 31 = .ok (.if_icmp .le 5, 3) := by decide +kernel
theorem dX9_tightest_34 : decode cX9_tightest 34 = .ok (.iload_n 2, 1) := by decide +kernel
theorem dX9_tightest_35 : decode cX9_tightest 35 = .ok (.istore_n 1, 1) := by decide +kernel
theorem dX9_tightest_36 : decode cX9_tightest 36 = .ok (.iinc 2 1, 3) := by decide +kernel
theorem dX9_tightest_39 : decode cX9_tightest 39 = .ok (.goto (-35), 3) := by decide +kernel
theorem dX9_tightest_42 : decode cX9_tightest 42 = .ok (.iload_n 1, 1) := by decide +kernel
theorem dX9_tightest_43 : decode cX9_tightest 43 = .ok (.ireturn, 1) := by decide +kernel
theorem dX9_taken_0 : decode cX9_taken 0 = .ok (.iconst 0, 1) := by decide +kernel
theorem dX9_taken_1 : decode cX9_taken 1 = .ok (.istore_n 1, 1) := by decide +kernel
theorem dX9_taken_2 : decode cX9_taken 2 = .ok (.iconst 0, 1) := by decide +kernel
theorem dX9_taken_3 : decode cX9_taken 3 = .ok (.istore_n 2, 1) := by decide +kernel
theorem dX9_taken_4 : decode cX9_taken 4 = .ok (.iload_n 2, 1) := by decide +kernel
theorem dX9_taken_5 : decode cX9_taken 5 = .ok (.aload_n 0, 1) := by decide +kernel
theorem dX9_taken_6 : decode cX9_taken 6 = .ok (.getfield 275, 3) := by decide +kernel
theorem dX9_taken_9 : decode cX9_taken 9 = .ok (.if_icmp .ge 32, 3) := by decide +kernel
theorem dX9_taken_12 : decode cX9_taken 12 = .ok (.iload_n 1, 1) := by decide +kernel
theorem dX9_taken_13 : decode cX9_taken 13 = .ok (.aload_n 0, 1) := by decide +kernel
theorem dX9_taken_14 : decode cX9_taken 14 = .ok (.getfield 66, 3) := by decide +kernel
theorem dX9_taken_17 : decode cX9_taken 17 = .ok (.bipush 19, 2) := by decide +kernel
theorem dX9_taken_19 : decode cX9_taken 19 = .ok (.iload_n 2, 1) := by decide +kernel
theorem dX9_taken_20 : decode cX9_taken 20 = .ok (.iadd, 1) := by decide +kernel
theorem dX9_taken_21 : decode cX9_taken 21 = .ok (.iaload, 1) := by decide +kernel
theorem dX9_taken_22 : decode cX9_taken 22 = .ok (.iconst (-1), 1) := by decide +kernel
theorem dX9_taken_23 : decode cX9_taken 23 = .ok (.if_icmp .eq 9, 3) := by decide +kernel
theorem dX9_taken_26 : decode cX9_taken 26 = .ok (.iconst 1, 1) := by decide +kernel
theorem dX9_taken_27 : decode cX9_taken 27 = .ok (.iload_n 2, 1) := by decide +kernel
theorem dX9_taken_28 : decode cX9_taken 28 = .ok (.ishl, 1) := by decide +kernel
theorem dX9_taken_29 : decode cX9_taken 29 = .ok (.goto 4, 3) := by decide +kernel
theorem dX9_taken_32 : decode cX9_taken 32 = .ok (.iconst 0, 1) := by decide +kernel
theorem dX9_taken_33 : decode cX9_taken 33 = .ok (.ior, 1) := by decide +kernel
theorem dX9_taken_34 : decode cX9_taken 34 = .ok (.istore_n 1, 1) := by decide +kernel
theorem dX9_taken_35 : decode cX9_taken 35 = .ok (.iinc 2 1, 3) := by decide +kernel
theorem dX9_taken_38 : decode cX9_taken 38 = .ok (.goto (-34), 3) := by decide +kernel
theorem dX9_taken_41 : decode cX9_taken 41 = .ok (.iload_n 1, 1) := by decide +kernel
theorem dX9_taken_42 : decode cX9_taken 42 = .ok (.ireturn, 1) := by decide +kernel
theorem dX9_count_0 : decode cX9_count 0 = .ok (.aload_n 0, 1) := by decide +kernel
theorem dX9_count_1 : decode cX9_count 1 = .ok (.iconst 0, 1) := by decide +kernel
theorem dX9_count_2 : decode cX9_count 2 = .ok (.putfield 111, 3) := by decide +kernel
theorem dX9_count_5 : decode cX9_count 5 = .ok (.aload_n 0, 1) := by decide +kernel
theorem dX9_count_6 : decode cX9_count 6 = .ok (.iload_n 1, 1) := by decide +kernel
theorem dX9_count_7 : decode cX9_count 7 = .ok (.iconst 0, 1) := by decide +kernel
theorem dX9_count_8 : decode cX9_count 8 = .ok (.bipush 15, 2) := by decide +kernel
theorem dX9_count_10 : decode cX9_count 10 = .ok (.invokestatic 345, 3) := by decide +kernel
theorem dX9_count_13 : decode cX9_count 13 = .ok (.iconst 1, 1) := by decide +kernel
theorem dX9_count_14 : decode cX9_count 14 = .ok (.invokevirtual 268, 3) := by decide +kernel
theorem dX9_count_17 : decode cX9_count 17 = .ok (.ifCond .ne 5, 3) := by decide +kernel
theorem dX9_count_20 : decode cX9_count 20 = .ok (.iconst 0, 1) := by decide +kernel
theorem dX9_count_21 : decode cX9_count 21 = .ok (.ireturn, 1) := by decide +kernel
theorem dX9_count_22 : decode cX9_count 22 = .ok (.iload_n 1, 1) := by decide +kernel
theorem dX9_count_23 : decode cX9_count 23 = .ok (.tableswitch 137 0 12 #[65, 70, 75, 82, 88, 95, 100, 106, 112, 117, 122, 127, 132], 65) := by decide +kernel
theorem dX9_count_88 : decode cX9_count 88 = .ok (.aload_n 0, 1) := by decide +kernel
theorem dX9_count_89 : decode cX9_count 89 = .ok (.getfield 275, 3) := by decide +kernel
theorem dX9_count_92 : decode cX9_count 92 = .ok (.ireturn, 1) := by decide +kernel
theorem dX9_count_93 : decode cX9_count 93 = .ok (.aload_n 0, 1) := by decide +kernel
theorem dX9_count_94 : decode cX9_count 94 = .ok (.getfield 278, 3) := by decide +kernel
theorem dX9_count_97 : decode cX9_count 97 = .ok (.ireturn, 1) := by decide +kernel
theorem dX9_count_98 : decode cX9_count 98 = .ok (.aload_n 0, 1) := by decide +kernel
theorem dX9_count_99 : decode cX9_count 99 = .ok (.getfield 66, 3) := by decide +kernel
theorem dX9_count_102 : decode cX9_count 102 = .ok (.iconst 0, 1) := by decide +kernel
theorem dX9_count_103 : decode cX9_count 103 = .ok (.iaload, 1) := by decide +kernel
theorem dX9_count_104 : decode cX9_count 104 = .ok (.ireturn, 1) := by decide +kernel
theorem dX9_count_105 : decode cX9_count 105 = .ok (.aload_n 0, 1) := by decide +kernel
theorem dX9_count_106 : decode cX9_count 106 = .ok (.iconst 0, 1) := by decide +kernel
theorem dX9_count_107 : decode cX9_count 107 = .ok (.invokevirtual 309, 3) := by decide +kernel
theorem dX9_count_110 : decode cX9_count 110 = .ok (.ireturn, 1) := by decide +kernel
theorem dX9_count_111 : decode cX9_count 111 = .ok (.aload_n 0, 1) := by decide +kernel
theorem dX9_count_112 : decode cX9_count 112 = .ok (.getfield 66, 3) := by decide +kernel
theorem dX9_count_115 : decode cX9_count 115 = .ok (.iconst 1, 1) := by decide +kernel
theorem dX9_count_116 : decode cX9_count 116 = .ok (.iaload, 1) := by decide +kernel
theorem dX9_count_117 : decode cX9_count 117 = .ok (.ireturn, 1) := by decide +kernel
theorem dX9_count_118 : decode cX9_count 118 = .ok (.aload_n 0, 1) := by decide +kernel
theorem dX9_count_119 : decode cX9_count 119 = .ok (.invokevirtual 349, 3) := by decide +kernel
theorem dX9_count_122 : decode cX9_count 122 = .ok (.ireturn, 1) := by decide +kernel
theorem dX9_count_123 : decode cX9_count 123 = .ok (.aload_n 0, 1) := by decide +kernel
theorem dX9_count_124 : decode cX9_count 124 = .ok (.iconst 0, 1) := by decide +kernel
theorem dX9_count_125 : decode cX9_count 125 = .ok (.invokevirtual 352, 3) := by decide +kernel
theorem dX9_count_128 : decode cX9_count 128 = .ok (.ireturn, 1) := by decide +kernel
theorem dX9_count_129 : decode cX9_count 129 = .ok (.aload_n 0, 1) := by decide +kernel
theorem dX9_count_130 : decode cX9_count 130 = .ok (.iconst 0, 1) := by decide +kernel
theorem dX9_count_131 : decode cX9_count 131 = .ok (.invokevirtual 355, 3) := by decide +kernel
theorem dX9_count_134 : decode cX9_count 134 = .ok (.ireturn, 1) := by decide +kernel
theorem dX9_count_135 : decode cX9_count 135 = .ok (.aload_n 0, 1) := by decide +kernel
theorem dX9_count_136 : decode cX9_count 136 = .ok (.invokevirtual 358, 3) := by decide +kernel
theorem dX9_count_139 : decode cX9_count 139 = .ok (.ireturn, 1) := by decide +kernel
theorem dX9_count_140 : decode cX9_count 140 = .ok (.aload_n 0, 1) := by decide +kernel
theorem dX9_count_141 : decode cX9_count 141 = .ok (.invokevirtual 361, 3) := by decide +kernel
theorem dX9_count_144 : decode cX9_count 144 = .ok (.ireturn, 1) := by decide +kernel
theorem dX9_count_145 : decode cX9_count 145 = .ok (.aload_n 0, 1) := by decide +kernel
theorem dX9_count_146 : decode cX9_count 146 = .ok (.getfield 288, 3) := by decide +kernel
theorem dX9_count_149 : decode cX9_count 149 = .ok (.ireturn, 1) := by decide +kernel
theorem dX9_count_150 : decode cX9_count 150 = .ok (.aload_n 0, 1) := by decide +kernel
theorem dX9_count_151 : decode cX9_count 151 = .ok (.getfield 291, 3) := by decide +kernel
theorem dX9_count_154 : decode cX9_count 154 = .ok (.ireturn, 1) := by decide +kernel
theorem dX9_count_155 : decode cX9_count 155 = .ok (.aload_n 0, 1) := by decide +kernel
theorem dX9_count_156 : decode cX9_count 156 = .ok (.getfield 114, 3) := by decide +kernel
theorem dX9_count_159 : decode cX9_count 159 = .ok (.ireturn, 1) := by decide +kernel
theorem dX9_count_160 : decode cX9_count 160 = .ok (.aload_n 0, 1) := by decide +kernel
theorem dX9_count_161 : decode cX9_count 161 = .ok (.getfield 38, 3) := by decide +kernel
theorem dX9_count_164 : decode cX9_count 164 = .ok (.iload_n 1, 1) := by decide +kernel
theorem dX9_count_165 : decode cX9_count 165 = .ok (.bipush 13, 2) := by decide +kernel
theorem dX9_count_167 : decode cX9_count 167 = .ok (.isub, 1) := by decide +kernel
theorem dX9_count_168 : decode cX9_count 168 = .ok (.iaload, 1) := by decide +kernel
theorem dX9_count_169 : decode cX9_count 169 = .ok (.ireturn, 1) := by decide +kernel
theorem dX9_isHouse_0 : decode cX9_isHouse 0 = .ok (.aload_n 0, 1) := by decide +kernel
theorem dX9_isHouse_1 : decode cX9_isHouse 1 = .ok (.iload_n 1, 1) := by decide +kernel
theorem dX9_isHouse_2 : decode cX9_isHouse 2 = .ok (.ifCond .lt 15, 3) := by decide +kernel
theorem dX9_isHouse_5 : decode cX9_isHouse 5 = .ok (.iload_n 1, 1) := by decide +kernel
theorem dX9_isHouse_6 : decode cX9_isHouse 6 = .ok (.aload_n 0, 1) := by decide +kernel
theorem dX9_isHouse_7 : decode cX9_isHouse 7 = .ok (.getfield 275, 3) := by decide +kernel
theorem dX9_isHouse_10 : decode cX9_isHouse 10 = .ok (.if_icmp .ge 7, 3) := by decide +kernel
theorem dX9_isHouse_13 : decode cX9_isHouse 13 = .ok (.iconst 1, 1) := by decide +kernel
theorem dX9_isHouse_14 : decode cX9_isHouse 14 = .ok (.goto 4, 3) := by decide +kernel
theorem dX9_isHouse_17 : decode cX9_isHouse 17 = .ok (.iconst 0, 1) := by decide +kernel
theorem dX9_isHouse_18 : decode cX9_isHouse 18 = .ok (.iconst 1, 1) := by decide +kernel
theorem dX9_isHouse_19 : decode cX9_isHouse 19 = .ok (.invokevirtual 268, 3) := by decide +kernel
theorem dX9_isHouse_22 : decode cX9_isHouse 22 = .ok (.ireturn, 1) := by decide +kernel
theorem dX9_isPerson_0 : decode cX9_isPerson 0 = .ok (.aload_n 0, 1) := by decide +kernel
theorem dX9_isPerson_1 : decode cX9_isPerson 1 = .ok (.iload_n 1, 1) := by decide +kernel
theorem dX9_isPerson_2 : decode cX9_isPerson 2 = .ok (.ifCond .lt 15, 3) := by decide +kernel
theorem dX9_isPerson_5 : decode cX9_isPerson 5 = .ok (.iload_n 1, 1) := by decide +kernel
theorem dX9_isPerson_6 : decode cX9_isPerson 6 = .ok (.aload_n 0, 1) := by decide +kernel
theorem dX9_isPerson_7 : decode cX9_isPerson 7 = .ok (.getfield 278, 3) := by decide +kernel
theorem dX9_isPerson_10 : decode cX9_isPerson 10 = .ok (.if_icmp .ge 7, 3) := by decide +kernel
theorem dX9_isPerson_13 : decode cX9_isPerson 13 = .ok (.iconst 1, 1) := by decide +kernel
theorem dX9_isPerson_14 : decode cX9_isPerson 14 = .ok (.goto 4, 3) := by decide +kernel
theorem dX9_isPerson_17 : decode cX9_isPerson 17 = .ok (.iconst 0, 1) := by decide +kernel
theorem dX9_isPerson_18 : decode cX9_isPerson 18 = .ok (.iconst 1, 1) := by decide +kernel
theorem dX9_isPerson_19 : decode cX9_isPerson 19 = .ok (.invokevirtual 268, 3) := by decide +kernel
theorem dX9_isPerson_22 : decode cX9_isPerson 22 = .ok (.ireturn, 1) := by decide +kernel
theorem dX9_isWhat_0 : decode cX9_isWhat 0 = .ok (.aload_n 0, 1) := by decide +kernel
theorem dX9_isWhat_1 : decode cX9_isWhat 1 = .ok (.iload_n 1, 1) := by decide +kernel
theorem dX9_isWhat_2 : decode cX9_isWhat 2 = .ok (.iconst 0, 1) := by decide +kernel
theorem dX9_isWhat_3 : decode cX9_isWhat 3 = .ok (.iload_n 2, 1) := by decide +kernel
