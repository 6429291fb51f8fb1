theorem fl_RX8_10 : FL RX8 10 8 0 := ⟨RX8, TX8, 16, rfl, by decide, rfl, gws_in 281 (by decide +kernel) rfl⟩
theorem fp_RX8_10 : FP RX8 10 8 0 (.object "HornHouses$Reader") true := ⟨RX8, TX8, 16, rfl, by decide, rfl, gws_in 281 (by decide +kernel) rfl, by decide +kernel, rfl⟩
theorem fl_RX8_16 : FL RX8 16 8 1 := ⟨RX8, TX8, 16, rfl, by decide, rfl, gws_in 282 (by decide +kernel) rfl⟩
theorem fp_RX8_16 : FP RX8 16 8 1 .int false := ⟨RX8, TX8, 16, rfl, by decide, rfl, gws_in 282 (by decide +kernel) rfl, by decide +kernel, rfl⟩
theorem fl_RX8_23 : FL RX8 23 8 2 := ⟨RX8, TX8, 16, rfl, by decide, rfl, gws_in 283 (by decide +kernel) rfl⟩
theorem fp_RX8_23 : FP RX8 23 8 2 (.object "HornHouses$Plan") false := ⟨RX8, TX8, 16, rfl, by decide, rfl, gws_in 283 (by decide +kernel) rfl, by decide +kernel, rfl⟩
theorem fl_RX8_27 : FL RX8 27 8 3 := ⟨RX8, TX8, 16, rfl, by decide, rfl, gws_in 284 (by decide +kernel) rfl⟩
theorem fp_RX8_27 : FP RX8 27 8 3 (.object "HornHouses$Plan") false := ⟨RX8, TX8, 16, rfl, by decide, rfl, gws_in 284 (by decide +kernel) rfl, by decide +kernel, rfl⟩
theorem fl_RX8_33 : FL RX8 33 8 4 := ⟨RX8, TX8, 16, rfl, by decide, rfl, gws_in 285 (by decide +kernel) rfl⟩
theorem fp_RX8_33 : FP RX8 33 8 4 (.object "HornHouses$State") true := ⟨RX8, TX8, 16, rfl, by decide, rfl, gws_in 285 (by decide +kernel) rfl, by decide +kernel, rfl⟩
theorem fl_RX8_37 : FL RX8 37 8 5 := ⟨RX8, TX8, 16, rfl, by decide, rfl, gws_in 286 (by decide +kernel) rfl⟩
theorem fp_RX8_37 : FP RX8 37 8 5 (.object "HornHouses$State") true := ⟨RX8, TX8, 16, rfl, by decide, rfl, gws_in 286 (by decide +kernel) rfl, by decide +kernel, rfl⟩
theorem fl_RX8_43 : FL RX8 43 8 6 := ⟨RX8, TX8, 16, rfl, by decide, rfl, gws_in 287 (by decide +kernel) rfl⟩
theorem fp_RX8_43 : FP RX8 43 8 6 (.object "HornHouses$Acts") true := ⟨RX8, TX8, 16, rfl, by decide, rfl, gws_in 287 (by decide +kernel) rfl, by decide +kernel, rfl⟩
theorem fl_RX8_50 : FL RX8 50 8 7 := ⟨RX8, TX8, 16, rfl, by decide, rfl, gws_in 288 (by decide +kernel) rfl⟩
theorem fp_RX8_50 : FP RX8 50 8 7 (.object "HornHouses$Seen") true := ⟨RX8, TX8, 16, rfl, by decide, rfl, gws_in 288 (by decide +kernel) rfl, by decide +kernel, rfl⟩
theorem fl_RX8_54 : FL RX8 54 8 8 := ⟨RX8, TX8, 16, rfl, by decide, rfl, gws_in 289 (by decide +kernel) rfl⟩
theorem fp_RX8_54 : FP RX8 54 8 8 .boolean false := ⟨RX8, TX8, 16, rfl, by decide, rfl, gws_in 289 (by decide +kernel) rfl, by decide +kernel, rfl⟩
theorem fl_RX8_58 : FL RX8 58 8 9 := ⟨RX8, TX8, 16, rfl, by decide, rfl, gws_in 290 (by decide +kernel) rfl⟩
theorem fp_RX8_58 : FP RX8 58 8 9 (.object "HornHouses$State") true := ⟨RX8, TX8, 16, rfl, by decide, rfl, gws_in 290 (by decide +kernel) rfl, by decide +kernel, rfl⟩
theorem fl_RX8_61 : FL RX8 61 8 10 := ⟨RX8, TX8, 16, rfl, by decide, rfl, gws_in 291 (by decide +kernel) rfl⟩
theorem fp_RX8_61 : FP RX8 61 8 10 (.object "HornHouses$Acts") true := ⟨RX8, TX8, 16, rfl, by decide, rfl, gws_in 291 (by decide +kernel) rfl, by decide +kernel, rfl⟩
theorem fl_RX8_64 : FL RX8 64 8 11 := ⟨RX8, TX8, 16, rfl, by decide, rfl, gws_in 292 (by decide +kernel) rfl⟩
theorem fp_RX8_64 : FP RX8 64 8 11 (.object "HornHouses$Seen") true := ⟨RX8, TX8, 16, rfl, by decide, rfl, gws_in 292 (by decide +kernel) rfl, by decide +kernel, rfl⟩
theorem fl_RX8_67 : FL RX8 67 8 12 := ⟨RX8, TX8, 16, rfl, by decide, rfl, gws_in 293 (by decide +kernel) rfl⟩
theorem fp_RX8_67 : FP RX8 67 8 12 (.array .int) true := ⟨RX8, TX8, 16, rfl, by decide, rfl, gws_in 293 (by decide +kernel) rfl, by decide +kernel, rfl⟩
theorem fl_RX8_74 : FL RX8 74 8 13 := ⟨RX8, TX8, 16, rfl, by decide, rfl, gws_in 294 (by decide +kernel) rfl⟩
theorem fp_RX8_74 : FP RX8 74 8 13 (.object "HornHouses$Matcher") true := ⟨RX8, TX8, 16, rfl, by decide, rfl, gws_in 294 (by decide +kernel) rfl, by decide +kernel, rfl⟩
theorem fl_RX8_81 : FL RX8 81 8 14 := ⟨RX8, TX8, 16, rfl, by decide, rfl, gws_in 295 (by decide +kernel) rfl⟩
theorem fp_RX8_81 : FP RX8 81 8 14 (.object "HornHouses$Trader") true := ⟨RX8, TX8, 16, rfl, by decide, rfl, gws_in 295 (by decide +kernel) rfl, by decide +kernel, rfl⟩
theorem fl_RX8_85 : FL RX8 85 8 15 := ⟨RX8, TX8, 16, rfl, by decide, rfl, gws_in 296 (by decide +kernel) rfl⟩
theorem fp_RX8_85 : FP RX8 85 8 15 (.array .long) true := ⟨RX8, TX8, 16, rfl, by decide, rfl, gws_in 296 (by decide +kernel) rfl, by decide +kernel, rfl⟩
theorem fl_RX8_119 : FL RX8 119 2 0 := ⟨RX2, TX2, 14, rfl, by decide, rfl, gws_in 87 (by decide +kernel) rfl⟩
theorem fl_RX8_122 : FL RX8 122 2 1 := ⟨RX2, TX2, 14, rfl, by decide, rfl, gws_in 92 (by decide +kernel) rfl⟩
theorem fl_RX8_125 : FL RX8 125 6 0 := ⟨RX6, TX6, 9, rfl, by decide, rfl, gws_in 159 (by decide +kernel) rfl⟩
theorem fl_RX8_132 : FL RX8 132 6 2 := ⟨RX6, TX6, 9, rfl, by decide, rfl, gws_in 165 (by decide +kernel) rfl⟩
theorem fl_RX8_159 : FL RX8 159 6 5 := ⟨RX6, TX6, 9, rfl, by decide, rfl, gws_in 176 (by decide +kernel) rfl⟩
theorem fl_RX8_162 : FL RX8 162 6 7 := ⟨RX6, TX6, 9, rfl, by decide, rfl, gws_in 184 (by decide +kernel) rfl⟩
theorem fl_RX8_165 : FL RX8 165 6 8 := ⟨RX6, TX6, 9, rfl, by decide, rfl, gws_in 187 (by decide +kernel) rfl⟩
theorem fl_RX8_189 : FL RX8 189 6 3 := ⟨RX6, TX6, 9, rfl, by decide, rfl, gws_in 169 (by decide +kernel) rfl⟩
theorem fl_RX8_192 : FL RX8 192 2 4 := ⟨RX2, TX2, 14, rfl, by decide, rfl, gws_in 99 (by decide +kernel) rfl⟩
theorem fl_RX8_195 : FL RX8 195 2 5 := ⟨RX2, TX2, 14, rfl, by decide, rfl, gws_in 102 (by decide +kernel) rfl⟩
theorem fl_RX8_197 : FL RX8 197 6 4 := ⟨RX6, TX6, 9, rfl, by decide, rfl, gws_in 172 (by decide +kernel) rfl⟩
theorem fl_RX8_212 : FL RX8 212 6 6 := ⟨RX6, TX6, 9, rfl, by decide, rfl, gws_in 180 (by decide +kernel) rfl⟩
theorem fl_RX8_226 : FL RX8 226 2 7 := ⟨RX2, TX2, 14, rfl, by decide, rfl, gws_in 108 (by decide +kernel) rfl⟩
theorem fl_RX8_266 : FL RX8 266 6 1 := ⟨RX6, TX6, 9, rfl, by decide, rfl, gws_in 162 (by decide +kernel) rfl⟩
theorem fp_RX8_266 : FP RX8 266 6 1 .boolean false := ⟨RX6, TX6, 9, rfl, by decide, rfl, gws_in 162 (by decide +kernel) rfl, by decide +kernel, rfl⟩
theorem fl_RX8_303 : FL RX8 303 7 0 := ⟨RX7, TX7, 3, rfl, by decide, rfl, gws_in 270 (by decide +kernel) rfl⟩
theorem fl_RX8_401 : FL RX8 401 7 1 := ⟨RX7, TX7, 3, rfl, by decide, rfl, gws_in 272 (by decide +kernel) rfl⟩
theorem fl_RX0_11 : FL RX0 11 0 0 := ⟨RX0, TX0, 3, rfl, by decide, rfl, gws_in 215 (by decide +kernel) rfl⟩
theorem fp_RX0_11 : FP RX0 11 0 0 (.array (.object "HornHouses$State")) true := ⟨RX0, TX0, 3, rfl, by decide, rfl, gws_in 215 (by decide +kernel) rfl, by decide +kernel, rfl⟩
theorem fl_RX0_17 : FL RX0 17 0 1 := ⟨RX0, TX0, 3, rfl, by decide, rfl, gws_in 216 (by decide +kernel) rfl⟩
theorem fp_RX0_17 : FP RX0 17 0 1 .int false := ⟨RX0, TX0, 3, rfl, by decide, rfl, gws_in 216 (by decide +kernel) rfl, by decide +kernel, rfl⟩
theorem fl_RX0_21 : FL RX0 21 0 2 := ⟨RX0, TX0, 3, rfl, by decide, rfl, gws_in 217 (by decide +kernel) rfl⟩
theorem fp_RX0_21 : FP RX0 21 0 2 .int false := ⟨RX0, TX0, 3, rfl, by decide, rfl, gws_in 217 (by decide +kernel) rfl, by decide +kernel, rfl⟩
theorem fl_RX1_11 : FL RX1 11 1 0 := ⟨RX1, TX1, 4, rfl, by decide, rfl, gws_in 250 (by decide +kernel) rfl⟩
theorem fp_RX1_11 : FP RX1 11 1 0 (.array .int) true := ⟨RX1, TX1, 4, rfl, by decide, rfl, gws_in 250 (by decide +kernel) rfl, by decide +kernel, rfl⟩
theorem fl_RX1_15 : FL RX1 15 1 1 := ⟨RX1, TX1, 4, rfl, by decide, rfl, gws_in 251 (by decide +kernel) rfl⟩
theorem fp_RX1_15 : FP RX1 15 1 1 (.array .int) true := ⟨RX1, TX1, 4, rfl, by decide, rfl, gws_in 251 (by decide +kernel) rfl, by decide +kernel, rfl⟩
theorem fl_RX1_18 : FL RX1 18 1 2 := ⟨RX1, TX1, 4, rfl, by decide, rfl, gws_in 252 (by decide +kernel) rfl⟩
theorem fp_RX1_18 : FP RX1 18 1 2 (.array .int) true := ⟨RX1, TX1, 4, rfl, by decide, rfl, gws_in 252 (by decide +kernel) rfl, by decide +kernel, rfl⟩
theorem fl_RX1_21 : FL RX1 21 1 3 := ⟨RX1, TX1, 4, rfl, by decide, rfl, gws_in 253 (by decide +kernel) rfl⟩
theorem fp_RX1_21 : FP RX1 21 1 3 .int false := ⟨RX1, TX1, 4, rfl, by decide, rfl, gws_in 253 (by decide +kernel) rfl, by decide +kernel, rfl⟩
theorem fl_RX1_25 : FL RX1 25 2 0 := ⟨RX2, TX2, 14, rfl, by decide, rfl, gws_in 85 (by decide +kernel) rfl⟩
theorem fl_RX1_38 : FL RX1 38 2 1 := ⟨RX2, TX2, 14, rfl, by decide, rfl, gws_in 91 (by decide +kernel) rfl⟩
theorem fl_RX2_9 : FL RX2 9 2 0 := ⟨RX2, TX2, 14, rfl, by decide, rfl, gws_in 84 (by decide +kernel) rfl⟩
theorem fp_RX2_9 : FP RX2 9 2 0 .int false := ⟨RX2, TX2, 14, rfl, by decide, rfl, gws_in 84 (by decide +kernel) rfl, by decide +kernel, rfl⟩
theorem fl_RX2_15 : FL RX2 15 2 1 := ⟨RX2, TX2, 14, rfl, by decide, rfl, gws_in 89 (by decide +kernel) rfl⟩
theorem fp_RX2_15 : FP RX2 15 2 1 .int false := ⟨RX2, TX2, 14, rfl, by decide, rfl, gws_in 89 (by decide +kernel) rfl, by decide +kernel, rfl⟩
theorem fl_RX2_18 : FL RX2 18 2 2 := ⟨RX2, TX2, 14, rfl, by decide, rfl, gws_in 94 (by decide +kernel) rfl⟩
theorem fp_RX2_18 : FP RX2 18 2 2 .int false := ⟨RX2, TX2, 14, rfl, by decide, rfl, gws_in 94 (by decide +kernel) rfl, by decide +kernel, rfl⟩
theorem fl_RX2_21 : FL RX2 21 2 3 := ⟨RX2, TX2, 14, rfl, by decide, rfl, gws_in 96 (by decide +kernel) rfl⟩
theorem fp_RX2_21 : FP RX2 21 2 3 (.array .int) true := ⟨RX2, TX2, 14, rfl, by decide, rfl, gws_in 96 (by decide +kernel) rfl, by decide +kernel, rfl⟩
theorem fl_RX2_25 : FL RX2 25 2 4 := ⟨RX2, TX2, 14, rfl, by decide, rfl, gws_in 98 (by decide +kernel) rfl⟩
theorem fp_RX2_25 : FP RX2 25 2 4 (.array .int) true := ⟨RX2, TX2, 14, rfl, by decide, rfl, gws_in 98 (by decide +kernel) rfl, by decide +kernel, rfl⟩
theorem fp_RX2_28 : FP RX2 28 2 5 (.array .int) true := ⟨RX2, TX2, 14, rfl, by decide, rfl, gws_in 101 (by decide +kernel) rfl, by decide +kernel, rfl⟩
theorem fl_RX2_31 : FL RX2 31 2 6 := ⟨RX2, TX2, 14, rfl, by decide, rfl, gws_in 104 (by decide +kernel) rfl⟩
theorem fp_RX2_31 : FP RX2 31 2 6 (.array .int) true := ⟨RX2, TX2, 14, rfl, by decide, rfl, gws_in 104 (by decide +kernel) rfl, by decide +kernel, rfl⟩
theorem fl_RX2_34 : FL RX2 34 2 7 := ⟨RX2, TX2, 14, rfl, by decide, rfl, gws_in 106 (by decide +kernel) rfl⟩
theorem fp_RX2_34 : FP RX2 34 2 7 (.array .int) true := ⟨RX2, TX2, 14, rfl, by decide, rfl, gws_in 106 (by decide +kernel) rfl, by decide +kernel, rfl⟩
theorem fl_RX2_37 : FL RX2 37 2 8 := ⟨RX2, TX2, 14, rfl, by decide, rfl, gws_in 109 (by decide +kernel) rfl⟩
theorem fp_RX2_37 : FP RX2 37 2 8 (.array .int) true := ⟨RX2, TX2, 14, rfl, by decide, rfl, gws_in 109 (by decide +kernel) rfl, by decide +kernel, rfl⟩
theorem fl_RX2_40 : FL RX2 40 2 9 := ⟨RX2, TX2, 14, rfl, by decide, rfl, gws_in 111 (by decide +kernel) rfl⟩
theorem fp_RX2_40 : FP RX2 40 2 9 (.array .int) true := ⟨RX2, TX2, 14, rfl, by decide, rfl, gws_in 111 (by decide +kernel) rfl, by decide +kernel, rfl⟩
theorem fl_RX2_43 : FL RX2 43 2 10 := ⟨RX2, TX2, 14, rfl, by decide, rfl, gws_in 113 (by decide +kernel) rfl⟩
theorem fp_RX2_43 : FP RX2 43 2 10 (.object "HornHouses$Rule") false := ⟨RX2, TX2, 14, rfl, by decide, rfl, gws_in 113 (by decide +kernel) rfl, by decide +kernel, rfl⟩
theorem fl_RX2_47 : FL RX2 47 2 11 := ⟨RX2, TX2, 14, rfl, by decide, rfl, gws_in 115 (by decide +kernel) rfl⟩
theorem fp_RX2_47 : FP RX2 47 2 11 (.object "HornHouses$Rule") false := ⟨RX2, TX2, 14, rfl, by decide, rfl, gws_in 115 (by decide +kernel) rfl, by decide +kernel, rfl⟩
theorem fl_RX2_52 : FL RX2 52 2 12 := ⟨RX2, TX2, 14, rfl, by decide, rfl, gws_in 117 (by decide +kernel) rfl⟩
theorem fp_RX2_52 : FP RX2 52 2 12 (.array .int) true := ⟨RX2, TX2, 14, rfl, by decide, rfl, gws_in 117 (by decide +kernel) rfl, by decide +kernel, rfl⟩
theorem fl_RX2_55 : FL RX2 55 2 13 := ⟨RX2, TX2, 14, rfl, by decide, rfl, gws_in 118 (by decide +kernel) rfl⟩
theorem fp_RX2_55 : FP RX2 55 2 13 (.array .int) true := ⟨RX2, TX2, 14, rfl, by decide, rfl, gws_in 118 (by decide +kernel) rfl, by decide +kernel, rfl⟩
theorem fl_RX2_58 : FL RX2 58 6 0 := ⟨RX6, TX6, 9, rfl, by decide, rfl, gws_in 158 (by decide +kernel) rfl⟩
theorem fp_RX2_58 : FP RX2 58 6 0 .int false := ⟨RX6, TX6, 9, rfl, by decide, rfl, gws_in 158 (by decide +kernel) rfl, by decide +kernel, rfl⟩
theorem fl_RX2_63 : FL RX2 63 6 1 := ⟨RX6, TX6, 9, rfl, by decide, rfl, gws_in 161 (by decide +kernel) rfl⟩
theorem fp_RX2_63 : FP RX2 63 6 1 .boolean false := ⟨RX6, TX6, 9, rfl, by decide, rfl, gws_in 161 (by decide +kernel) rfl, by decide +kernel, rfl⟩
theorem fl_RX2_67 : FL RX2 67 6 2 := ⟨RX6, TX6, 9, rfl, by decide, rfl, gws_in 164 (by decide +kernel) rfl⟩
theorem fp_RX2_67 : FP RX2 67 6 2 .int false := ⟨RX6, TX6, 9, rfl, by decide, rfl, gws_in 164 (by decide +kernel) rfl, by decide +kernel, rfl⟩
theorem fl_RX2_70 : FL RX2 70 6 4 := ⟨RX6, TX6, 9, rfl, by decide, rfl, gws_in 171 (by decide +kernel) rfl⟩
theorem fl_RX2_79 : FL RX2 79 6 8 := ⟨RX6, TX6, 9, rfl, by decide, rfl, gws_in 186 (by decide +kernel) rfl⟩
theorem fl_RX2_82 : FL RX2 82 6 5 := ⟨RX6, TX6, 9, rfl, by decide, rfl, gws_in 174 (by decide +kernel) rfl⟩
theorem fl_RX2_85 : FL RX2 85 6 7 := ⟨RX6, TX6, 9, rfl, by decide, rfl, gws_in 183 (by decide +kernel) rfl⟩
theorem fl_RX2_88 : FL RX2 88 6 3 := ⟨RX6, TX6, 9, rfl, by decide, rfl, gws_in 167 (by decide +kernel) rfl⟩
theorem fl_RX2_95 : FL RX2 95 6 6 := ⟨RX6, TX6, 9, rfl, by decide, rfl, gws_in 178 (by decide +kernel) rfl⟩
theorem fl_RX3_9 : FL RX3 9 3 0 := ⟨RX3, TX3, 12, rfl, by decide, rfl, gws_in 39 (by decide +kernel) rfl⟩
theorem fp_RX3_9 : FP RX3 9 3 0 (.array .byte) true := ⟨RX3, TX3, 12, rfl, by decide, rfl, gws_in 39 (by decide +kernel) rfl, by decide +kernel, rfl⟩
theorem fl_RX3_15 : FL RX3 15 3 1 := ⟨RX3, TX3, 12, rfl, by decide, rfl, gws_in 40 (by decide +kernel) rfl⟩
theorem fp_RX3_15 : FP RX3 15 3 1 .int false := ⟨RX3, TX3, 12, rfl, by decide, rfl, gws_in 40 (by decide +kernel) rfl, by decide +kernel, rfl⟩
theorem fl_RX3_19 : FL RX3 19 3 2 := ⟨RX3, TX3, 12, rfl, by decide, rfl, gws_in 41 (by decide +kernel) rfl⟩
theorem fp_RX3_19 : FP RX3 19 3 2 .int false := ⟨RX3, TX3, 12, rfl, by decide, rfl, gws_in 41 (by decide +kernel) rfl, by decide +kernel, rfl⟩
theorem fl_RX3_22 : FL RX3 22 3 3 := ⟨RX3, TX3, 12, rfl, by decide, rfl, gws_in 42 (by decide +kernel) rfl⟩
theorem fp_RX3_22 : FP RX3 22 3 3 .int false := ⟨RX3, TX3, 12, rfl, by decide, rfl, gws_in 42 (by decide +kernel) rfl, by decide +kernel, rfl⟩
theorem fl_RX3_25 : FL RX3 25 3 4 := ⟨RX3, TX3, 12, rfl, by decide, rfl, gws_in 43 (by decide +kernel) rfl⟩
theorem fp_RX3_25 : FP RX3 25 3 4 .int false := ⟨RX3, TX3, 12, rfl, by decide, rfl, gws_in 43 (by decide +kernel) rfl, by decide +kernel, rfl⟩
theorem fl_RX3_28 : FL RX3 28 3 5 := ⟨RX3, TX3, 12, rfl, by decide, rfl, gws_in 44 (by decide +kernel) rfl⟩
theorem fp_RX3_28 : FP RX3 28 3 5 .int false := ⟨RX3, TX3, 12, rfl, by decide, rfl, gws_in 44 (by decide +kernel) rfl, by decide +kernel, rfl⟩
theorem fl_RX3_31 : FL RX3 31 3 6 := ⟨RX3, TX3, 12, rfl, by decide, rfl, gws_in 45 (by decide +kernel) rfl⟩
theorem fp_RX3_31 : FP RX3 31 3 6 .int false := ⟨RX3, TX3, 12, rfl, by decide, rfl, gws_in 45 (by decide +kernel) rfl, by decide +kernel, rfl⟩
theorem fl_RX3_34 : FL RX3 34 3 7 := ⟨RX3, TX3, 12, rfl, by decide, rfl, gws_in 46 (by decide +kernel) rfl⟩
theorem fp_RX3_34 : FP RX3 34 3 7 .int false := ⟨RX3, TX3, 12, rfl, by decide, rfl, gws_in 46 (by decide +kernel) rfl, by decide +kernel, rfl⟩
theorem fl_RX3_37 : FL RX3 37 3 8 := ⟨RX3, TX3, 12, rfl, by decide, rfl, gws_in 47 (by decide +kernel) rfl⟩
theorem fp_RX3_37 : FP RX3 37 3 8 .int false := ⟨RX3, TX3, 12, rfl, by decide, rfl, gws_in 47 (by decide +kernel) rfl, by decide +kernel, rfl⟩
theorem fl_RX3_40 : FL RX3 40 3 9 := ⟨RX3, TX3, 12, rfl, by decide, rfl, gws_in 48 (by decide +kernel) rfl⟩
theorem fp_RX3_40 : FP RX3 40 3 9 (.array .int) true := ⟨RX3, TX3, 12, rfl, by decide, rfl, gws_in 48 (by decide +kernel) rfl, by decide +kernel, rfl⟩
theorem fl_RX3_44 : FL RX3 44 3 10 := ⟨RX3, TX3, 12, rfl, by decide, rfl, gws_in 49 (by decide +kernel) rfl⟩
theorem fp_RX3_44 : FP RX3 44 3 10 .int false := ⟨RX3, TX3, 12, rfl, by decide, rfl, gws_in 49 (by decide +kernel) rfl, by decide +kernel, rfl⟩
theorem fl_RX3_47 : FL RX3 47 3 11 := ⟨RX3, TX3, 12, rfl, by decide, rfl, gws_in 50 (by decide +kernel) rfl⟩
theorem fp_RX3_47 : FP RX3 47 3 11 .boolean false := ⟨RX3, TX3, 12, rfl, by decide, rfl, gws_in 50 (by decide +kernel) rfl, by decide +kernel, rfl⟩
theorem fl_RX3_121 : FL RX3 121 2 0 := ⟨RX2, TX2, 14, rfl, by decide, rfl, gws_in 88 (by decide +kernel) rfl⟩
theorem fp_RX3_121 : FP RX3 121 2 0 .int false := ⟨RX2, TX2, 14, rfl, by decide, rfl, gws_in 88 (by decide +kernel) rfl, by decide +kernel, rfl⟩
theorem fl_RX3_124 : FL RX3 124 2 3 := ⟨RX2, TX2, 14, rfl, by decide, rfl, gws_in 97 (by decide +kernel) rfl⟩
theorem fl_RX3_130 : FL RX3 130 2 4 := ⟨RX2, TX2, 14, rfl, by decide, rfl, gws_in 100 (by decide +kernel) rfl⟩
theorem fl_RX3_133 : FL RX3 133 2 5 := ⟨RX2, TX2, 14, rfl, by decide, rfl, gws_in 103 (by decide +kernel) rfl⟩
theorem fl_RX3_136 : FL RX3 136 2 1 := ⟨RX2, TX2, 14, rfl, by decide, rfl, gws_in 93 (by decide +kernel) rfl⟩
theorem fp_RX3_136 : FP RX3 136 2 1 .int false := ⟨RX2, TX2, 14, rfl, by decide, rfl, gws_in 93 (by decide +kernel) rfl, by decide +kernel, rfl⟩
theorem fl_RX3_139 : FL RX3 139 2 6 := ⟨RX2, TX2, 14, rfl, by decide, rfl, gws_in 105 (by decide +kernel) rfl⟩
theorem fl_RX3_142 : FL RX3 142 2 7 := ⟨RX2, TX2, 14, rfl, by decide, rfl, gws_in 107 (by decide +kernel) rfl⟩
theorem fl_RX3_145 : FL RX3 145 2 8 := ⟨RX2, TX2, 14, rfl, by decide, rfl, gws_in 110 (by decide +kernel) rfl⟩
theorem fl_RX3_158 : FL RX3 158 2 2 := ⟨RX2, TX2, 14, rfl, by decide, rfl, gws_in 95 (by decide +kernel) rfl⟩
theorem fp_RX3_158 : FP RX3 158 2 2 .int false := ⟨RX2, TX2, 14, rfl, by decide, rfl, gws_in 95 (by decide +kernel) rfl, by decide +kernel, rfl⟩
theorem fl_RX3_161 : FL RX3 161 2 9 := ⟨RX2, TX2, 14, rfl, by decide, rfl, gws_in 112 (by decide +kernel) rfl⟩
theorem fl_RX3_163 : FL RX3 163 2 11 := ⟨RX2, TX2, 14, rfl, by decide, rfl, gws_in 116 (by decide +kernel) rfl⟩
theorem fp_RX3_163 : FP RX3 163 2 11 (.object "HornHouses$Rule") false := ⟨RX2, TX2, 14, rfl, by decide, rfl, gws_in 116 (by decide +kernel) rfl, by decide +kernel, rfl⟩
theorem fl_RX3_167 : FL RX3 167 2 10 := ⟨RX2, TX2, 14, rfl, by decide, rfl, gws_in 114 (by decide +kernel) rfl⟩
theorem fp_RX3_167 : FP RX3 167 2 10 (.object "HornHouses$Rule") false := ⟨RX2, TX2, 14, rfl, by decide, rfl, gws_in 114 (by decide +kernel) rfl, by decide +kernel, rfl⟩
theorem fl_RX4_7 : FL RX4 7 4 0 := ⟨RX4, TX4, 1, rfl, by decide, rfl, gws_in 705 (by decide +kernel) rfl⟩
theorem fp_RX4_7 : FP RX4 7 4 0 (.array .int) true := ⟨RX4, TX4, 1, rfl, by decide, rfl, gws_in 705 (by decide +kernel) rfl, by decide +kernel, rfl⟩
theorem fl_RX5_9 : FL RX5 9 5 0 := ⟨RX5, TX5, 4, rfl, by decide, rfl, gws_in 231 (by decide +kernel) rfl⟩
theorem fp_RX5_9 : FP RX5 9 5 0 (.array .int) true := ⟨RX5, TX5, 4, rfl, by decide, rfl, gws_in 231 (by decide +kernel) rfl, by decide +kernel, rfl⟩
theorem fl_RX5_15 : FL RX5 15 5 1 := ⟨RX5, TX5, 4, rfl, by decide, rfl, gws_in 232 (by decide +kernel) rfl⟩
theorem fp_RX5_15 : FP RX5 15 5 1 (.array .int) true := ⟨RX5, TX5, 4, rfl, by decide, rfl, gws_in 232 (by decide +kernel) rfl, by decide +kernel, rfl⟩
theorem fl_RX5_18 : FL RX5 18 5 2 := ⟨RX5, TX5, 4, rfl, by decide, rfl, gws_in 233 (by decide +kernel) rfl⟩
theorem fp_RX5_18 : FP RX5 18 5 2 (.array .int) true := ⟨RX5, TX5, 4, rfl, by decide, rfl, gws_in 233 (by decide +kernel) rfl, by decide +kernel, rfl⟩
theorem fl_RX5_21 : FL RX5 21 5 3 := ⟨RX5, TX5, 4, rfl, by decide, rfl, gws_in 234 (by decide +kernel) rfl⟩
theorem fp_RX5_21 : FP RX5 21 5 3 .int false := ⟨RX5, TX5, 4, rfl, by decide, rfl, gws_in 234 (by decide +kernel) rfl, by decide +kernel, rfl⟩
theorem fl_RX6_9 : FL RX6 9 6 0 := ⟨RX6, TX6, 9, rfl, by decide, rfl, gws_in 157 (by decide +kernel) rfl⟩
theorem fp_RX6_9 : FP RX6 9 6 0 .int false := ⟨RX6, TX6, 9, rfl, by decide, rfl, gws_in 157 (by decide +kernel) rfl, by decide +kernel, rfl⟩
theorem fl_RX6_15 : FL RX6 15 6 1 := ⟨RX6, TX6, 9, rfl, by decide, rfl, gws_in 160 (by decide +kernel) rfl⟩
theorem fp_RX6_15 : FP RX6 15 6 1 .boolean false := ⟨RX6, TX6, 9, rfl, by decide, rfl, gws_in 160 (by decide +kernel) rfl, by decide +kernel, rfl⟩
theorem fl_RX6_19 : FL RX6 19 6 2 := ⟨RX6, TX6, 9, rfl, by decide, rfl, gws_in 163 (by decide +kernel) rfl⟩
theorem fp_RX6_19 : FP RX6 19 6 2 .int false := ⟨RX6, TX6, 9, rfl, by decide, rfl, gws_in 163 (by decide +kernel) rfl, by decide +kernel, rfl⟩
theorem fl_RX6_22 : FL RX6 22 6 3 := ⟨RX6, TX6, 9, rfl, by decide, rfl, gws_in 166 (by decide +kernel) rfl⟩
theorem fp_RX6_22 : FP RX6 22 6 3 (.array .int) true := ⟨RX6, TX6, 9, rfl, by decide, rfl, gws_in 166 (by decide +kernel) rfl, by decide +kernel, rfl⟩
theorem fl_RX6_26 : FL RX6 26 6 4 := ⟨RX6, TX6, 9, rfl, by decide, rfl, gws_in 170 (by decide +kernel) rfl⟩
theorem fp_RX6_26 : FP RX6 26 6 4 (.array .int) true := ⟨RX6, TX6, 9, rfl, by decide, rfl, gws_in 170 (by decide +kernel) rfl, by decide +kernel, rfl⟩
theorem fl_RX6_29 : FL RX6 29 6 5 := ⟨RX6, TX6, 9, rfl, by decide, rfl, gws_in 173 (by decide +kernel) rfl⟩
theorem fp_RX6_29 : FP RX6 29 6 5 (.array .int) true := ⟨RX6, TX6, 9, rfl, by decide, rfl, gws_in 173 (by decide +kernel) rfl, by decide +kernel, rfl⟩
theorem fl_RX6_32 : FL RX6 32 6 6 := ⟨RX6, TX6, 9, rfl, by decide, rfl, gws_in 177 (by decide +kernel) rfl⟩
theorem fp_RX6_32 : FP RX6 32 6 6 (.array .int) true := ⟨RX6, TX6, 9, rfl, by decide, rfl, gws_in 177 (by decide +kernel) rfl, by decide +kernel, rfl⟩
theorem fl_RX6_35 : FL RX6 35 6 7 := ⟨RX6, TX6, 9, rfl, by decide, rfl, gws_in 181 (by decide +kernel) rfl⟩
theorem fp_RX6_35 : FP RX6 35 6 7 (.array .int) true := ⟨RX6, TX6, 9, rfl, by decide, rfl, gws_in 181 (by decide +kernel) rfl, by decide +kernel, rfl⟩
theorem fl_RX6_38 : FL RX6 38 6 8 := ⟨RX6, TX6, 9, rfl, by decide, rfl, gws_in 185 (by decide +kernel) rfl⟩
theorem fp_RX6_38 : FP RX6 38 6 8 (.array .int) true := ⟨RX6, TX6, 9, rfl, by decide, rfl, gws_in 185 (by decide +kernel) rfl, by decide +kernel, rfl⟩
theorem fl_RX7_9 : FL RX7 9 7 0 := ⟨RX7, TX7, 3, rfl, by decide, rfl, gws_in 269 (by decide +kernel) rfl⟩
theorem fp_RX7_9 : FP RX7 9 7 0 (.array .int) true := ⟨RX7, TX7, 3, rfl, by decide, rfl, gws_in 269 (by decide +kernel) rfl, by decide +kernel, rfl⟩
theorem fl_RX7_15 : FL RX7 15 7 1 := ⟨RX7, TX7, 3, rfl, by decide, rfl, gws_in 271 (by decide +kernel) rfl⟩
theorem fp_RX7_15 : FP RX7 15 7 1 (.array .int) true := ⟨RX7, TX7, 3, rfl, by decide, rfl, gws_in 271 (by decide +kernel) rfl, by decide +kernel, rfl⟩
theorem fl_RX7_18 : FL RX7 18 7 2 := ⟨RX7, TX7, 3, rfl, by decide, rfl, gws_in 273 (by decide +kernel) rfl⟩
theorem fp_RX7_18 : FP RX7 18 7 2 (.array .int) true := ⟨RX7, TX7, 3, rfl, by decide, rfl, gws_in 273 (by decide +kernel) rfl, by decide +kernel, rfl⟩
theorem fl_RX7_27 : FL RX7 27 2 1 := ⟨RX2, TX2, 14, rfl, by decide, rfl, gws_in 90 (by decide +kernel) rfl⟩
theorem fl_RX7_33 : FL RX7 33 6 7 := ⟨RX6, TX6, 9, rfl, by decide, rfl, gws_in 182 (by decide +kernel) rfl⟩
theorem fl_RX7_50 : FL RX7 50 2 0 := ⟨RX2, TX2, 14, rfl, by decide, rfl, gws_in 86 (by decide +kernel) rfl⟩
theorem fl_RX7_53 : FL RX7 53 6 5 := ⟨RX6, TX6, 9, rfl, by decide, rfl, gws_in 175 (by decide +kernel) rfl⟩
theorem fl_RX7_56 : FL RX7 56 6 3 := ⟨RX6, TX6, 9, rfl, by decide, rfl, gws_in 168 (by decide +kernel) rfl⟩
theorem fl_RX7_59 : FL RX7 59 6 6 := ⟨RX6, TX6, 9, rfl, by decide, rfl, gws_in 179 (by decide +kernel) rfl⟩
theorem fl_RX9_9 : FL RX9 9 9 4 := ⟨RX9, TX9, 62, rfl, by decide, rfl, gws_in 1292 (by decide +kernel) rfl⟩
theorem fp_RX9_9 : FP RX9 9 9 4 .int false := ⟨RX9, TX9, 62, rfl, by decide, rfl, gws_in 1292 (by decide +kernel) rfl, by decide +kernel, rfl⟩
theorem fl_RX9_13 : FL RX9 13 9 5 := ⟨RX9, TX9, 62, rfl, by decide, rfl, gws_in 1293 (by decide +kernel) rfl⟩
theorem fp_RX9_13 : FP RX9 13 9 5 .int false := ⟨RX9, TX9, 62, rfl, by decide, rfl, gws_in 1293 (by decide +kernel) rfl, by decide +kernel, rfl⟩
theorem fl_RX9_16 : FL RX9 16 9 6 := ⟨RX9, TX9, 62, rfl, by decide, rfl, gws_in 1294 (by decide +kernel) rfl⟩
theorem fp_RX9_16 : FP RX9 16 9 6 (.array .int) true := ⟨RX9, TX9, 62, rfl, by decide, rfl, gws_in 1294 (by decide +kernel) rfl, by decide +kernel, rfl⟩
theorem fl_RX9_20 : FL RX9 20 9 7 := ⟨RX9, TX9, 62, rfl, by decide, rfl, gws_in 1295 (by decide +kernel) rfl⟩
theorem fp_RX9_20 : FP RX9 20 9 7 (.array .int) true := ⟨RX9, TX9, 62, rfl, by decide, rfl, gws_in 1295 (by decide +kernel) rfl, by decide +kernel, rfl⟩
theorem fl_RX9_23 : FL RX9 23 9 8 := ⟨RX9, TX9, 62, rfl, by decide, rfl, gws_in 1296 (by decide +kernel) rfl⟩
theorem fp_RX9_23 : FP RX9 23 9 8 (.array .int) true := ⟨RX9, TX9, 62, rfl, by decide, rfl, gws_in 1296 (by decide +kernel) rfl, by decide +kernel, rfl⟩
theorem fl_RX9_26 : FL RX9 26 9 9 := ⟨RX9, TX9, 62, rfl, by decide, rfl, gws_in 1297 (by decide +kernel) rfl⟩
theorem fp_RX9_26 : FP RX9 26 9 9 (.array .int) true := ⟨RX9, TX9, 62, rfl, by decide, rfl, gws_in 1297 (by decide +kernel) rfl, by decide +kernel, rfl⟩
theorem fl_RX9_29 : FL RX9 29 9 10 := ⟨RX9, TX9, 62, rfl, by decide, rfl, gws_in 1298 (by decide +kernel) rfl⟩
theorem fp_RX9_29 : FP RX9 29 9 10 (.array .int) true := ⟨RX9, TX9, 62, rfl, by decide, rfl, gws_in 1298 (by decide +kernel) rfl, by decide +kernel, rfl⟩
theorem fl_RX9_32 : FL RX9 32 9 11 := ⟨RX9, TX9, 62, rfl, by decide, rfl, gws_in 1299 (by decide +kernel) rfl⟩
theorem fp_RX9_32 : FP RX9 32 9 11 (.array .int) true := ⟨RX9, TX9, 62, rfl, by decide, rfl, gws_in 1299 (by decide +kernel) rfl, by decide +kernel, rfl⟩
theorem fl_RX9_35 : FL RX9 35 9 14 := ⟨RX9, TX9, 62, rfl, by decide, rfl, gws_in 1302 (by decide +kernel) rfl⟩
theorem fp_RX9_35 : FP RX9 35 9 14 .int false := ⟨RX9, TX9, 62, rfl, by decide, rfl, gws_in 1302 (by decide +kernel) rfl, by decide +kernel, rfl⟩
theorem fl_RX9_38 : FL RX9 38 9 15 := ⟨RX9, TX9, 62, rfl, by decide, rfl, gws_in 1303 (by decide +kernel) rfl⟩
theorem fp_RX9_38 : FP RX9 38 9 15 (.array .int) true := ⟨RX9, TX9, 62, rfl, by decide, rfl, gws_in 1303 (by decide +kernel) rfl, by decide +kernel, rfl⟩
theorem fl_RX9_41 : FL RX9 41 9 33 := ⟨RX9, TX9, 62, rfl, by decide, rfl, gws_in 1321 (by decide +kernel) rfl⟩
theorem fp_RX9_41 : FP RX9 41 9 33 (.array .int) true := ⟨RX9, TX9, 62, rfl, by decide, rfl, gws_in 1321 (by decide +kernel) rfl, by decide +kernel, rfl⟩
theorem fl_RX9_44 : FL RX9 44 9 34 := ⟨RX9, TX9, 62, rfl, by decide, rfl, gws_in 1322 (by decide +kernel) rfl⟩
theorem fp_RX9_44 : FP RX9 44 9 34 (.array .int) true := ⟨RX9, TX9, 62, rfl, by decide, rfl, gws_in 1322 (by decide +kernel) rfl, by decide +kernel, rfl⟩
theorem fl_RX9_47 : FL RX9 47 9 35 := ⟨RX9, TX9, 62, rfl, by decide, rfl, gws_in 1323 (by decide +kernel) rfl⟩
theorem fp_RX9_47 : FP RX9 47 9 35 (.array .int) true := ⟨RX9, TX9, 62, rfl, by decide, rfl, gws_in 1323 (by decide +kernel) rfl, by decide +kernel, rfl⟩
theorem fl_RX9_50 : FL RX9 50 9 36 := ⟨RX9, TX9, 62, rfl, by decide, rfl, gws_in 1324 (by decide +kernel) rfl⟩
theorem fp_RX9_50 : FP RX9 50 9 36 (.array .int) true := ⟨RX9, TX9, 62, rfl, by decide, rfl, gws_in 1324 (by decide +kernel) rfl, by decide +kernel, rfl⟩
theorem fl_RX9_53 : FL RX9 53 9 37 := ⟨RX9, TX9, 62, rfl, by decide, rfl, gws_in 1325 (by decide +kernel) rfl⟩
theorem fp_RX9_53 : FP RX9 53 9 37 (.array .int) true := ⟨RX9, TX9, 62, rfl, by decide, rfl, gws_in 1325 (by decide +kernel) rfl, by decide +kernel, rfl⟩
theorem fl_RX9_56 : FL RX9 56 9 38 := ⟨RX9, TX9, 62, rfl, by decide, rfl, gws_in 1326 (by decide +kernel) rfl⟩
theorem fp_RX9_56 : FP RX9 56 9 38 (.array .int) true := ⟨RX9, TX9, 62, rfl, by decide, rfl, gws_in 1326 (by decide +kernel) rfl, by decide +kernel, rfl⟩
theorem fl_RX9_59 : FL RX9 59 9 39 := ⟨RX9, TX9, 62, rfl, by decide, rfl, gws_in 1327 (by decide +kernel) rfl⟩
theorem fp_RX9_59 : FP RX9 59 9 39 (.array .int) true := ⟨RX9, TX9, 62, rfl, by decide, rfl, gws_in 1327 (by decide +kernel) rfl, by decide +kernel, rfl⟩
theorem fl_RX9_62 : FL RX9 62 9 40 := ⟨RX9, TX9, 62, rfl, by decide, rfl, gws_in 1328 (by decide +kernel) rfl⟩
theorem fp_RX9_62 : FP RX9 62 9 40 (.array .boolean) true := ⟨RX9, TX9, 62, rfl, by decide, rfl, gws_in 1328 (by decide +kernel) rfl, by decide +kernel, rfl⟩
theorem fl_RX9_66 : FL RX9 66 9 41 := ⟨RX9, TX9, 62, rfl, by decide, rfl, gws_in 1329 (by decide +kernel) rfl⟩
theorem fp_RX9_66 : FP RX9 66 9 41 (.array .int) true := ⟨RX9, TX9, 62, rfl, by decide, rfl, gws_in 1329 (by decide +kernel) rfl, by decide +kernel, rfl⟩
theorem fl_RX9_69 : FL RX9 69 9 42 := ⟨RX9, TX9, 62, rfl, by decide, rfl, gws_in 1330 (by decide +kernel) rfl⟩
theorem fp_RX9_69 : FP RX9 69 9 42 (.array .int) true := ⟨RX9, TX9, 62, rfl, by decide, rfl, gws_in 1330 (by decide +kernel) rfl, by decide +kernel, rfl⟩
theorem fl_RX9_72 : FL RX9 72 9 44 := ⟨RX9, TX9, 62, rfl, by decide, rfl, gws_in 1332 (by decide +kernel) rfl⟩
theorem fp_RX9_72 : FP RX9 72 9 44 (.array .int) true := ⟨RX9, TX9, 62, rfl, by decide, rfl, gws_in 1332 (by decide +kernel) rfl, by decide +kernel, rfl⟩
theorem fl_RX9_75 : FL RX9 75 9 45 := ⟨RX9, TX9, 62, rfl, by decide, rfl, gws_in 1333 (by decide +kernel) rfl⟩
theorem fp_RX9_75 : FP RX9 75 9 45 (.array .int) true := ⟨RX9, TX9, 62, rfl, by decide, rfl, gws_in 1333 (by decide +kernel) rfl, by decide +kernel, rfl⟩
theorem fl_RX9_78 : FL RX9 78 9 46 := ⟨RX9, TX9, 62, rfl, by decide, rfl, gws_in 1334 (by decide +kernel) rfl⟩
theorem fp_RX9_78 : FP RX9 78 9 46 .int false := ⟨RX9, TX9, 62, rfl, by decide, rfl, gws_in 1334 (by decide +kernel) rfl, by decide +kernel, rfl⟩
theorem fl_RX9_81 : FL RX9 81 9 47 := ⟨RX9, TX9, 62, rfl, by decide, rfl, gws_in 1335 (by decide +kernel) rfl⟩
theorem fp_RX9_81 : FP RX9 81 9 47 (.array .int) true := ⟨RX9, TX9, 62, rfl, by decide, rfl, gws_in 1335 (by decide +kernel) rfl, by decide +kernel, rfl⟩
theorem fl_RX9_84 : FL RX9 84 9 48 := ⟨RX9, TX9, 62, rfl, by decide, rfl, gws_in 1336 (by decide +kernel) rfl⟩
theorem fp_RX9_84 : FP RX9 84 9 48 (.array .int) true := ⟨RX9, TX9, 62, rfl, by decide, rfl, gws_in 1336 (by decide +kernel) rfl, by decide +kernel, rfl⟩
theorem fl_RX9_87 : FL RX9 87 9 49 := ⟨RX9, TX9, 62, rfl, by decide, rfl, gws_in 1337 (by decide +kernel) rfl⟩
theorem fp_RX9_87 : FP RX9 87 9 49 (.array .int) true := ⟨RX9, TX9, 62, rfl, by decide, rfl, gws_in 1337 (by decide +kernel) rfl, by decide +kernel, rfl⟩
theorem fl_RX9_90 : FL RX9 90 9 50 := ⟨RX9, TX9, 62, rfl, by decide, rfl, gws_in 1338 (by decide +kernel) rfl⟩
theorem fp_RX9_90 : FP RX9 90 9 50 (.array .int) true := ⟨RX9, TX9, 62, rfl, by decide, rfl, gws_in 1338 (by decide +kernel) rfl, by decide +kernel, rfl⟩
theorem fl_RX9_93 : FL RX9 93 9 52 := ⟨RX9, TX9, 62, rfl, by decide, rfl, gws_in 1340 (by decide +kernel) rfl⟩
theorem fp_RX9_93 : FP RX9 93 9 52 (.array .int) true := ⟨RX9, TX9, 62, rfl, by decide, rfl, gws_in 1340 (by decide +kernel) rfl, by decide +kernel, rfl⟩
theorem fl_RX9_96 : FL RX9 96 9 53 := ⟨RX9, TX9, 62, rfl, by decide, rfl, gws_in 1341 (by decide +kernel) rfl⟩
theorem fp_RX9_96 : FP RX9 96 9 53 (.array .int) true := ⟨RX9, TX9, 62, rfl, by decide, rfl, gws_in 1341 (by decide +kernel) rfl, by decide +kernel, rfl⟩
theorem fl_RX9_99 : FL RX9 99 9 54 := ⟨RX9, TX9, 62, rfl, by decide, rfl, gws_in 1342 (by decide +kernel) rfl⟩
theorem fp_RX9_99 : FP RX9 99 9 54 (.array .int) true := ⟨RX9, TX9, 62, rfl, by decide, rfl, gws_in 1342 (by decide +kernel) rfl, by decide +kernel, rfl⟩
theorem fl_RX9_102 : FL RX9 102 9 59 := ⟨RX9, TX9, 62, rfl, by decide, rfl, gws_in 1347 (by decide +kernel) rfl⟩
theorem fp_RX9_102 : FP RX9 102 9 59 (.array .int) true := ⟨RX9, TX9, 62, rfl, by decide, rfl, gws_in 1347 (by decide +kernel) rfl, by decide +kernel, rfl⟩
theorem fl_RX9_105 : FL RX9 105 9 60 := ⟨RX9, TX9, 62, rfl, by decide, rfl, gws_in 1348 (by decide +kernel) rfl⟩
theorem fp_RX9_105 : FP RX9 105 9 60 (.array .int) true := ⟨RX9, TX9, 62, rfl, by decide, rfl, gws_in 1348 (by decide +kernel) rfl, by decide +kernel, rfl⟩
theorem fl_RX9_108 : FL RX9 108 9 61 := ⟨RX9, TX9, 62, rfl, by decide, rfl, gws_in 1349 (by decide +kernel) rfl⟩
theorem fp_RX9_108 : FP RX9 108 9 61 (.array .int) true := ⟨RX9, TX9, 62, rfl, by decide, rfl, gws_in 1349 (by decide +kernel) rfl, by decide +kernel, rfl⟩
theorem fl_RX9_111 : FL RX9 111 9 0 := ⟨RX9, TX9, 62, rfl, by decide, rfl, gws_in 1288 (by decide +kernel) rfl⟩
theorem fp_RX9_111 : FP RX9 111 9 0 .int false := ⟨RX9, TX9, 62, rfl, by decide, rfl, gws_in 1288 (by decide +kernel) rfl, by decide +kernel, rfl⟩
theorem fl_RX9_114 : FL RX9 114 9 12 := ⟨RX9, TX9, 62, rfl, by decide, rfl, gws_in 1300 (by decide +kernel) rfl⟩
theorem fp_RX9_114 : FP RX9 114 9 12 .int false := ⟨RX9, TX9, 62, rfl, by decide, rfl, gws_in 1300 (by decide +kernel) rfl, by decide +kernel, rfl⟩
theorem fl_RX9_121 : FL RX9 121 9 16 := ⟨RX9, TX9, 62, rfl, by decide, rfl, gws_in 1304 (by decide +kernel) rfl⟩
theorem fp_RX9_121 : FP RX9 121 9 16 .int false := ⟨RX9, TX9, 62, rfl, by decide, rfl, gws_in 1304 (by decide +kernel) rfl, by decide +kernel, rfl⟩
theorem fl_RX9_124 : FL RX9 124 9 17 := ⟨RX9, TX9, 62, rfl, by decide, rfl, gws_in 1305 (by decide +kernel) rfl⟩
theorem fp_RX9_124 : FP RX9 124 9 17 .int false := ⟨RX9, TX9, 62, rfl, by decide, rfl, gws_in 1305 (by decide +kernel) rfl, by decide +kernel, rfl⟩
theorem fl_RX9_131 : FL RX9 131 9 19 := ⟨RX9, TX9, 62, rfl, by decide, rfl, gws_in 1307 (by decide +kernel) rfl⟩
theorem fp_RX9_131 : FP RX9 131 9 19 .int false := ⟨RX9, TX9, 62, rfl, by decide, rfl, gws_in 1307 (by decide +kernel) rfl, by decide +kernel, rfl⟩
theorem fl_RX9_134 : FL RX9 134 9 23 := ⟨RX9, TX9, 62, rfl, by decide, rfl, gws_in 1311 (by decide +kernel) rfl⟩
theorem fp_RX9_134 : FP RX9 134 9 23 .long false := ⟨RX9, TX9, 62, rfl, by decide, rfl, gws_in 1311 (by decide +kernel) rfl, by decide +kernel, rfl⟩
theorem fl_RX9_138 : FL RX9 138 9 21 := ⟨RX9, TX9, 62, rfl, by decide, rfl, gws_in 1309 (by decide +kernel) rfl⟩
theorem fp_RX9_138 : FP RX9 138 9 21 .int false := ⟨RX9, TX9, 62, rfl, by decide, rfl, gws_in 1309 (by decide +kernel) rfl, by decide +kernel, rfl⟩
theorem fl_RX9_141 : FL RX9 141 9 22 := ⟨RX9, TX9, 62, rfl, by decide, rfl, gws_in 1310 (by decide +kernel) rfl⟩
theorem fp_RX9_141 : FP RX9 141 9 22 .int false := ⟨RX9, TX9, 62, rfl, by decide, rfl, gws_in 1310 (by decide +kernel) rfl, by decide +kernel, rfl⟩
theorem fl_RX9_144 : FL RX9 144 9 18 := ⟨RX9, TX9, 62, rfl, by decide, rfl, gws_in 1306 (by decide +kernel) rfl⟩
theorem fp_RX9_144 : FP RX9 144 9 18 .int false := ⟨RX9, TX9, 62, rfl, by decide, rfl, gws_in 1306 (by decide +kernel) rfl, by decide +kernel, rfl⟩
theorem fl_RX9_154 : FL RX9 154 9 20 := ⟨RX9, TX9, 62, rfl, by decide, rfl, gws_in 1308 (by decide +kernel) rfl⟩
theorem fp_RX9_154 : FP RX9 154 9 20 .int false := ⟨RX9, TX9, 62, rfl, by decide, rfl, gws_in 1308 (by decide +kernel) rfl, by decide +kernel, rfl⟩
theorem fl_RX9_167 : FL RX9 167 9 13 := ⟨RX9, TX9, 62, rfl, by decide, rfl, gws_in 1301 (by decide +kernel) rfl⟩
theorem fp_RX9_167 : FP RX9 167 9 13 .int false := ⟨RX9, TX9, 62, rfl, by decide, rfl, gws_in 1301 (by decide +kernel) rfl, by decide +kernel, rfl⟩
theorem fl_RX9_180 : FL RX9 180 9 29 := ⟨RX9, TX9, 62, rfl, by decide, rfl, gws_in 1317 (by decide +kernel) rfl⟩
theorem fp_RX9_180 : FP RX9 180 9 29 .int false := ⟨RX9, TX9, 62, rfl, by decide, rfl, gws_in 1317 (by decide +kernel) rfl, by decide +kernel, rfl⟩
theorem fl_RX9_183 : FL RX9 183 9 31 := ⟨RX9, TX9, 62, rfl, by decide, rfl, gws_in 1319 (by decide +kernel) rfl⟩
theorem fp_RX9_183 : FP RX9 183 9 31 .int false := ⟨RX9, TX9, 62, rfl, by decide, rfl, gws_in 1319 (by decide +kernel) rfl, by decide +kernel, rfl⟩
theorem fl_RX9_199 : FL RX9 199 9 30 := ⟨RX9, TX9, 62, rfl, by decide, rfl, gws_in 1318 (by decide +kernel) rfl⟩
theorem fp_RX9_199 : FP RX9 199 9 30 .int false := ⟨RX9, TX9, 62, rfl, by decide, rfl, gws_in 1318 (by decide +kernel) rfl, by decide +kernel, rfl⟩
theorem fl_RX9_202 : FL RX9 202 9 32 := ⟨RX9, TX9, 62, rfl, by decide, rfl, gws_in 1320 (by decide +kernel) rfl⟩
theorem fp_RX9_202 : FP RX9 202 9 32 .int false := ⟨RX9, TX9, 62, rfl, by decide, rfl, gws_in 1320 (by decide +kernel) rfl, by decide +kernel, rfl⟩
theorem fl_RX9_230 : FL RX9 230 9 24 := ⟨RX9, TX9, 62, rfl, by decide, rfl, gws_in 1312 (by decide +kernel) rfl⟩
theorem fp_RX9_230 : FP RX9 230 9 24 .int false := ⟨RX9, TX9, 62, rfl, by decide, rfl, gws_in 1312 (by decide +kernel) rfl, by decide +kernel, rfl⟩
theorem fl_RX9_237 : FL RX9 237 9 25 := ⟨RX9, TX9, 62, rfl, by decide, rfl, gws_in 1313 (by decide +kernel) rfl⟩
theorem fp_RX9_237 : FP RX9 237 9 25 .int false := ⟨RX9, TX9, 62, rfl, by decide, rfl, gws_in 1313 (by decide +kernel) rfl, by decide +kernel, rfl⟩
theorem fl_RX9_240 : FL RX9 240 9 26 := ⟨RX9, TX9, 62, rfl, by decide, rfl, gws_in 1314 (by decide +kernel) rfl⟩
theorem fp_RX9_240 : FP RX9 240 9 26 .int false := ⟨RX9, TX9, 62, rfl, by decide, rfl, gws_in 1314 (by decide +kernel) rfl, by decide +kernel, rfl⟩
theorem fl_RX9_256 : FL RX9 256 9 27 := ⟨RX9, TX9, 62, rfl, by decide, rfl, gws_in 1315 (by decide +kernel) rfl⟩
theorem fp_RX9_256 : FP RX9 256 9 27 .int false := ⟨RX9, TX9, 62, rfl, by decide, rfl, gws_in 1315 (by decide +kernel) rfl, by decide +kernel, rfl⟩
theorem fl_RX9_262 : FL RX9 262 9 28 := ⟨RX9, TX9, 62, rfl, by decide, rfl, gws_in 1316 (by decide +kernel) rfl⟩
theorem fp_RX9_262 : FP RX9 262 9 28 .int false := ⟨RX9, TX9, 62, rfl, by decide, rfl, gws_in 1316 (by decide +kernel) rfl, by decide +kernel, rfl⟩
theorem fl_RX9_275 : FL RX9 275 9 1 := ⟨RX9, TX9, 62, rfl, by decide, rfl, gws_in 1289 (by decide +kernel) rfl⟩
theorem fp_RX9_275 : FP RX9 275 9 1 .int false := ⟨RX9, TX9, 62, rfl, by decide, rfl, gws_in 1289 (by decide +kernel) rfl, by decide +kernel, rfl⟩
theorem fl_RX9_278 : FL RX9 278 9 2 := ⟨RX9, TX9, 62, rfl, by decide, rfl, gws_in 1290 (by decide +kernel) rfl⟩
theorem fp_RX9_278 : FP RX9 278 9 2 .int false := ⟨RX9, TX9, 62, rfl, by decide, rfl, gws_in 1290 (by decide +kernel) rfl, by decide +kernel, rfl⟩
theorem fl_RX9_281 : FL RX9 281 9 3 := ⟨RX9, TX9, 62, rfl, by decide, rfl, gws_in 1291 (by decide +kernel) rfl⟩
theorem fp_RX9_281 : FP RX9 281 9 3 .int false := ⟨RX9, TX9, 62, rfl, by decide, rfl, gws_in 1291 (by decide +kernel) rfl, by decide +kernel, rfl⟩
theorem fl_RX9_288 : FL RX9 288 9 43 := ⟨RX9, TX9, 62, rfl, by decide, rfl, gws_in 1331 (by decide +kernel) rfl⟩
theorem fp_RX9_288 : FP RX9 288 9 43 .int false := ⟨RX9, TX9, 62, rfl, by decide, rfl, gws_in 1331 (by decide +kernel) rfl, by decide +kernel, rfl⟩
theorem fl_RX9_291 : FL RX9 291 9 51 := ⟨RX9, TX9, 62, rfl, by decide, rfl, gws_in 1339 (by decide +kernel) rfl⟩
theorem fp_RX9_291 : FP RX9 291 9 51 .int false := ⟨RX9, TX9, 62, rfl, by decide, rfl, gws_in 1339 (by decide +kernel) rfl, by decide +kernel, rfl⟩
theorem fl_RX9_294 : FL RX9 294 9 56 := ⟨RX9, TX9, 62, rfl, by decide, rfl, gws_in 1344 (by decide +kernel) rfl⟩
theorem fp_RX9_294 : FP RX9 294 9 56 .boolean false := ⟨RX9, TX9, 62, rfl, by decide, rfl, gws_in 1344 (by decide +kernel) rfl, by decide +kernel, rfl⟩
theorem fl_RX9_434 : FL RX9 434 9 55 := ⟨RX9, TX9, 62, rfl, by decide, rfl, gws_in 1343 (by decide +kernel) rfl⟩
theorem fp_RX9_434 : FP RX9 434 9 55 .int false := ⟨RX9, TX9, 62, rfl, by decide, rfl, gws_in 1343 (by decide +kernel) rfl, by decide +kernel, rfl⟩
theorem fl_RX9_447 : FL RX9 447 9 57 := ⟨RX9, TX9, 62, rfl, by decide, rfl, gws_in 1345 (by decide +kernel) rfl⟩
theorem fp_RX9_447 : FP RX9 447 9 57 .int false := ⟨RX9, TX9, 62, rfl, by decide, rfl, gws_in 1345 (by decide +kernel) rfl, by decide +kernel, rfl⟩
theorem fl_RX9_450 : FL RX9 450 9 58 := ⟨RX9, TX9, 62, rfl, by decide, rfl, gws_in 1346 (by decide +kernel) rfl⟩
theorem fp_RX9_450 : FP RX9 450 9 58 .int false := ⟨RX9, TX9, 62, rfl, by decide, rfl, gws_in 1346 (by decide +kernel) rfl, by decide +kernel, rfl⟩
theorem cn_RX8_388 : Cond.constant RX8 388 (1103515245 : Int32) ∈ gws := gws_in 1171 (by decide +kernel) rfl
theorem cn_RX9_157 : Cond.constantLong RX9 157 (96 : Int64) ∈ gws := gws_in 1528 (by decide +kernel) rfl
theorem cn_RX9_305 : Cond.constant RX9 305 (99999 : Int32) ∈ gws := gws_in 1658 (by decide +kernel) rfl
theorem cn_RX9_437 : Cond.constant RX9 437 (1103515245 : Int32) ∈ gws := gws_in 1915 (by decide +kernel) rfl
theorem cn_RJ6_265 : Cond.constant RJ6 265 (1431655765 : Int32) ∈ gws := gws_in 1182 (by decide +kernel) rfl
theorem cn_RJ6_266 : Cond.constant RJ6 266 (858993459 : Int32) ∈ gws := gws_in 1183 (by decide +kernel) rfl
theorem cn_RJ6_267 : Cond.constant RJ6 267 (252645135 : Int32) ∈ gws := gws_in 1184 (by decide +kernel) rfl
theorem cn_RJ13_314 : Cond.constantLong RJ13 314 (6148914691236517205 : Int64) ∈ gws := gws_in 1108 (by decide +kernel) rfl
theorem cn_RJ13_316 : Cond.constantLong RJ13 316 (3689348814741910323 : Int64) ∈ gws := gws_in 1109 (by decide +kernel) rfl
theorem cn_RJ13_318 : Cond.constantLong RJ13 318 (1085102592571150095 : Int64) ∈ gws := gws_in 1110 (by decide +kernel) rfl
theorem cl_RX8_7 : Cond.classLink RX8 7 RX3 ∈ gws := gws_in 33 (by decide +kernel) rfl
theorem cl_RX8_20 : Cond.classLink RX8 20 RX2 ∈ gws := gws_in 78 (by decide +kernel) rfl
theorem cl_RX8_30 : Cond.classLink RX8 30 RX6 ∈ gws := gws_in 148 (by decide +kernel) rfl
theorem cl_RX8_40 : Cond.classLink RX8 40 RX0 ∈ gws := gws_in 207 (by decide +kernel) rfl
theorem cl_RX8_47 : Cond.classLink RX8 47 RX5 ∈ gws := gws_in 225 (by decide +kernel) rfl
theorem cl_RX8_71 : Cond.classLink RX8 71 RX1 ∈ gws := gws_in 244 (by decide +kernel) rfl
theorem cl_RX8_78 : Cond.classLink RX8 78 RX7 ∈ gws := gws_in 263 (by decide +kernel) rfl
theorem cl_RX8_97 : Cond.classLink RX8 97 (exN 0) ∈ gws := gws_in 474 (by decide +kernel) rfl
theorem cl_RX8_154 : Cond.classLink RX8 154 (exN 1) ∈ gws := gws_in 804 (by decide +kernel) rfl
theorem cl_RX0_9 : Cond.classLink RX0 9 RX6 ∈ gws := gws_in 213 (by decide +kernel) rfl
theorem cl_RX3_174 : Cond.classLink RX3 174 RX4 ∈ gws := gws_in 687 (by decide +kernel) rfl
theorem ib_0 : Cond.instantiable RX0 3 ∈ gws := gws_in 208 (by decide +kernel) rfl
theorem in_0 : Cond.initialized RX0 ∈ gws := gws_in 6 (by decide +kernel) rfl
theorem ib_1 : Cond.instantiable RX1 4 ∈ gws := gws_in 245 (by decide +kernel) rfl
theorem in_1 : Cond.initialized RX1 ∈ gws := gws_in 8 (by decide +kernel) rfl
theorem ib_2 : Cond.instantiable RX2 14 ∈ gws := gws_in 79 (by decide +kernel) rfl
theorem in_2 : Cond.initialized RX2 ∈ gws := gws_in 3 (by decide +kernel) rfl
theorem ib_3 : Cond.instantiable RX3 12 ∈ gws := gws_in 34 (by decide +kernel) rfl
theorem in_3 : Cond.initialized RX3 ∈ gws := gws_in 2 (by decide +kernel) rfl
theorem ib_4 : Cond.instantiable RX4 1 ∈ gws := gws_in 688 (by decide +kernel) rfl
theorem in_4 : Cond.initialized RX4 ∈ gws := gws_in 20 (by decide +kernel) rfl
theorem ib_5 : Cond.instantiable RX5 4 ∈ gws := gws_in 226 (by decide +kernel) rfl
theorem in_5 : Cond.initialized RX5 ∈ gws := gws_in 7 (by decide +kernel) rfl
theorem ib_6 : Cond.instantiable RX6 9 ∈ gws := gws_in 149 (by decide +kernel) rfl
theorem in_6 : Cond.initialized RX6 ∈ gws := gws_in 4 (by decide +kernel) rfl
theorem ib_7 : Cond.instantiable RX7 3 ∈ gws := gws_in 264 (by decide +kernel) rfl
theorem in_7 : Cond.initialized RX7 ∈ gws := gws_in 9 (by decide +kernel) rfl
theorem ib_8 : Cond.instantiable RX8 16 ∈ gws := gws_in 26 (by decide +kernel) rfl
theorem in_8 : Cond.initialized RX8 ∈ gws := gws_in 1 (by decide +kernel) rfl
theorem ib_9 : Cond.instantiable RX9 62 ∈ gws := gws_in 1283 (by decide +kernel) rfl
theorem in_9 : Cond.initialized RX9 ∈ gws := gws_in 10 (by decide +kernel) rfl
theorem in_ex0 : Cond.initialized (exN 0) ∈ gws := gws_in 14 (by decide +kernel) rfl
theorem in_ex1 : Cond.initialized (exN 1) ∈ gws := gws_in 22 (by decide +kernel) rfl
theorem at_RX8_101 : ∀ w ∈ vx_atS RX8 101 (exN 0) xNm, w ∈ gws ∨ w ∈ xws := by decide +kernel
theorem gd_RX8_101 : ∀ w ∈ Cond.classLink RX8 97 (exN 0) :: Cond.initialized (exN 0) :: vx_atS RX8 101 (exN 0) xNm, vx_ot w = true := by decide +kernel
theorem at_RX8_158 : ∀ w ∈ nAt RX8 158, w ∈ gws ∨ w ∈ xws := by decide +kernel
theorem gd_RX8_158 : ∀ w ∈ Cond.classLink RX8 154 (exN 1) :: Cond.initialized (exN 1) :: nAt RX8 158, vx_ot w = true := by decide +kernel
theorem ar_byte : Cond.arrayClass .byte ∈ gws := gws_in 76 (by decide +kernel) rfl
theorem ar_int : Cond.arrayClass .int ∈ gws := gws_in 77 (by decide +kernel) rfl
theorem ar_long : Cond.arrayClass .long ∈ gws := gws_in 330 (by decide +kernel) rfl
theorem ar_boolean : Cond.arrayClass .boolean ∈ gws := gws_in 1475 (by decide +kernel) rfl
theorem oi_1 : Cond.instanceMethod Lib.objectInit ∈ gws := gws_in 31 (by decide +kernel) rfl
theorem oi_2 : Cond.code Lib.objectInit ⟨#[0xb1]⟩ 1 none ∈ gws := gws_in 32 (by decide +kernel) rfl
theorem ac_1 : Cond.native arraycopyName ∈ gws := gws_in 370 (by decide +kernel) rfl
theorem ac_2 : Cond.static arraycopyName ∈ gws := gws_in 369 (by decide +kernel) rfl
theorem ac_3 : Cond.initialized "java/lang/System" ∈ gws := gws_in 21 (by decide +kernel) rfl
theorem mm_max1 : Cond.static Lib.Math.max.name ∈ gws := gws_in 399 (by decide +kernel) rfl
theorem mm_max4 : Cond.code Lib.Math.max.name Lib.Math.max.code 2 (some .int) ∈ gws := gws_in 400 (by decide +kernel) rfl
theorem mm_min1 : Cond.static Lib.Math.min.name ∈ gws := gws_in 402 (by decide +kernel) rfl
theorem mm_min4 : Cond.code Lib.Math.min.name Lib.Math.min.code 2 (some .int) ∈ gws := gws_in 403 (by decide +kernel) rfl
theorem mm_abs1 : Cond.static Lib.Math.abs.name ∈ gws := gws_in 843 (by decide +kernel) rfl
theorem mm_abs4 : Cond.code Lib.Math.abs.name Lib.Math.abs.code 1 (some .int) ∈ gws := gws_in 844 (by decide +kernel) rfl
theorem mm_3 : Cond.initialized "java/lang/Math" ∈ gws := gws_in 15 (by decide +kernel) rfl
theorem me_X0_init : Cond.code yX0_init cX0_init 1 none ∈ gws ∧ Cond.initialized yX0_init.cls ∈ gws ∧ (yX0_init.cls ≠ "java/lang/invoke/MethodHandle" ∧ yX0_init.cls ≠ "java/lang/invoke/VarHandle") ∧ ∀ sig, parseMethodDescriptor yX0_init.desc = some sig → 0 = sig.parameters.length := ⟨gws_in 211 (by decide +kernel) rfl, gws_in 6 (by decide +kernel) rfl, by decide +kernel, fun sig h => by
  have e : (parseMethodDescriptor yX0_init.desc).map (fun s => s.parameters.length) = some 0 := by decide +kernel
  rw [h] at e; exact (Option.some.inj e).symm⟩
theorem ik_X0_init : Cond.instanceMethod yX0_init ∈ gws := gws_in 210 (by decide +kernel) rfl
theorem me_X1_init : Cond.code yX1_init cX1_init 1 none ∈ gws ∧ Cond.initialized yX1_init.cls ∈ gws ∧ (yX1_init.cls ≠ "java/lang/invoke/MethodHandle" ∧ yX1_init.cls ≠ "java/lang/invoke/VarHandle") ∧ ∀ sig, parseMethodDescriptor yX1_init.desc = some sig → 0 = sig.parameters.length := ⟨gws_in 248 (by decide +kernel) rfl, gws_in 8 (by decide +kernel) rfl, by decide +kernel, fun sig h => by
  have e : (parseMethodDescriptor yX1_init.desc).map (fun s => s.parameters.length) = some 0 := by decide +kernel
  rw [h] at e; exact (Option.some.inj e).symm⟩
theorem ik_X1_init : Cond.instanceMethod yX1_init ∈ gws := gws_in 247 (by decide +kernel) rfl
theorem me_X2_init : Cond.code yX2_init cX2_init 1 none ∈ gws ∧ Cond.initialized yX2_init.cls ∈ gws ∧ (yX2_init.cls ≠ "java/lang/invoke/MethodHandle" ∧ yX2_init.cls ≠ "java/lang/invoke/VarHandle") ∧ ∀ sig, parseMethodDescriptor yX2_init.desc = some sig → 0 = sig.parameters.length := ⟨gws_in 82 (by decide +kernel) rfl, gws_in 3 (by decide +kernel) rfl, by decide +kernel, fun sig h => by
  have e : (parseMethodDescriptor yX2_init.desc).map (fun s => s.parameters.length) = some 0 := by decide +kernel
  rw [h] at e; exact (Option.some.inj e).symm⟩
theorem ik_X2_init : Cond.instanceMethod yX2_init ∈ gws := gws_in 81 (by decide +kernel) rfl
theorem me_X3_init : Cond.code yX3_init cX3_init 1 none ∈ gws ∧ Cond.initialized yX3_init.cls ∈ gws ∧ (yX3_init.cls ≠ "java/lang/invoke/MethodHandle" ∧ yX3_init.cls ≠ "java/lang/invoke/VarHandle") ∧ ∀ sig, parseMethodDescriptor yX3_init.desc = some sig → 0 = sig.parameters.length := ⟨gws_in 37 (by decide +kernel) rfl, gws_in 2 (by decide +kernel) rfl, by decide +kernel, fun sig h => by
  have e : (parseMethodDescriptor yX3_init.desc).map (fun s => s.parameters.length) = some 0 := by decide +kernel
  rw [h] at e; exact (Option.some.inj e).symm⟩
theorem ik_X3_init : Cond.instanceMethod yX3_init ∈ gws := gws_in 36 (by decide +kernel) rfl
theorem me_X5_init : Cond.code yX5_init cX5_init 1 none ∈ gws ∧ Cond.initialized yX5_init.cls ∈ gws ∧ (yX5_init.cls ≠ "java/lang/invoke/MethodHandle" ∧ yX5_init.cls ≠ "java/lang/invoke/VarHandle") ∧ ∀ sig, parseMethodDescriptor yX5_init.desc = some sig → 0 = sig.parameters.length := ⟨gws_in 229 (by decide +kernel) rfl, gws_in 7 (by decide +kernel) rfl, by decide +kernel, fun sig h => by
  have e : (parseMethodDescriptor yX5_init.desc).map (fun s => s.parameters.length) = some 0 := by decide +kernel
  rw [h] at e; exact (Option.some.inj e).symm⟩
theorem ik_X5_init : Cond.instanceMethod yX5_init ∈ gws := gws_in 228 (by decide +kernel) rfl
theorem me_J7_fill_53178 : Cond.code yJ7_fill_53178 cJ7_fill_53178 4 none ∈ gws ∧ Cond.initialized yJ7_fill_53178.cls ∈ gws ∧ (yJ7_fill_53178.cls ≠ "java/lang/invoke/MethodHandle" ∧ yJ7_fill_53178.cls ≠ "java/lang/invoke/VarHandle") ∧ ∀ sig, parseMethodDescriptor yJ7_fill_53178.desc = some sig → 2 = sig.parameters.length := ⟨gws_in 156 (by decide +kernel) rfl, gws_in 5 (by decide +kernel) rfl, by decide +kernel, fun sig h => by
  have e : (parseMethodDescriptor yJ7_fill_53178.desc).map (fun s => s.parameters.length) = some 2 := by decide +kernel
  rw [h] at e; exact (Option.some.inj e).symm⟩
theorem sk_J7_fill_53178 : Cond.static yJ7_fill_53178 ∈ gws := gws_in 155 (by decide +kernel) rfl
theorem me_X6_init : Cond.code yX6_init cX6_init 1 none ∈ gws ∧ Cond.initialized yX6_init.cls ∈ gws ∧ (yX6_init.cls ≠ "java/lang/invoke/MethodHandle" ∧ yX6_init.cls ≠ "java/lang/invoke/VarHandle") ∧ ∀ sig, parseMethodDescriptor yX6_init.desc = some sig → 0 = sig.parameters.length := ⟨gws_in 152 (by decide +kernel) rfl, gws_in 4 (by decide +kernel) rfl, by decide +kernel, fun sig h => by
  have e : (parseMethodDescriptor yX6_init.desc).map (fun s => s.parameters.length) = some 0 := by decide +kernel
  rw [h] at e; exact (Option.some.inj e).symm⟩
theorem ik_X6_init : Cond.instanceMethod yX6_init ∈ gws := gws_in 151 (by decide +kernel) rfl
theorem me_X7_init : Cond.code yX7_init cX7_init 1 none ∈ gws ∧ Cond.initialized yX7_init.cls ∈ gws ∧ (yX7_init.cls ≠ "java/lang/invoke/MethodHandle" ∧ yX7_init.cls ≠ "java/lang/invoke/VarHandle") ∧ ∀ sig, parseMethodDescriptor yX7_init.desc = some sig → 0 = sig.parameters.length := ⟨gws_in 267 (by decide +kernel) rfl, gws_in 9 (by decide +kernel) rfl, by decide +kernel, fun sig h => by
  have e : (parseMethodDescriptor yX7_init.desc).map (fun s => s.parameters.length) = some 0 := by decide +kernel
  rw [h] at e; exact (Option.some.inj e).symm⟩
theorem ik_X7_init : Cond.instanceMethod yX7_init ∈ gws := gws_in 266 (by decide +kernel) rfl
theorem me_J9_floorMod_7cf53 : Cond.code yJ9_floorMod_7cf53 cJ9_floorMod_7cf53 3 (some .int) ∈ gws ∧ Cond.initialized yJ9_floorMod_7cf53.cls ∈ gws ∧ (yJ9_floorMod_7cf53.cls ≠ "java/lang/invoke/MethodHandle" ∧ yJ9_floorMod_7cf53.cls ≠ "java/lang/invoke/VarHandle") ∧ ∀ sig, parseMethodDescriptor yJ9_floorMod_7cf53.desc = some sig → 2 = sig.parameters.length := ⟨gws_in 385 (by decide +kernel) rfl, gws_in 15 (by decide +kernel) rfl, by decide +kernel, fun sig h => by
  have e : (parseMethodDescriptor yJ9_floorMod_7cf53.desc).map (fun s => s.parameters.length) = some 2 := by decide +kernel
  rw [h] at e; exact (Option.some.inj e).symm⟩
theorem sk_J9_floorMod_7cf53 : Cond.static yJ9_floorMod_7cf53 ∈ gws := gws_in 384 (by decide +kernel) rfl
theorem me_X2_dampOn : Cond.code yX2_dampOn cX2_dampOn 2 (some .int) ∈ gws ∧ Cond.initialized yX2_dampOn.cls ∈ gws ∧ (yX2_dampOn.cls ≠ "java/lang/invoke/MethodHandle" ∧ yX2_dampOn.cls ≠ "java/lang/invoke/VarHandle") ∧ ∀ sig, parseMethodDescriptor yX2_dampOn.desc = some sig → 1 = sig.parameters.length := ⟨gws_in 382 (by decide +kernel) rfl, gws_in 3 (by decide +kernel) rfl, by decide +kernel, fun sig h => by
  have e : (parseMethodDescriptor yX2_dampOn.desc).map (fun s => s.parameters.length) = some 1 := by decide +kernel
  rw [h] at e; exact (Option.some.inj e).symm⟩
theorem vk_X2_dampOn : VK yX2_dampOn := ⟨gws_in 380 (by decide +kernel) rfl, gws_in 381 (by decide +kernel) rfl⟩
theorem me_X2_dampOf : Cond.code yX2_dampOf cX2_dampOf 2 (some .int) ∈ gws ∧ Cond.initialized yX2_dampOf.cls ∈ gws ∧ (yX2_dampOf.cls ≠ "java/lang/invoke/MethodHandle" ∧ yX2_dampOf.cls ≠ "java/lang/invoke/VarHandle") ∧ ∀ sig, parseMethodDescriptor yX2_dampOf.desc = some sig → 1 = sig.parameters.length := ⟨gws_in 378 (by decide +kernel) rfl, gws_in 3 (by decide +kernel) rfl, by decide +kernel, fun sig h => by
  have e : (parseMethodDescriptor yX2_dampOf.desc).map (fun s => s.parameters.length) = some 1 := by decide +kernel
  rw [h] at e; exact (Option.some.inj e).symm⟩
theorem vk_X2_dampOf : VK yX2_dampOf := ⟨gws_in 376 (by decide +kernel) rfl, gws_in 377 (by decide +kernel) rfl⟩
theorem me_X2_grow : Cond.code yX2_grow cX2_grow 3 none ∈ gws ∧ Cond.initialized yX2_grow.cls ∈ gws ∧ (yX2_grow.cls ≠ "java/lang/invoke/MethodHandle" ∧ yX2_grow.cls ≠ "java/lang/invoke/VarHandle") ∧ ∀ sig, parseMethodDescriptor yX2_grow.desc = some sig → 2 = sig.parameters.length := ⟨gws_in 423 (by decide +kernel) rfl, gws_in 3 (by decide +kernel) rfl, by decide +kernel, fun sig h => by
  have e : (parseMethodDescriptor yX2_grow.desc).map (fun s => s.parameters.length) = some 2 := by decide +kernel
  rw [h] at e; exact (Option.some.inj e).symm⟩
theorem vk_X2_grow : VK yX2_grow := ⟨gws_in 421 (by decide +kernel) rfl, gws_in 422 (by decide +kernel) rfl⟩
theorem me_X2_tellFacts : Cond.code yX2_tellFacts cX2_tellFacts 5 none ∈ gws ∧ Cond.initialized yX2_tellFacts.cls ∈ gws ∧ (yX2_tellFacts.cls ≠ "java/lang/invoke/MethodHandle" ∧ yX2_tellFacts.cls ≠ "java/lang/invoke/VarHandle") ∧ ∀ sig, parseMethodDescriptor yX2_tellFacts.desc = some sig → 4 = sig.parameters.length := ⟨gws_in 407 (by decide +kernel) rfl, gws_in 3 (by decide +kernel) rfl, by decide +kernel, fun sig h => by
  have e : (parseMethodDescriptor yX2_tellFacts.desc).map (fun s => s.parameters.length) = some 4 := by decide +kernel
  rw [h] at e; exact (Option.some.inj e).symm⟩
theorem vk_X2_tellFacts : VK yX2_tellFacts := ⟨gws_in 406 (by decide +kernel) rfl, gws_sel 4 (by decide +kernel) rfl⟩
theorem me_X4_join : Cond.code yX4_join cX4_join 3 (some .int) ∈ gws ∧ Cond.initialized yX4_join.cls ∈ gws ∧ (yX4_join.cls ≠ "java/lang/invoke/MethodHandle" ∧ yX4_join.cls ≠ "java/lang/invoke/VarHandle") ∧ ∀ sig, parseMethodDescriptor yX4_join.desc = some sig → 3 = sig.parameters.length := ⟨gws_in 415 (by decide +kernel) rfl, gws_in 20 (by decide +kernel) rfl, by decide +kernel, fun sig h => by
  have e : (parseMethodDescriptor yX4_join.desc).map (fun s => s.parameters.length) = some 3 := by decide +kernel
  rw [h] at e; exact (Option.some.inj e).symm⟩
theorem sk_X4_join : Cond.static yX4_join ∈ gws := gws_in 414 (by decide +kernel) rfl
theorem me_X4_value : Cond.code yX4_value cX4_value 6 (some .int) ∈ gws ∧ Cond.initialized yX4_value.cls ∈ gws ∧ (yX4_value.cls ≠ "java/lang/invoke/MethodHandle" ∧ yX4_value.cls ≠ "java/lang/invoke/VarHandle") ∧ ∀ sig, parseMethodDescriptor yX4_value.desc = some sig → 2 = sig.parameters.length := ⟨gws_in 412 (by decide +kernel) rfl, gws_in 20 (by decide +kernel) rfl, by decide +kernel, fun sig h => by
  have e : (parseMethodDescriptor yX4_value.desc).map (fun s => s.parameters.length) = some 2 := by decide +kernel
  rw [h] at e; exact (Option.some.inj e).symm⟩
theorem vk_X4_value : VK yX4_value := ⟨gws_in 410 (by decide +kernel) rfl, gws_in 411 (by decide +kernel) rfl⟩
theorem me_X6_leave : Cond.code yX6_leave cX6_leave 3 none ∈ gws ∧ Cond.initialized yX6_leave.cls ∈ gws ∧ (yX6_leave.cls ≠ "java/lang/invoke/MethodHandle" ∧ yX6_leave.cls ≠ "java/lang/invoke/VarHandle") ∧ ∀ sig, parseMethodDescriptor yX6_leave.desc = some sig → 1 = sig.parameters.length := ⟨gws_in 419 (by decide +kernel) rfl, gws_in 4 (by decide +kernel) rfl, by decide +kernel, fun sig h => by
  have e : (parseMethodDescriptor yX6_leave.desc).map (fun s => s.parameters.length) = some 1 := by decide +kernel
  rw [h] at e; exact (Option.some.inj e).symm⟩
theorem vk_X6_leave : VK yX6_leave := ⟨gws_in 417 (by decide +kernel) rfl, gws_in 418 (by decide +kernel) rfl⟩
theorem me_X6_tight : Cond.code yX6_tight cX6_tight 3 (some .int) ∈ gws ∧ Cond.initialized yX6_tight.cls ∈ gws ∧ (yX6_tight.cls ≠ "java/lang/invoke/MethodHandle" ∧ yX6_tight.cls ≠ "java/lang/invoke/VarHandle") ∧ ∀ sig, parseMethodDescriptor yX6_tight.desc = some sig → 2 = sig.parameters.length := ⟨gws_in 397 (by decide +kernel) rfl, gws_in 4 (by decide +kernel) rfl, by decide +kernel, fun sig h => by
  have e : (parseMethodDescriptor yX6_tight.desc).map (fun s => s.parameters.length) = some 2 := by decide +kernel
  rw [h] at e; exact (Option.some.inj e).symm⟩
theorem vk_X6_tight : VK yX6_tight := ⟨gws_in 395 (by decide +kernel) rfl, gws_in 396 (by decide +kernel) rfl⟩
theorem me_X2_wear : Cond.code yX2_wear cX2_wear 8 none ∈ gws ∧ Cond.initialized yX2_wear.cls ∈ gws ∧ (yX2_wear.cls ≠ "java/lang/invoke/MethodHandle" ∧ yX2_wear.cls ≠ "java/lang/invoke/VarHandle") ∧ ∀ sig, parseMethodDescriptor yX2_wear.desc = some sig → 3 = sig.parameters.length := ⟨gws_in 393 (by decide +kernel) rfl, gws_in 3 (by decide +kernel) rfl, by decide +kernel, fun sig h => by
  have e : (parseMethodDescriptor yX2_wear.desc).map (fun s => s.parameters.length) = some 3 := by decide +kernel
  rw [h] at e; exact (Option.some.inj e).symm⟩
theorem vk_X2_wear : VK yX2_wear := ⟨gws_in 392 (by decide +kernel) rfl, gws_sel 3 (by decide +kernel) rfl⟩
theorem me_X2_pass : Cond.code yX2_pass cX2_pass 4 none ∈ gws ∧ Cond.initialized yX2_pass.cls ∈ gws ∧ (yX2_pass.cls ≠ "java/lang/invoke/MethodHandle" ∧ yX2_pass.cls ≠ "java/lang/invoke/VarHandle") ∧ ∀ sig, parseMethodDescriptor yX2_pass.desc = some sig → 2 = sig.parameters.length := ⟨gws_in 389 (by decide +kernel) rfl, gws_in 3 (by decide +kernel) rfl, by decide +kernel, fun sig h => by
  have e : (parseMethodDescriptor yX2_pass.desc).map (fun s => s.parameters.length) = some 2 := by decide +kernel
  rw [h] at e; exact (Option.some.inj e).symm⟩
theorem vk_X2_pass : VK yX2_pass := ⟨gws_in 387 (by decide +kernel) rfl, gws_in 388 (by decide +kernel) rfl⟩
theorem me_X8_pass : Cond.code yX8_pass cX8_pass 4 none ∈ gws ∧ Cond.initialized yX8_pass.cls ∈ gws ∧ (yX8_pass.cls ≠ "java/lang/invoke/MethodHandle" ∧ yX8_pass.cls ≠ "java/lang/invoke/VarHandle") ∧ ∀ sig, parseMethodDescriptor yX8_pass.desc = some sig → 2 = sig.parameters.length := ⟨gws_in 374 (by decide +kernel) rfl, gws_in 1 (by decide +kernel) rfl, by decide +kernel, fun sig h => by
  have e : (parseMethodDescriptor yX8_pass.desc).map (fun s => s.parameters.length) = some 2 := by decide +kernel
  rw [h] at e; exact (Option.some.inj e).symm⟩
theorem vk_X8_pass : VK yX8_pass := ⟨gws_in 373 (by decide +kernel) rfl, gws_sel 2 (by decide +kernel) rfl⟩
theorem me_X6_copy : Cond.code yX6_copy cX6_copy 2 none ∈ gws ∧ Cond.initialized yX6_copy.cls ∈ gws ∧ (yX6_copy.cls ≠ "java/lang/invoke/MethodHandle" ∧ yX6_copy.cls ≠ "java/lang/invoke/VarHandle") ∧ ∀ sig, parseMethodDescriptor yX6_copy.desc = some sig → 1 = sig.parameters.length := ⟨gws_in 367 (by decide +kernel) rfl, gws_in 4 (by decide +kernel) rfl, by decide +kernel, fun sig h => by
  have e : (parseMethodDescriptor yX6_copy.desc).map (fun s => s.parameters.length) = some 1 := by decide +kernel
  rw [h] at e; exact (Option.some.inj e).symm⟩
theorem vk_X6_copy : VK yX6_copy := ⟨gws_in 365 (by decide +kernel) rfl, gws_in 366 (by decide +kernel) rfl⟩
theorem me_X8_after : Cond.code yX8_after cX8_after 2 (some (.object "HornHouses$State")) ∈ gws ∧ Cond.initialized yX8_after.cls ∈ gws ∧ (yX8_after.cls ≠ "java/lang/invoke/MethodHandle" ∧ yX8_after.cls ≠ "java/lang/invoke/VarHandle") ∧ ∀ sig, parseMethodDescriptor yX8_after.desc = some sig → 1 = sig.parameters.length := ⟨gws_in 928 (by decide +kernel) rfl, gws_in 1 (by decide +kernel) rfl, by decide +kernel, fun sig h => by
  have e : (parseMethodDescriptor yX8_after.desc).map (fun s => s.parameters.length) = some 1 := by decide +kernel
  rw [h] at e; exact (Option.some.inj e).symm⟩
theorem vk_X8_after : VK yX8_after := ⟨gws_in 927 (by decide +kernel) rfl, gws_sel 40 (by decide +kernel) rfl⟩
theorem me_X2_passAlone : Cond.code yX2_passAlone cX2_passAlone 5 none ∈ gws ∧ Cond.initialized yX2_passAlone.cls ∈ gws ∧ (yX2_passAlone.cls ≠ "java/lang/invoke/MethodHandle" ∧ yX2_passAlone.cls ≠ "java/lang/invoke/VarHandle") ∧ ∀ sig, parseMethodDescriptor yX2_passAlone.desc = some sig → 3 = sig.parameters.length := ⟨gws_in 950 (by decide +kernel) rfl, gws_in 3 (by decide +kernel) rfl, by decide +kernel, fun sig h => by
  have e : (parseMethodDescriptor yX2_passAlone.desc).map (fun s => s.parameters.length) = some 3 := by decide +kernel
  rw [h] at e; exact (Option.some.inj e).symm⟩
theorem vk_X2_passAlone : VK yX2_passAlone := ⟨gws_in 948 (by decide +kernel) rfl, gws_in 949 (by decide +kernel) rfl⟩
theorem me_X5_agrees : Cond.code yX5_agrees cX5_agrees 5 (some .boolean) ∈ gws ∧ Cond.initialized yX5_agrees.cls ∈ gws ∧ (yX5_agrees.cls ≠ "java/lang/invoke/MethodHandle" ∧ yX5_agrees.cls ≠ "java/lang/invoke/VarHandle") ∧ ∀ sig, parseMethodDescriptor yX5_agrees.desc = some sig → 3 = sig.parameters.length := ⟨gws_in 1089 (by decide +kernel) rfl, gws_in 7 (by decide +kernel) rfl, by decide +kernel, fun sig h => by
  have e : (parseMethodDescriptor yX5_agrees.desc).map (fun s => s.parameters.length) = some 3 := by decide +kernel
  rw [h] at e; exact (Option.some.inj e).symm⟩
theorem vk_X5_agrees : VK yX5_agrees := ⟨gws_in 1087 (by decide +kernel) rfl, gws_in 1088 (by decide +kernel) rfl⟩
theorem me_X5_longest : Cond.code yX5_longest cX5_longest 4 (some .int) ∈ gws ∧ Cond.initialized yX5_longest.cls ∈ gws ∧ (yX5_longest.cls ≠ "java/lang/invoke/MethodHandle" ∧ yX5_longest.cls ≠ "java/lang/invoke/VarHandle") ∧ ∀ sig, parseMethodDescriptor yX5_longest.desc = some sig → 1 = sig.parameters.length := ⟨gws_in 1084 (by decide +kernel) rfl, gws_in 7 (by decide +kernel) rfl, by decide +kernel, fun sig h => by
  have e : (parseMethodDescriptor yX5_longest.desc).map (fun s => s.parameters.length) = some 1 := by decide +kernel
  rw [h] at e; exact (Option.some.inj e).symm⟩
theorem vk_X5_longest : VK yX5_longest := ⟨gws_in 1082 (by decide +kernel) rfl, gws_in 1083 (by decide +kernel) rfl⟩
theorem me_X8_agreesFromLater : Cond.code yX8_agreesFromLater cX8_agreesFromLater 4 (some .boolean) ∈ gws ∧ Cond.initialized yX8_agreesFromLater.cls ∈ gws ∧ (yX8_agreesFromLater.cls ≠ "java/lang/invoke/MethodHandle" ∧ yX8_agreesFromLater.cls ≠ "java/lang/invoke/VarHandle") ∧ ∀ sig, parseMethodDescriptor yX8_agreesFromLater.desc = some sig → 1 = sig.parameters.length := ⟨gws_in 1080 (by decide +kernel) rfl, gws_in 1 (by decide +kernel) rfl, by decide +kernel, fun sig h => by
  have e : (parseMethodDescriptor yX8_agreesFromLater.desc).map (fun s => s.parameters.length) = some 1 := by decide +kernel
  rw [h] at e; exact (Option.some.inj e).symm⟩
theorem vk_X8_agreesFromLater : VK yX8_agreesFromLater := ⟨gws_in 1079 (by decide +kernel) rfl, gws_sel 46 (by decide +kernel) rfl⟩
theorem me_X8_agreeingHouses : Cond.code yX8_agreeingHouses cX8_agreeingHouses 3 (some .int) ∈ gws ∧ Cond.initialized yX8_agreeingHouses.cls ∈ gws ∧ (yX8_agreeingHouses.cls ≠ "java/lang/invoke/MethodHandle" ∧ yX8_agreeingHouses.cls ≠ "java/lang/invoke/VarHandle") ∧ ∀ sig, parseMethodDescriptor yX8_agreeingHouses.desc = some sig → 0 = sig.parameters.length := ⟨gws_in 1076 (by decide +kernel) rfl, gws_in 1 (by decide +kernel) rfl, by decide +kernel, fun sig h => by
  have e : (parseMethodDescriptor yX8_agreeingHouses.desc).map (fun s => s.parameters.length) = some 0 := by decide +kernel
  rw [h] at e; exact (Option.some.inj e).symm⟩
theorem vk_X8_agreeingHouses : VK yX8_agreeingHouses := ⟨gws_in 1075 (by decide +kernel) rfl, gws_sel 45 (by decide +kernel) rfl⟩
theorem me_X8_allBlisters : Cond.code yX8_allBlisters cX8_allBlisters 4 (some .int) ∈ gws ∧ Cond.initialized yX8_allBlisters.cls ∈ gws ∧ (yX8_allBlisters.cls ≠ "java/lang/invoke/MethodHandle" ∧ yX8_allBlisters.cls ≠ "java/lang/invoke/VarHandle") ∧ ∀ sig, parseMethodDescriptor yX8_allBlisters.desc = some sig → 1 = sig.parameters.length := ⟨gws_in 751 (by decide +kernel) rfl, gws_in 1 (by decide +kernel) rfl, by decide +kernel, fun sig h => by
  have e : (parseMethodDescriptor yX8_allBlisters.desc).map (fun s => s.parameters.length) = some 1 := by decide +kernel
  rw [h] at e; exact (Option.some.inj e).symm⟩
theorem vk_X8_allBlisters : VK yX8_allBlisters := ⟨gws_in 750 (by decide +kernel) rfl, gws_sel 27 (by decide +kernel) rfl⟩
theorem me_X8_allHouses : Cond.code yX8_allHouses cX8_allHouses 1 (some .int) ∈ gws ∧ Cond.initialized yX8_allHouses.cls ∈ gws ∧ (yX8_allHouses.cls ≠ "java/lang/invoke/MethodHandle" ∧ yX8_allHouses.cls ≠ "java/lang/invoke/VarHandle") ∧ ∀ sig, parseMethodDescriptor yX8_allHouses.desc = some sig → 0 = sig.parameters.length := ⟨gws_in 1093 (by decide +kernel) rfl, gws_in 1 (by decide +kernel) rfl, by decide +kernel, fun sig h => by
  have e : (parseMethodDescriptor yX8_allHouses.desc).map (fun s => s.parameters.length) = some 0 := by decide +kernel
  rw [h] at e; exact (Option.some.inj e).symm⟩
theorem vk_X8_allHouses : VK yX8_allHouses := ⟨gws_in 1092 (by decide +kernel) rfl, gws_sel 47 (by decide +kernel) rfl⟩
theorem me_X8_lodgers : Cond.code yX8_lodgers cX8_lodgers 4 (some .int) ∈ gws ∧ Cond.initialized yX8_lodgers.cls ∈ gws ∧ (yX8_lodgers.cls ≠ "java/lang/invoke/MethodHandle" ∧ yX8_lodgers.cls ≠ "java/lang/invoke/VarHandle") ∧ ∀ sig, parseMethodDescriptor yX8_lodgers.desc = some sig → 1 = sig.parameters.length := ⟨gws_in 747 (by decide +kernel) rfl, gws_in 1 (by decide +kernel) rfl, by decide +kernel, fun sig h => by
  have e : (parseMethodDescriptor yX8_lodgers.desc).map (fun s => s.parameters.length) = some 1 := by decide +kernel
  rw [h] at e; exact (Option.some.inj e).symm⟩
theorem vk_X8_lodgers : VK yX8_lodgers := ⟨gws_in 746 (by decide +kernel) rfl, gws_sel 26 (by decide +kernel) rfl⟩
theorem me_X8_needDays : Cond.code yX8_needDays cX8_needDays 2 none ∈ gws ∧ Cond.initialized yX8_needDays.cls ∈ gws ∧ (yX8_needDays.cls ≠ "java/lang/invoke/MethodHandle" ∧ yX8_needDays.cls ≠ "java/lang/invoke/VarHandle") ∧ ∀ sig, parseMethodDescriptor yX8_needDays.desc = some sig → 2 = sig.parameters.length := ⟨gws_in 923 (by decide +kernel) rfl, gws_in 1 (by decide +kernel) rfl, by decide +kernel, fun sig h => by
  have e : (parseMethodDescriptor yX8_needDays.desc).map (fun s => s.parameters.length) = some 2 := by decide +kernel
  rw [h] at e; exact (Option.some.inj e).symm⟩
theorem sk_X8_needDays : Cond.static yX8_needDays ∈ gws := gws_in 922 (by decide +kernel) rfl
theorem me_X6_isBurst : Cond.code yX6_isBurst cX6_isBurst 2 (some .boolean) ∈ gws ∧ Cond.initialized yX6_isBurst.cls ∈ gws ∧ (yX6_isBurst.cls ≠ "java/lang/invoke/MethodHandle" ∧ yX6_isBurst.cls ≠ "java/lang/invoke/VarHandle") ∧ ∀ sig, parseMethodDescriptor yX6_isBurst.desc = some sig → 1 = sig.parameters.length := ⟨gws_in 778 (by decide +kernel) rfl, gws_in 4 (by decide +kernel) rfl, by decide +kernel, fun sig h => by
  have e : (parseMethodDescriptor yX6_isBurst.desc).map (fun s => s.parameters.length) = some 1 := by decide +kernel
  rw [h] at e; exact (Option.some.inj e).symm⟩
theorem vk_X6_isBurst : VK yX6_isBurst := ⟨gws_in 776 (by decide +kernel) rfl, gws_in 777 (by decide +kernel) rfl⟩
theorem me_X8_daysTillBurst : Cond.code yX8_daysTillBurst cX8_daysTillBurst 3 (some .int) ∈ gws ∧ Cond.initialized yX8_daysTillBurst.cls ∈ gws ∧ (yX8_daysTillBurst.cls ≠ "java/lang/invoke/MethodHandle" ∧ yX8_daysTillBurst.cls ≠ "java/lang/invoke/VarHandle") ∧ ∀ sig, parseMethodDescriptor yX8_daysTillBurst.desc = some sig → 1 = sig.parameters.length := ⟨gws_in 946 (by decide +kernel) rfl, gws_in 1 (by decide +kernel) rfl, by decide +kernel, fun sig h => by
  have e : (parseMethodDescriptor yX8_daysTillBurst.desc).map (fun s => s.parameters.length) = some 1 := by decide +kernel
  rw [h] at e; exact (Option.some.inj e).symm⟩
theorem vk_X8_daysTillBurst : VK yX8_daysTillBurst := ⟨gws_in 945 (by decide +kernel) rfl, gws_sel 41 (by decide +kernel) rfl⟩
theorem me_X8_needHouse : Cond.code yX8_needHouse cX8_needHouse 2 none ∈ gws ∧ Cond.initialized yX8_needHouse.cls ∈ gws ∧ (yX8_needHouse.cls ≠ "java/lang/invoke/MethodHandle" ∧ yX8_needHouse.cls ≠ "java/lang/invoke/VarHandle") ∧ ∀ sig, parseMethodDescriptor yX8_needHouse.desc = some sig → 1 = sig.parameters.length := ⟨gws_in 830 (by decide +kernel) rfl, gws_in 1 (by decide +kernel) rfl, by decide +kernel, fun sig h => by
  have e : (parseMethodDescriptor yX8_needHouse.desc).map (fun s => s.parameters.length) = some 1 := by decide +kernel
  rw [h] at e; exact (Option.some.inj e).symm⟩
theorem vk_X8_needHouse : VK yX8_needHouse := ⟨gws_in 829 (by decide +kernel) rfl, gws_sel 33 (by decide +kernel) rfl⟩
theorem me_X8_burstsByDamps : Cond.code yX8_burstsByDamps cX8_burstsByDamps 5 (some .boolean) ∈ gws ∧ Cond.initialized yX8_burstsByDamps.cls ∈ gws ∧ (yX8_burstsByDamps.cls ≠ "java/lang/invoke/MethodHandle" ∧ yX8_burstsByDamps.cls ≠ "java/lang/invoke/VarHandle") ∧ ∀ sig, parseMethodDescriptor yX8_burstsByDamps.desc = some sig → 3 = sig.parameters.length := ⟨gws_in 1137 (by decide +kernel) rfl, gws_in 1 (by decide +kernel) rfl, by decide +kernel, fun sig h => by
  have e : (parseMethodDescriptor yX8_burstsByDamps.desc).map (fun s => s.parameters.length) = some 3 := by decide +kernel
  rw [h] at e; exact (Option.some.inj e).symm⟩
theorem vk_X8_burstsByDamps : VK yX8_burstsByDamps := ⟨gws_in 1136 (by decide +kernel) rfl, gws_sel 52 (by decide +kernel) rfl⟩
theorem me_X8_weight : Cond.code yX8_weight cX8_weight 5 (some .int) ∈ gws ∧ Cond.initialized yX8_weight.cls ∈ gws ∧ (yX8_weight.cls ≠ "java/lang/invoke/MethodHandle" ∧ yX8_weight.cls ≠ "java/lang/invoke/VarHandle") ∧ ∀ sig, parseMethodDescriptor yX8_weight.desc = some sig → 3 = sig.parameters.length := ⟨gws_in 1140 (by decide +kernel) rfl, gws_in 1 (by decide +kernel) rfl, by decide +kernel, fun sig h => by
  have e : (parseMethodDescriptor yX8_weight.desc).map (fun s => s.parameters.length) = some 3 := by decide +kernel
  rw [h] at e; exact (Option.some.inj e).symm⟩
theorem sk_X8_weight : Cond.static yX8_weight ∈ gws := gws_in 1139 (by decide +kernel) rfl
theorem me_X2_easing : Cond.code yX2_easing cX2_easing 6 (some .int) ∈ gws ∧ Cond.initialized yX2_easing.cls ∈ gws ∧ (yX2_easing.cls ≠ "java/lang/invoke/MethodHandle" ∧ yX2_easing.cls ≠ "java/lang/invoke/VarHandle") ∧ ∀ sig, parseMethodDescriptor yX2_easing.desc = some sig → 4 = sig.parameters.length := ⟨gws_in 782 (by decide +kernel) rfl, gws_in 3 (by decide +kernel) rfl, by decide +kernel, fun sig h => by
  have e : (parseMethodDescriptor yX2_easing.desc).map (fun s => s.parameters.length) = some 4 := by decide +kernel
  rw [h] at e; exact (Option.some.inj e).symm⟩
theorem vk_X2_easing : VK yX2_easing := ⟨gws_in 780 (by decide +kernel) rfl, gws_in 781 (by decide +kernel) rfl⟩
theorem me_X2_enters : Cond.code yX2_enters cX2_enters 5 (some .boolean) ∈ gws ∧ Cond.initialized yX2_enters.cls ∈ gws ∧ (yX2_enters.cls ≠ "java/lang/invoke/MethodHandle" ∧ yX2_enters.cls ≠ "java/lang/invoke/VarHandle") ∧ ∀ sig, parseMethodDescriptor yX2_enters.desc = some sig → 4 = sig.parameters.length := ⟨gws_in 774 (by decide +kernel) rfl, gws_in 3 (by decide +kernel) rfl, by decide +kernel, fun sig h => by
  have e : (parseMethodDescriptor yX2_enters.desc).map (fun s => s.parameters.length) = some 4 := by decide +kernel
  rw [h] at e; exact (Option.some.inj e).symm⟩
theorem vk_X2_enters : VK yX2_enters := ⟨gws_in 772 (by decide +kernel) rfl, gws_in 773 (by decide +kernel) rfl⟩
theorem me_X8_entersNow : Cond.code yX8_entersNow cX8_entersNow 3 (some .boolean) ∈ gws ∧ Cond.initialized yX8_entersNow.cls ∈ gws ∧ (yX8_entersNow.cls ≠ "java/lang/invoke/MethodHandle" ∧ yX8_entersNow.cls ≠ "java/lang/invoke/VarHandle") ∧ ∀ sig, parseMethodDescriptor yX8_entersNow.desc = some sig → 2 = sig.parameters.length := ⟨gws_in 877 (by decide +kernel) rfl, gws_in 1 (by decide +kernel) rfl, by decide +kernel, fun sig h => by
  have e : (parseMethodDescriptor yX8_entersNow.desc).map (fun s => s.parameters.length) = some 2 := by decide +kernel
  rw [h] at e; exact (Option.some.inj e).symm⟩
theorem vk_X8_entersNow : VK yX8_entersNow := ⟨gws_in 876 (by decide +kernel) rfl, gws_sel 37 (by decide +kernel) rfl⟩
theorem me_X8_mayMove : Cond.code yX8_mayMove cX8_mayMove 3 (some .boolean) ∈ gws ∧ Cond.initialized yX8_mayMove.cls ∈ gws ∧ (yX8_mayMove.cls ≠ "java/lang/invoke/MethodHandle" ∧ yX8_mayMove.cls ≠ "java/lang/invoke/VarHandle") ∧ ∀ sig, parseMethodDescriptor yX8_mayMove.desc = some sig → 2 = sig.parameters.length := ⟨gws_in 905 (by decide +kernel) rfl, gws_in 1 (by decide +kernel) rfl, by decide +kernel, fun sig h => by
  have e : (parseMethodDescriptor yX8_mayMove.desc).map (fun s => s.parameters.length) = some 2 := by decide +kernel
  rw [h] at e; exact (Option.some.inj e).symm⟩
theorem vk_X8_mayMove : VK yX8_mayMove := ⟨gws_in 904 (by decide +kernel) rfl, gws_sel 38 (by decide +kernel) rfl⟩
theorem me_X8_needPerson : Cond.code yX8_needPerson cX8_needPerson 2 none ∈ gws ∧ Cond.initialized yX8_needPerson.cls ∈ gws ∧ (yX8_needPerson.cls ≠ "java/lang/invoke/MethodHandle" ∧ yX8_needPerson.cls ≠ "java/lang/invoke/VarHandle") ∧ ∀ sig, parseMethodDescriptor yX8_needPerson.desc = some sig → 1 = sig.parameters.length := ⟨gws_in 856 (by decide +kernel) rfl, gws_in 1 (by decide +kernel) rfl, by decide +kernel, fun sig h => by
  have e : (parseMethodDescriptor yX8_needPerson.desc).map (fun s => s.parameters.length) = some 1 := by decide +kernel
  rw [h] at e; exact (Option.some.inj e).symm⟩
theorem vk_X8_needPerson : VK yX8_needPerson := ⟨gws_in 855 (by decide +kernel) rfl, gws_sel 36 (by decide +kernel) rfl⟩
theorem me_X8_refuseAct : Cond.code yX8_refuseAct cX8_refuseAct 1 (some .int) ∈ gws ∧ Cond.initialized yX8_refuseAct.cls ∈ gws ∧ (yX8_refuseAct.cls ≠ "java/lang/invoke/MethodHandle" ∧ yX8_refuseAct.cls ≠ "java/lang/invoke/VarHandle") ∧ ∀ sig, parseMethodDescriptor yX8_refuseAct.desc = some sig → 0 = sig.parameters.length := ⟨gws_in 354 (by decide +kernel) rfl, gws_in 1 (by decide +kernel) rfl, by decide +kernel, fun sig h => by
  have e : (parseMethodDescriptor yX8_refuseAct.desc).map (fun s => s.parameters.length) = some 0 := by decide +kernel
  rw [h] at e; exact (Option.some.inj e).symm⟩
theorem vk_X8_refuseAct : VK yX8_refuseAct := ⟨gws_in 353 (by decide +kernel) rfl, gws_sel 0 (by decide +kernel) rfl⟩
theorem me_X6_settle : Cond.code yX6_settle cX6_settle 3 none ∈ gws ∧ Cond.initialized yX6_settle.cls ∈ gws ∧ (yX6_settle.cls ≠ "java/lang/invoke/MethodHandle" ∧ yX6_settle.cls ≠ "java/lang/invoke/VarHandle") ∧ ∀ sig, parseMethodDescriptor yX6_settle.desc = some sig → 2 = sig.parameters.length := ⟨gws_in 727 (by decide +kernel) rfl, gws_in 4 (by decide +kernel) rfl, by decide +kernel, fun sig h => by
  have e : (parseMethodDescriptor yX6_settle.desc).map (fun s => s.parameters.length) = some 2 := by decide +kernel
  rw [h] at e; exact (Option.some.inj e).symm⟩
theorem vk_X6_settle : VK yX6_settle := ⟨gws_in 725 (by decide +kernel) rfl, gws_in 726 (by decide +kernel) rfl⟩
theorem me_X8_settleOrLodge : Cond.code yX8_settleOrLodge cX8_settleOrLodge 3 none ∈ gws ∧ Cond.initialized yX8_settleOrLodge.cls ∈ gws ∧ (yX8_settleOrLodge.cls ≠ "java/lang/invoke/MethodHandle" ∧ yX8_settleOrLodge.cls ≠ "java/lang/invoke/VarHandle") ∧ ∀ sig, parseMethodDescriptor yX8_settleOrLodge.desc = some sig → 2 = sig.parameters.length := ⟨gws_in 909 (by decide +kernel) rfl, gws_in 1 (by decide +kernel) rfl, by decide +kernel, fun sig h => by
  have e : (parseMethodDescriptor yX8_settleOrLodge.desc).map (fun s => s.parameters.length) = some 2 := by decide +kernel
  rw [h] at e; exact (Option.some.inj e).symm⟩
theorem vk_X8_settleOrLodge : VK yX8_settleOrLodge := ⟨gws_in 908 (by decide +kernel) rfl, gws_sel 39 (by decide +kernel) rfl⟩
theorem me_X0_row : Cond.code yX0_row cX0_row 3 (some (.object "HornHouses$State")) ∈ gws ∧ Cond.initialized yX0_row.cls ∈ gws ∧ (yX0_row.cls ≠ "java/lang/invoke/MethodHandle" ∧ yX0_row.cls ≠ "java/lang/invoke/VarHandle") ∧ ∀ sig, parseMethodDescriptor yX0_row.desc = some sig → 1 = sig.parameters.length := ⟨gws_in 362 (by decide +kernel) rfl, gws_in 6 (by decide +kernel) rfl, by decide +kernel, fun sig h => by
  have e : (parseMethodDescriptor yX0_row.desc).map (fun s => s.parameters.length) = some 1 := by decide +kernel
  rw [h] at e; exact (Option.some.inj e).symm⟩
theorem vk_X0_row : VK yX0_row := ⟨gws_in 361 (by decide +kernel) rfl, gws_sel 1 (by decide +kernel) rfl⟩
theorem me_X0_keep : Cond.code yX0_keep cX0_keep 2 none ∈ gws ∧ Cond.initialized yX0_keep.cls ∈ gws ∧ (yX0_keep.cls ≠ "java/lang/invoke/MethodHandle" ∧ yX0_keep.cls ≠ "java/lang/invoke/VarHandle") ∧ ∀ sig, parseMethodDescriptor yX0_keep.desc = some sig → 1 = sig.parameters.length := ⟨gws_in 358 (by decide +kernel) rfl, gws_in 6 (by decide +kernel) rfl, by decide +kernel, fun sig h => by
  have e : (parseMethodDescriptor yX0_keep.desc).map (fun s => s.parameters.length) = some 1 := by decide +kernel
  rw [h] at e; exact (Option.some.inj e).symm⟩
theorem vk_X0_keep : VK yX0_keep := ⟨gws_in 356 (by decide +kernel) rfl, gws_in 357 (by decide +kernel) rfl⟩
theorem me_X8_comesFirst : Cond.code yX8_comesFirst cX8_comesFirst 6 (some .boolean) ∈ gws ∧ Cond.initialized yX8_comesFirst.cls ∈ gws ∧ (yX8_comesFirst.cls ≠ "java/lang/invoke/MethodHandle" ∧ yX8_comesFirst.cls ≠ "java/lang/invoke/VarHandle") ∧ ∀ sig, parseMethodDescriptor yX8_comesFirst.desc = some sig → 3 = sig.parameters.length := ⟨gws_in 1160 (by decide +kernel) rfl, gws_in 1 (by decide +kernel) rfl, by decide +kernel, fun sig h => by
  have e : (parseMethodDescriptor yX8_comesFirst.desc).map (fun s => s.parameters.length) = some 3 := by decide +kernel
  rw [h] at e; exact (Option.some.inj e).symm⟩
theorem vk_X8_comesFirst : VK yX8_comesFirst := ⟨gws_in 1159 (by decide +kernel) rfl, gws_sel 55 (by decide +kernel) rfl⟩
theorem me_X8_housesInUse : Cond.code yX8_housesInUse cX8_housesInUse 3 (some .int) ∈ gws ∧ Cond.initialized yX8_housesInUse.cls ∈ gws ∧ (yX8_housesInUse.cls ≠ "java/lang/invoke/MethodHandle" ∧ yX8_housesInUse.cls ≠ "java/lang/invoke/VarHandle") ∧ ∀ sig, parseMethodDescriptor yX8_housesInUse.desc = some sig → 0 = sig.parameters.length := ⟨gws_in 743 (by decide +kernel) rfl, gws_in 1 (by decide +kernel) rfl, by decide +kernel, fun sig h => by
  have e : (parseMethodDescriptor yX8_housesInUse.desc).map (fun s => s.parameters.length) = some 0 := by decide +kernel
  rw [h] at e; exact (Option.some.inj e).symm⟩
theorem vk_X8_housesInUse : VK yX8_housesInUse := ⟨gws_in 742 (by decide +kernel) rfl, gws_sel 25 (by decide +kernel) rfl⟩
theorem me_X1_all : Cond.code yX1_all cX1_all 1 (some .int) ∈ gws ∧ Cond.initialized yX1_all.cls ∈ gws ∧ (yX1_all.cls ≠ "java/lang/invoke/MethodHandle" ∧ yX1_all.cls ≠ "java/lang/invoke/VarHandle") ∧ ∀ sig, parseMethodDescriptor yX1_all.desc = some sig → 0 = sig.parameters.length := ⟨gws_in 787 (by decide +kernel) rfl, gws_in 8 (by decide +kernel) rfl, by decide +kernel, fun sig h => by
  have e : (parseMethodDescriptor yX1_all.desc).map (fun s => s.parameters.length) = some 0 := by decide +kernel
  rw [h] at e; exact (Option.some.inj e).symm⟩
theorem vk_X1_all : VK yX1_all := ⟨gws_in 786 (by decide +kernel) rfl, gws_sel 31 (by decide +kernel) rfl⟩
theorem me_X1_lodge : Cond.code yX1_lodge cX1_lodge 1 (some .int) ∈ gws ∧ Cond.initialized yX1_lodge.cls ∈ gws ∧ (yX1_lodge.cls ≠ "java/lang/invoke/MethodHandle" ∧ yX1_lodge.cls ≠ "java/lang/invoke/VarHandle") ∧ ∀ sig, parseMethodDescriptor yX1_lodge.desc = some sig → 0 = sig.parameters.length := ⟨gws_in 799 (by decide +kernel) rfl, gws_in 8 (by decide +kernel) rfl, by decide +kernel, fun sig h => by
  have e : (parseMethodDescriptor yX1_lodge.desc).map (fun s => s.parameters.length) = some 0 := by decide +kernel
  rw [h] at e; exact (Option.some.inj e).symm⟩
theorem vk_X1_lodge : VK yX1_lodge := ⟨gws_in 797 (by decide +kernel) rfl, gws_in 798 (by decide +kernel) rfl⟩
theorem me_X1_lodgeWithout : Cond.code yX1_lodgeWithout cX1_lodgeWithout 2 (some .int) ∈ gws ∧ Cond.initialized yX1_lodgeWithout.cls ∈ gws ∧ (yX1_lodgeWithout.cls ≠ "java/lang/invoke/MethodHandle" ∧ yX1_lodgeWithout.cls ≠ "java/lang/invoke/VarHandle") ∧ ∀ sig, parseMethodDescriptor yX1_lodgeWithout.desc = some sig → 1 = sig.parameters.length := ⟨gws_in 795 (by decide +kernel) rfl, gws_in 8 (by decide +kernel) rfl, by decide +kernel, fun sig h => by
  have e : (parseMethodDescriptor yX1_lodgeWithout.desc).map (fun s => s.parameters.length) = some 1 := by decide +kernel
  rw [h] at e; exact (Option.some.inj e).symm⟩
theorem vk_X1_lodgeWithout : VK yX1_lodgeWithout := ⟨gws_in 793 (by decide +kernel) rfl, gws_in 794 (by decide +kernel) rfl⟩
theorem me_X1_pick : Cond.code yX1_pick cX1_pick 7 none ∈ gws ∧ Cond.initialized yX1_pick.cls ∈ gws ∧ (yX1_pick.cls ≠ "java/lang/invoke/MethodHandle" ∧ yX1_pick.cls ≠ "java/lang/invoke/VarHandle") ∧ ∀ sig, parseMethodDescriptor yX1_pick.desc = some sig → 2 = sig.parameters.length := ⟨gws_in 791 (by decide +kernel) rfl, gws_in 8 (by decide +kernel) rfl, by decide +kernel, fun sig h => by
  have e : (parseMethodDescriptor yX1_pick.desc).map (fun s => s.parameters.length) = some 2 := by decide +kernel
  rw [h] at e; exact (Option.some.inj e).symm⟩
theorem vk_X1_pick : VK yX1_pick := ⟨gws_in 790 (by decide +kernel) rfl, gws_sel 32 (by decide +kernel) rfl⟩
theorem me_X1_solve : Cond.code yX1_solve cX1_solve 7 none ∈ gws ∧ Cond.initialized yX1_solve.cls ∈ gws ∧ (yX1_solve.cls ≠ "java/lang/invoke/MethodHandle" ∧ yX1_solve.cls ≠ "java/lang/invoke/VarHandle") ∧ ∀ sig, parseMethodDescriptor yX1_solve.desc = some sig → 2 = sig.parameters.length := ⟨gws_in 768 (by decide +kernel) rfl, gws_in 8 (by decide +kernel) rfl, by decide +kernel, fun sig h => by
  have e : (parseMethodDescriptor yX1_solve.desc).map (fun s => s.parameters.length) = some 2 := by decide +kernel
  rw [h] at e; exact (Option.some.inj e).symm⟩
theorem vk_X1_solve : VK yX1_solve := ⟨gws_in 766 (by decide +kernel) rfl, gws_in 767 (by decide +kernel) rfl⟩
theorem me_X8_needed : Cond.code yX8_needed cX8_needed 3 (some .int) ∈ gws ∧ Cond.initialized yX8_needed.cls ∈ gws ∧ (yX8_needed.cls ≠ "java/lang/invoke/MethodHandle" ∧ yX8_needed.cls ≠ "java/lang/invoke/VarHandle") ∧ ∀ sig, parseMethodDescriptor yX8_needed.desc = some sig → 0 = sig.parameters.length := ⟨gws_in 764 (by decide +kernel) rfl, gws_in 1 (by decide +kernel) rfl, by decide +kernel, fun sig h => by
  have e : (parseMethodDescriptor yX8_needed.desc).map (fun s => s.parameters.length) = some 0 := by decide +kernel
  rw [h] at e; exact (Option.some.inj e).symm⟩
theorem vk_X8_needed : VK yX8_needed := ⟨gws_in 763 (by decide +kernel) rfl, gws_sel 30 (by decide +kernel) rfl⟩
theorem me_X8_tightNow : Cond.code yX8_tightNow cX8_tightNow 3 (some .int) ∈ gws ∧ Cond.initialized yX8_tightNow.cls ∈ gws ∧ (yX8_tightNow.cls ≠ "java/lang/invoke/MethodHandle" ∧ yX8_tightNow.cls ≠ "java/lang/invoke/VarHandle") ∧ ∀ sig, parseMethodDescriptor yX8_tightNow.desc = some sig → 1 = sig.parameters.length := ⟨gws_in 759 (by decide +kernel) rfl, gws_in 1 (by decide +kernel) rfl, by decide +kernel, fun sig h => by
  have e : (parseMethodDescriptor yX8_tightNow.desc).map (fun s => s.parameters.length) = some 1 := by decide +kernel
  rw [h] at e; exact (Option.some.inj e).symm⟩
theorem vk_X8_tightNow : VK yX8_tightNow := ⟨gws_in 758 (by decide +kernel) rfl, gws_sel 29 (by decide +kernel) rfl⟩
theorem me_X8_tightest : Cond.code yX8_tightest cX8_tightest 5 (some .int) ∈ gws ∧ Cond.initialized yX8_tightest.cls ∈ gws ∧ (yX8_tightest.cls ≠ "java/lang/invoke/MethodHandle" ∧ yX8_tightest.cls ≠ "java/lang/invoke/VarHandle") ∧ ∀ sig, parseMethodDescriptor yX8_tightest.desc = some sig → 0 = sig.parameters.length := ⟨gws_in 755 (by decide +kernel) rfl, gws_in 1 (by decide +kernel) rfl, by decide +kernel, fun sig h => by
  have e : (parseMethodDescriptor yX8_tightest.desc).map (fun s => s.parameters.length) = some 0 := by decide +kernel
  rw [h] at e; exact (Option.some.inj e).symm⟩
theorem vk_X8_tightest : VK yX8_tightest := ⟨gws_in 754 (by decide +kernel) rfl, gws_sel 28 (by decide +kernel) rfl⟩
theorem me_X0_many : Cond.code yX0_many cX0_many 1 (some .int) ∈ gws ∧ Cond.initialized yX0_many.cls ∈ gws ∧ (yX0_many.cls ≠ "java/lang/invoke/MethodHandle" ∧ yX0_many.cls ≠ "java/lang/invoke/VarHandle") ∧ ∀ sig, parseMethodDescriptor yX0_many.desc = some sig → 0 = sig.parameters.length := ⟨gws_in 439 (by decide +kernel) rfl, gws_in 6 (by decide +kernel) rfl, by decide +kernel, fun sig h => by
  have e : (parseMethodDescriptor yX0_many.desc).map (fun s => s.parameters.length) = some 0 := by decide +kernel
  rw [h] at e; exact (Option.some.inj e).symm⟩
theorem vk_X0_many : VK yX0_many := ⟨gws_in 437 (by decide +kernel) rfl, gws_in 438 (by decide +kernel) rfl⟩
theorem me_X3_taped : Cond.code yX3_taped cX3_taped 1 (some .int) ∈ gws ∧ Cond.initialized yX3_taped.cls ∈ gws ∧ (yX3_taped.cls ≠ "java/lang/invoke/MethodHandle" ∧ yX3_taped.cls ≠ "java/lang/invoke/VarHandle") ∧ ∀ sig, parseMethodDescriptor yX3_taped.desc = some sig → 0 = sig.parameters.length := ⟨gws_in 338 (by decide +kernel) rfl, gws_in 2 (by decide +kernel) rfl, by decide +kernel, fun sig h => by
  have e : (parseMethodDescriptor yX3_taped.desc).map (fun s => s.parameters.length) = some 0 := by decide +kernel
  rw [h] at e; exact (Option.some.inj e).symm⟩
theorem vk_X3_taped : VK yX3_taped := ⟨gws_in 336 (by decide +kernel) rfl, gws_in 337 (by decide +kernel) rfl⟩
theorem me_X5_many : Cond.code yX5_many cX5_many 1 (some .int) ∈ gws ∧ Cond.initialized yX5_many.cls ∈ gws ∧ (yX5_many.cls ≠ "java/lang/invoke/MethodHandle" ∧ yX5_many.cls ≠ "java/lang/invoke/VarHandle") ∧ ∀ sig, parseMethodDescriptor yX5_many.desc = some sig → 0 = sig.parameters.length := ⟨gws_in 803 (by decide +kernel) rfl, gws_in 7 (by decide +kernel) rfl, by decide +kernel, fun sig h => by
  have e : (parseMethodDescriptor yX5_many.desc).map (fun s => s.parameters.length) = some 0 := by decide +kernel
  rw [h] at e; exact (Option.some.inj e).symm⟩
theorem vk_X5_many : VK yX5_many := ⟨gws_in 801 (by decide +kernel) rfl, gws_in 802 (by decide +kernel) rfl⟩
theorem me_X8_draw : Cond.code yX8_draw cX8_draw 2 (some .int) ∈ gws ∧ Cond.initialized yX8_draw.cls ∈ gws ∧ (yX8_draw.cls ≠ "java/lang/invoke/MethodHandle" ∧ yX8_draw.cls ≠ "java/lang/invoke/VarHandle") ∧ ∀ sig, parseMethodDescriptor yX8_draw.desc = some sig → 2 = sig.parameters.length := ⟨gws_in 1174 (by decide +kernel) rfl, gws_in 1 (by decide +kernel) rfl, by decide +kernel, fun sig h => by
  have e : (parseMethodDescriptor yX8_draw.desc).map (fun s => s.parameters.length) = some 2 := by decide +kernel
  rw [h] at e; exact (Option.some.inj e).symm⟩
theorem sk_X8_draw : Cond.static yX8_draw ∈ gws := gws_in 1173 (by decide +kernel) rfl
theorem me_X8_drawAfter : Cond.code yX8_drawAfter cX8_drawAfter 1 (some .int) ∈ gws ∧ Cond.initialized yX8_drawAfter.cls ∈ gws ∧ (yX8_drawAfter.cls ≠ "java/lang/invoke/MethodHandle" ∧ yX8_drawAfter.cls ≠ "java/lang/invoke/VarHandle") ∧ ∀ sig, parseMethodDescriptor yX8_drawAfter.desc = some sig → 1 = sig.parameters.length := ⟨gws_in 1170 (by decide +kernel) rfl, gws_in 1 (by decide +kernel) rfl, by decide +kernel, fun sig h => by
  have e : (parseMethodDescriptor yX8_drawAfter.desc).map (fun s => s.parameters.length) = some 1 := by decide +kernel
  rw [h] at e; exact (Option.some.inj e).symm⟩
theorem sk_X8_drawAfter : Cond.static yX8_drawAfter ∈ gws := gws_in 1169 (by decide +kernel) rfl
theorem me_X3_append : Cond.code yX3_append cX3_append 3 none ∈ gws ∧ Cond.initialized yX3_append.cls ∈ gws ∧ (yX3_append.cls ≠ "java/lang/invoke/MethodHandle" ∧ yX3_append.cls ≠ "java/lang/invoke/VarHandle") ∧ ∀ sig, parseMethodDescriptor yX3_append.desc = some sig → 1 = sig.parameters.length := ⟨gws_in 342 (by decide +kernel) rfl, gws_in 2 (by decide +kernel) rfl, by decide +kernel, fun sig h => by
  have e : (parseMethodDescriptor yX3_append.desc).map (fun s => s.parameters.length) = some 1 := by decide +kernel
  rw [h] at e; exact (Option.some.inj e).symm⟩
theorem vk_X3_append : VK yX3_append := ⟨gws_in 340 (by decide +kernel) rfl, gws_in 341 (by decide +kernel) rfl⟩
theorem me_X8_fittingSizes : Cond.code yX8_fittingSizes cX8_fittingSizes 6 (some .long) ∈ gws ∧ Cond.initialized yX8_fittingSizes.cls ∈ gws ∧ (yX8_fittingSizes.cls ≠ "java/lang/invoke/MethodHandle" ∧ yX8_fittingSizes.cls ≠ "java/lang/invoke/VarHandle") ∧ ∀ sig, parseMethodDescriptor yX8_fittingSizes.desc = some sig → 2 = sig.parameters.length := ⟨gws_in 1101 (by decide +kernel) rfl, gws_in 1 (by decide +kernel) rfl, by decide +kernel, fun sig h => by
  have e : (parseMethodDescriptor yX8_fittingSizes.desc).map (fun s => s.parameters.length) = some 2 := by decide +kernel
  rw [h] at e; exact (Option.some.inj e).symm⟩
theorem vk_X8_fittingSizes : VK yX8_fittingSizes := ⟨gws_in 1100 (by decide +kernel) rfl, gws_sel 49 (by decide +kernel) rfl⟩
theorem me_X8_findFitting : Cond.code yX8_findFitting cX8_findFitting 5 none ∈ gws ∧ Cond.initialized yX8_findFitting.cls ∈ gws ∧ (yX8_findFitting.cls ≠ "java/lang/invoke/MethodHandle" ∧ yX8_findFitting.cls ≠ "java/lang/invoke/VarHandle") ∧ ∀ sig, parseMethodDescriptor yX8_findFitting.desc = some sig → 0 = sig.parameters.length := ⟨gws_in 1097 (by decide +kernel) rfl, gws_in 1 (by decide +kernel) rfl, by decide +kernel, fun sig h => by
  have e : (parseMethodDescriptor yX8_findFitting.desc).map (fun s => s.parameters.length) = some 0 := by decide +kernel
  rw [h] at e; exact (Option.some.inj e).symm⟩
theorem vk_X8_findFitting : VK yX8_findFitting := ⟨gws_in 1096 (by decide +kernel) rfl, gws_sel 48 (by decide +kernel) rfl⟩
theorem me_X5_clear : Cond.code yX5_clear cX5_clear 1 none ∈ gws ∧ Cond.initialized yX5_clear.cls ∈ gws ∧ (yX5_clear.cls ≠ "java/lang/invoke/MethodHandle" ∧ yX5_clear.cls ≠ "java/lang/invoke/VarHandle") ∧ ∀ sig, parseMethodDescriptor yX5_clear.desc = some sig → 0 = sig.parameters.length := ⟨gws_in 447 (by decide +kernel) rfl, gws_in 7 (by decide +kernel) rfl, by decide +kernel, fun sig h => by
  have e : (parseMethodDescriptor yX5_clear.desc).map (fun s => s.parameters.length) = some 0 := by decide +kernel
  rw [h] at e; exact (Option.some.inj e).symm⟩
theorem vk_X5_clear : VK yX5_clear := ⟨gws_in 445 (by decide +kernel) rfl, gws_in 446 (by decide +kernel) rfl⟩
theorem me_X8_gain : Cond.code yX8_gain cX8_gain 6 (some .int) ∈ gws ∧ Cond.initialized yX8_gain.cls ∈ gws ∧ (yX8_gain.cls ≠ "java/lang/invoke/MethodHandle" ∧ yX8_gain.cls ≠ "java/lang/invoke/VarHandle") ∧ ∀ sig, parseMethodDescriptor yX8_gain.desc = some sig → 5 = sig.parameters.length := ⟨gws_in 1156 (by decide +kernel) rfl, gws_in 1 (by decide +kernel) rfl, by decide +kernel, fun sig h => by
  have e : (parseMethodDescriptor yX8_gain.desc).map (fun s => s.parameters.length) = some 5 := by decide +kernel
  rw [h] at e; exact (Option.some.inj e).symm⟩
theorem vk_X8_gain : VK yX8_gain := ⟨gws_in 1155 (by decide +kernel) rfl, gws_sel 54 (by decide +kernel) rfl⟩
theorem me_X8_needWhat : Cond.code yX8_needWhat cX8_needWhat 2 none ∈ gws ∧ Cond.initialized yX8_needWhat.cls ∈ gws ∧ (yX8_needWhat.cls ≠ "java/lang/invoke/MethodHandle" ∧ yX8_needWhat.cls ≠ "java/lang/invoke/VarHandle") ∧ ∀ sig, parseMethodDescriptor yX8_needWhat.desc = some sig → 2 = sig.parameters.length := ⟨gws_in 919 (by decide +kernel) rfl, gws_in 1 (by decide +kernel) rfl, by decide +kernel, fun sig h => by
  have e : (parseMethodDescriptor yX8_needWhat.desc).map (fun s => s.parameters.length) = some 2 := by decide +kernel
  rw [h] at e; exact (Option.some.inj e).symm⟩
theorem sk_X8_needWhat : Cond.static yX8_needWhat ∈ gws := gws_in 918 (by decide +kernel) rfl
theorem me_X8_stays : Cond.code yX8_stays cX8_stays 7 (some .boolean) ∈ gws ∧ Cond.initialized yX8_stays.cls ∈ gws ∧ (yX8_stays.cls ≠ "java/lang/invoke/MethodHandle" ∧ yX8_stays.cls ≠ "java/lang/invoke/VarHandle") ∧ ∀ sig, parseMethodDescriptor yX8_stays.desc = some sig → 5 = sig.parameters.length := ⟨gws_in 1152 (by decide +kernel) rfl, gws_in 1 (by decide +kernel) rfl, by decide +kernel, fun sig h => by
  have e : (parseMethodDescriptor yX8_stays.desc).map (fun s => s.parameters.length) = some 5 := by decide +kernel
  rw [h] at e; exact (Option.some.inj e).symm⟩
theorem vk_X8_stays : VK yX8_stays := ⟨gws_in 1151 (by decide +kernel) rfl, gws_sel 53 (by decide +kernel) rfl⟩
theorem me_X8_nextDoor : Cond.code yX8_nextDoor cX8_nextDoor 6 (some .int) ∈ gws ∧ Cond.initialized yX8_nextDoor.cls ∈ gws ∧ (yX8_nextDoor.cls ≠ "java/lang/invoke/MethodHandle" ∧ yX8_nextDoor.cls ≠ "java/lang/invoke/VarHandle") ∧ ∀ sig, parseMethodDescriptor yX8_nextDoor.desc = some sig → 1 = sig.parameters.length := ⟨gws_in 841 (by decide +kernel) rfl, gws_in 1 (by decide +kernel) rfl, by decide +kernel, fun sig h => by
  have e : (parseMethodDescriptor yX8_nextDoor.desc).map (fun s => s.parameters.length) = some 1 := by decide +kernel
  rw [h] at e; exact (Option.some.inj e).symm⟩
theorem vk_X8_nextDoor : VK yX8_nextDoor := ⟨gws_in 840 (by decide +kernel) rfl, gws_sel 35 (by decide +kernel) rfl⟩
theorem me_X8_room : Cond.code yX8_room cX8_room 3 (some .int) ∈ gws ∧ Cond.initialized yX8_room.cls ∈ gws ∧ (yX8_room.cls ≠ "java/lang/invoke/MethodHandle" ∧ yX8_room.cls ≠ "java/lang/invoke/VarHandle") ∧ ∀ sig, parseMethodDescriptor yX8_room.desc = some sig → 1 = sig.parameters.length := ⟨gws_in 836 (by decide +kernel) rfl, gws_in 1 (by decide +kernel) rfl, by decide +kernel, fun sig h => by
  have e : (parseMethodDescriptor yX8_room.desc).map (fun s => s.parameters.length) = some 1 := by decide +kernel
  rw [h] at e; exact (Option.some.inj e).symm⟩
theorem vk_X8_room : VK yX8_room := ⟨gws_in 835 (by decide +kernel) rfl, gws_sel 34 (by decide +kernel) rfl⟩
theorem me_X0_copy : Cond.code yX0_copy cX0_copy 3 none ∈ gws ∧ Cond.initialized yX0_copy.cls ∈ gws ∧ (yX0_copy.cls ≠ "java/lang/invoke/MethodHandle" ∧ yX0_copy.cls ≠ "java/lang/invoke/VarHandle") ∧ ∀ sig, parseMethodDescriptor yX0_copy.desc = some sig → 1 = sig.parameters.length := ⟨gws_in 456 (by decide +kernel) rfl, gws_in 6 (by decide +kernel) rfl, by decide +kernel, fun sig h => by
  have e : (parseMethodDescriptor yX0_copy.desc).map (fun s => s.parameters.length) = some 1 := by decide +kernel
  rw [h] at e; exact (Option.some.inj e).symm⟩
theorem vk_X0_copy : VK yX0_copy := ⟨gws_in 454 (by decide +kernel) rfl, gws_in 455 (by decide +kernel) rfl⟩
theorem me_X5_copy : Cond.code yX5_copy cX5_copy 2 none ∈ gws ∧ Cond.initialized yX5_copy.cls ∈ gws ∧ (yX5_copy.cls ≠ "java/lang/invoke/MethodHandle" ∧ yX5_copy.cls ≠ "java/lang/invoke/VarHandle") ∧ ∀ sig, parseMethodDescriptor yX5_copy.desc = some sig → 1 = sig.parameters.length := ⟨gws_in 460 (by decide +kernel) rfl, gws_in 7 (by decide +kernel) rfl, by decide +kernel, fun sig h => by
  have e : (parseMethodDescriptor yX5_copy.desc).map (fun s => s.parameters.length) = some 1 := by decide +kernel
  rw [h] at e; exact (Option.some.inj e).symm⟩
theorem vk_X5_copy : VK yX5_copy := ⟨gws_in 458 (by decide +kernel) rfl, gws_in 459 (by decide +kernel) rfl⟩
theorem me_X8_leastSize : Cond.code yX8_leastSize cX8_leastSize 3 (some .int) ∈ gws ∧ Cond.initialized yX8_leastSize.cls ∈ gws ∧ (yX8_leastSize.cls ≠ "java/lang/invoke/MethodHandle" ∧ yX8_leastSize.cls ≠ "java/lang/invoke/VarHandle") ∧ ∀ sig, parseMethodDescriptor yX8_leastSize.desc = some sig → 1 = sig.parameters.length := ⟨gws_in 1104 (by decide +kernel) rfl, gws_in 1 (by decide +kernel) rfl, by decide +kernel, fun sig h => by
  have e : (parseMethodDescriptor yX8_leastSize.desc).map (fun s => s.parameters.length) = some 1 := by decide +kernel
  rw [h] at e; exact (Option.some.inj e).symm⟩
theorem sk_X8_leastSize : Cond.static yX8_leastSize ∈ gws := gws_in 1103 (by decide +kernel) rfl
theorem me_J13_bitCount_95d88 : Cond.code yJ13_bitCount_95d88 cJ13_bitCount_95d88 2 (some .int) ∈ gws ∧ Cond.initialized yJ13_bitCount_95d88.cls ∈ gws ∧ (yJ13_bitCount_95d88.cls ≠ "java/lang/invoke/MethodHandle" ∧ yJ13_bitCount_95d88.cls ≠ "java/lang/invoke/VarHandle") ∧ ∀ sig, parseMethodDescriptor yJ13_bitCount_95d88.desc = some sig → 1 = sig.parameters.length := ⟨gws_in 1107 (by decide +kernel) rfl, gws_in 23 (by decide +kernel) rfl, by decide +kernel, fun sig h => by
  have e : (parseMethodDescriptor yJ13_bitCount_95d88.desc).map (fun s => s.parameters.length) = some 1 := by decide +kernel
  rw [h] at e; exact (Option.some.inj e).symm⟩
theorem sk_J13_bitCount_95d88 : Cond.static yJ13_bitCount_95d88 ∈ gws := gws_in 1106 (by decide +kernel) rfl
theorem me_X8_leastBit : Cond.code yX8_leastBit cX8_leastBit 2 (some .int) ∈ gws ∧ Cond.initialized yX8_leastBit.cls ∈ gws ∧ (yX8_leastBit.cls ≠ "java/lang/invoke/MethodHandle" ∧ yX8_leastBit.cls ≠ "java/lang/invoke/VarHandle") ∧ ∀ sig, parseMethodDescriptor yX8_leastBit.desc = some sig → 1 = sig.parameters.length := ⟨gws_in 974 (by decide +kernel) rfl, gws_in 1 (by decide +kernel) rfl, by decide +kernel, fun sig h => by
  have e : (parseMethodDescriptor yX8_leastBit.desc).map (fun s => s.parameters.length) = some 1 := by decide +kernel
  rw [h] at e; exact (Option.some.inj e).symm⟩
theorem sk_X8_leastBit : Cond.static yX8_leastBit ∈ gws := gws_in 973 (by decide +kernel) rfl
theorem me_X8_leastOfMost : Cond.code yX8_leastOfMost cX8_leastOfMost 5 (some .int) ∈ gws ∧ Cond.initialized yX8_leastOfMost.cls ∈ gws ∧ (yX8_leastOfMost.cls ≠ "java/lang/invoke/MethodHandle" ∧ yX8_leastOfMost.cls ≠ "java/lang/invoke/VarHandle") ∧ ∀ sig, parseMethodDescriptor yX8_leastOfMost.desc = some sig → 2 = sig.parameters.length := ⟨gws_in 1216 (by decide +kernel) rfl, gws_in 1 (by decide +kernel) rfl, by decide +kernel, fun sig h => by
  have e : (parseMethodDescriptor yX8_leastOfMost.desc).map (fun s => s.parameters.length) = some 2 := by decide +kernel
  rw [h] at e; exact (Option.some.inj e).symm⟩
theorem sk_X8_leastOfMost : Cond.static yX8_leastOfMost ∈ gws := gws_in 1215 (by decide +kernel) rfl
theorem me_X1_tight : Cond.code yX1_tight cX1_tight 1 (some .int) ∈ gws ∧ Cond.initialized yX1_tight.cls ∈ gws ∧ (yX1_tight.cls ≠ "java/lang/invoke/MethodHandle" ∧ yX1_tight.cls ≠ "java/lang/invoke/VarHandle") ∧ ∀ sig, parseMethodDescriptor yX1_tight.desc = some sig → 0 = sig.parameters.length := ⟨gws_in 992 (by decide +kernel) rfl, gws_in 8 (by decide +kernel) rfl, by decide +kernel, fun sig h => by
  have e : (parseMethodDescriptor yX1_tight.desc).map (fun s => s.parameters.length) = some 0 := by decide +kernel
  rw [h] at e; exact (Option.some.inj e).symm⟩
theorem vk_X1_tight : VK yX1_tight := ⟨gws_in 990 (by decide +kernel) rfl, gws_in 991 (by decide +kernel) rfl⟩
theorem me_X1_houseOf : Cond.code yX1_houseOf cX1_houseOf 5 (some .int) ∈ gws ∧ Cond.initialized yX1_houseOf.cls ∈ gws ∧ (yX1_houseOf.cls ≠ "java/lang/invoke/MethodHandle" ∧ yX1_houseOf.cls ≠ "java/lang/invoke/VarHandle") ∧ ∀ sig, parseMethodDescriptor yX1_houseOf.desc = some sig → 1 = sig.parameters.length := ⟨gws_in 1003 (by decide +kernel) rfl, gws_in 8 (by decide +kernel) rfl, by decide +kernel, fun sig h => by
  have e : (parseMethodDescriptor yX1_houseOf.desc).map (fun s => s.parameters.length) = some 1 := by decide +kernel
  rw [h] at e; exact (Option.some.inj e).symm⟩
theorem vk_X1_houseOf : VK yX1_houseOf := ⟨gws_in 1001 (by decide +kernel) rfl, gws_in 1002 (by decide +kernel) rfl⟩
theorem me_X8_wornAtSill : Cond.code yX8_wornAtSill cX8_wornAtSill 5 (some .int) ∈ gws ∧ Cond.initialized yX8_wornAtSill.cls ∈ gws ∧ (yX8_wornAtSill.cls ≠ "java/lang/invoke/MethodHandle" ∧ yX8_wornAtSill.cls ≠ "java/lang/invoke/VarHandle") ∧ ∀ sig, parseMethodDescriptor yX8_wornAtSill.desc = some sig → 3 = sig.parameters.length := ⟨gws_in 1125 (by decide +kernel) rfl, gws_in 1 (by decide +kernel) rfl, by decide +kernel, fun sig h => by
  have e : (parseMethodDescriptor yX8_wornAtSill.desc).map (fun s => s.parameters.length) = some 3 := by decide +kernel
  rw [h] at e; exact (Option.some.inj e).symm⟩
theorem vk_X8_wornAtSill : VK yX8_wornAtSill := ⟨gws_in 1124 (by decide +kernel) rfl, gws_sel 51 (by decide +kernel) rfl⟩
theorem me_X8_unlikeWorn : Cond.code yX8_unlikeWorn cX8_unlikeWorn 11 (some .int) ∈ gws ∧ Cond.initialized yX8_unlikeWorn.cls ∈ gws ∧ (yX8_unlikeWorn.cls ≠ "java/lang/invoke/MethodHandle" ∧ yX8_unlikeWorn.cls ≠ "java/lang/invoke/VarHandle") ∧ ∀ sig, parseMethodDescriptor yX8_unlikeWorn.desc = some sig → 1 = sig.parameters.length := ⟨gws_in 1121 (by decide +kernel) rfl, gws_in 1 (by decide +kernel) rfl, by decide +kernel, fun sig h => by
  have e : (parseMethodDescriptor yX8_unlikeWorn.desc).map (fun s => s.parameters.length) = some 1 := by decide +kernel
  rw [h] at e; exact (Option.some.inj e).symm⟩
theorem vk_X8_unlikeWorn : VK yX8_unlikeWorn := ⟨gws_in 1120 (by decide +kernel) rfl, gws_sel 50 (by decide +kernel) rfl⟩
theorem me_X7_ringSteps : Cond.code yX7_ringSteps cX7_ringSteps 5 (some .int) ∈ gws ∧ Cond.initialized yX7_ringSteps.cls ∈ gws ∧ (yX7_ringSteps.cls ≠ "java/lang/invoke/MethodHandle" ∧ yX7_ringSteps.cls ≠ "java/lang/invoke/VarHandle") ∧ ∀ sig, parseMethodDescriptor yX7_ringSteps.desc = some sig → 2 = sig.parameters.length := ⟨gws_in 1031 (by decide +kernel) rfl, gws_in 9 (by decide +kernel) rfl, by decide +kernel, fun sig h => by
  have e : (parseMethodDescriptor yX7_ringSteps.desc).map (fun s => s.parameters.length) = some 2 := by decide +kernel
  rw [h] at e; exact (Option.some.inj e).symm⟩
theorem vk_X7_ringSteps : VK yX7_ringSteps := ⟨gws_in 1030 (by decide +kernel) rfl, gws_sel 44 (by decide +kernel) rfl⟩
theorem me_X7_closeRings : Cond.code yX7_closeRings cX7_closeRings 7 (some .int) ∈ gws ∧ Cond.initialized yX7_closeRings.cls ∈ gws ∧ (yX7_closeRings.cls ≠ "java/lang/invoke/MethodHandle" ∧ yX7_closeRings.cls ≠ "java/lang/invoke/VarHandle") ∧ ∀ sig, parseMethodDescriptor yX7_closeRings.desc = some sig → 3 = sig.parameters.length := ⟨gws_in 1027 (by decide +kernel) rfl, gws_in 9 (by decide +kernel) rfl, by decide +kernel, fun sig h => by
  have e : (parseMethodDescriptor yX7_closeRings.desc).map (fun s => s.parameters.length) = some 3 := by decide +kernel
  rw [h] at e; exact (Option.some.inj e).symm⟩
theorem vk_X7_closeRings : VK yX7_closeRings := ⟨gws_in 1026 (by decide +kernel) rfl, gws_sel 43 (by decide +kernel) rfl⟩
theorem me_X7_wanted : Cond.code yX7_wanted cX7_wanted 9 (some .int) ∈ gws ∧ Cond.initialized yX7_wanted.cls ∈ gws ∧ (yX7_wanted.cls ≠ "java/lang/invoke/MethodHandle" ∧ yX7_wanted.cls ≠ "java/lang/invoke/VarHandle") ∧ ∀ sig, parseMethodDescriptor yX7_wanted.desc = some sig → 4 = sig.parameters.length := ⟨gws_in 1022 (by decide +kernel) rfl, gws_in 9 (by decide +kernel) rfl, by decide +kernel, fun sig h => by
  have e : (parseMethodDescriptor yX7_wanted.desc).map (fun s => s.parameters.length) = some 4 := by decide +kernel
  rw [h] at e; exact (Option.some.inj e).symm⟩
theorem sk_X7_wanted : Cond.static yX7_wanted ∈ gws := gws_in 1021 (by decide +kernel) rfl
theorem me_X7_wish : Cond.code yX7_wish cX7_wish 5 none ∈ gws ∧ Cond.initialized yX7_wish.cls ∈ gws ∧ (yX7_wish.cls ≠ "java/lang/invoke/MethodHandle" ∧ yX7_wish.cls ≠ "java/lang/invoke/VarHandle") ∧ ∀ sig, parseMethodDescriptor yX7_wish.desc = some sig → 3 = sig.parameters.length := ⟨gws_in 1019 (by decide +kernel) rfl, gws_in 9 (by decide +kernel) rfl, by decide +kernel, fun sig h => by
  have e : (parseMethodDescriptor yX7_wish.desc).map (fun s => s.parameters.length) = some 3 := by decide +kernel
  rw [h] at e; exact (Option.some.inj e).symm⟩
theorem vk_X7_wish : VK yX7_wish := ⟨gws_in 1018 (by decide +kernel) rfl, gws_sel 42 (by decide +kernel) rfl⟩
theorem me_X7_solve : Cond.code yX7_solve cX7_solve 5 none ∈ gws ∧ Cond.initialized yX7_solve.cls ∈ gws ∧ (yX7_solve.cls ≠ "java/lang/invoke/MethodHandle" ∧ yX7_solve.cls ≠ "java/lang/invoke/VarHandle") ∧ ∀ sig, parseMethodDescriptor yX7_solve.desc = some sig → 2 = sig.parameters.length := ⟨gws_in 1014 (by decide +kernel) rfl, gws_in 9 (by decide +kernel) rfl, by decide +kernel, fun sig h => by
  have e : (parseMethodDescriptor yX7_solve.desc).map (fun s => s.parameters.length) = some 2 := by decide +kernel
  rw [h] at e; exact (Option.some.inj e).symm⟩
theorem vk_X7_solve : VK yX7_solve := ⟨gws_in 1012 (by decide +kernel) rfl, gws_in 1013 (by decide +kernel) rfl⟩
theorem me_X5_add : Cond.code yX5_add cX5_add 4 none ∈ gws ∧ Cond.initialized yX5_add.cls ∈ gws ∧ (yX5_add.cls ≠ "java/lang/invoke/MethodHandle" ∧ yX5_add.cls ≠ "java/lang/invoke/VarHandle") ∧ ∀ sig, parseMethodDescriptor yX5_add.desc = some sig → 3 = sig.parameters.length := ⟨gws_in 1065 (by decide +kernel) rfl, gws_in 7 (by decide +kernel) rfl, by decide +kernel, fun sig h => by
  have e : (parseMethodDescriptor yX5_add.desc).map (fun s => s.parameters.length) = some 3 := by decide +kernel
  rw [h] at e; exact (Option.some.inj e).symm⟩
theorem vk_X5_add : VK yX5_add := ⟨gws_in 1063 (by decide +kernel) rfl, gws_in 1064 (by decide +kernel) rfl⟩
theorem me_X0_clear : Cond.code yX0_clear cX0_clear 1 none ∈ gws ∧ Cond.initialized yX0_clear.cls ∈ gws ∧ (yX0_clear.cls ≠ "java/lang/invoke/MethodHandle" ∧ yX0_clear.cls ≠ "java/lang/invoke/VarHandle") ∧ ∀ sig, parseMethodDescriptor yX0_clear.desc = some sig → 0 = sig.parameters.length := ⟨gws_in 731 (by decide +kernel) rfl, gws_in 6 (by decide +kernel) rfl, by decide +kernel, fun sig h => by
  have e : (parseMethodDescriptor yX0_clear.desc).map (fun s => s.parameters.length) = some 0 := by decide +kernel
  rw [h] at e; exact (Option.some.inj e).symm⟩
theorem vk_X0_clear : VK yX0_clear := ⟨gws_in 729 (by decide +kernel) rfl, gws_in 730 (by decide +kernel) rfl⟩
theorem me_X2_begin : Cond.code yX2_begin cX2_begin 3 none ∈ gws ∧ Cond.initialized yX2_begin.cls ∈ gws ∧ (yX2_begin.cls ≠ "java/lang/invoke/MethodHandle" ∧ yX2_begin.cls ≠ "java/lang/invoke/VarHandle") ∧ ∀ sig, parseMethodDescriptor yX2_begin.desc = some sig → 1 = sig.parameters.length := ⟨gws_in 721 (by decide +kernel) rfl, gws_in 3 (by decide +kernel) rfl, by decide +kernel, fun sig h => by
  have e : (parseMethodDescriptor yX2_begin.desc).map (fun s => s.parameters.length) = some 1 := by decide +kernel
  rw [h] at e; exact (Option.some.inj e).symm⟩
theorem vk_X2_begin : VK yX2_begin := ⟨gws_in 719 (by decide +kernel) rfl, gws_in 720 (by decide +kernel) rfl⟩
theorem me_X3_place : Cond.code yX3_place cX3_place 1 (some .int) ∈ gws ∧ Cond.initialized yX3_place.cls ∈ gws ∧ (yX3_place.cls ≠ "java/lang/invoke/MethodHandle" ∧ yX3_place.cls ≠ "java/lang/invoke/VarHandle") ∧ ∀ sig, parseMethodDescriptor yX3_place.desc = some sig → 0 = sig.parameters.length := ⟨gws_in 717 (by decide +kernel) rfl, gws_in 2 (by decide +kernel) rfl, by decide +kernel, fun sig h => by
  have e : (parseMethodDescriptor yX3_place.desc).map (fun s => s.parameters.length) = some 0 := by decide +kernel
  rw [h] at e; exact (Option.some.inj e).symm⟩
theorem vk_X3_place : VK yX3_place := ⟨gws_in 715 (by decide +kernel) rfl, gws_in 716 (by decide +kernel) rfl⟩
theorem me_X2_clear : Cond.code yX2_clear cX2_clear 1 none ∈ gws ∧ Cond.initialized yX2_clear.cls ∈ gws ∧ (yX2_clear.cls ≠ "java/lang/invoke/MethodHandle" ∧ yX2_clear.cls ≠ "java/lang/invoke/VarHandle") ∧ ∀ sig, parseMethodDescriptor yX2_clear.desc = some sig → 0 = sig.parameters.length := ⟨gws_in 548 (by decide +kernel) rfl, gws_in 3 (by decide +kernel) rfl, by decide +kernel, fun sig h => by
  have e : (parseMethodDescriptor yX2_clear.desc).map (fun s => s.parameters.length) = some 0 := by decide +kernel
  rw [h] at e; exact (Option.some.inj e).symm⟩
theorem vk_X2_clear : VK yX2_clear := ⟨gws_in 546 (by decide +kernel) rfl, gws_in 547 (by decide +kernel) rfl⟩
theorem me_X3_kindAt : Cond.code yX3_kindAt cX3_kindAt 3 (some .int) ∈ gws ∧ Cond.initialized yX3_kindAt.cls ∈ gws ∧ (yX3_kindAt.cls ≠ "java/lang/invoke/MethodHandle" ∧ yX3_kindAt.cls ≠ "java/lang/invoke/VarHandle") ∧ ∀ sig, parseMethodDescriptor yX3_kindAt.desc = some sig → 1 = sig.parameters.length := ⟨gws_in 556 (by decide +kernel) rfl, gws_in 2 (by decide +kernel) rfl, by decide +kernel, fun sig h => by
  have e : (parseMethodDescriptor yX3_kindAt.desc).map (fun s => s.parameters.length) = some 1 := by decide +kernel
  rw [h] at e; exact (Option.some.inj e).symm⟩
theorem vk_X3_kindAt : VK yX3_kindAt := ⟨gws_in 555 (by decide +kernel) rfl, gws_sel 7 (by decide +kernel) rfl⟩
theorem me_X3_advance : Cond.code yX3_advance cX3_advance 2 none ∈ gws ∧ Cond.initialized yX3_advance.cls ∈ gws ∧ (yX3_advance.cls ≠ "java/lang/invoke/MethodHandle" ∧ yX3_advance.cls ≠ "java/lang/invoke/VarHandle") ∧ ∀ sig, parseMethodDescriptor yX3_advance.desc = some sig → 0 = sig.parameters.length := ⟨gws_in 552 (by decide +kernel) rfl, gws_in 2 (by decide +kernel) rfl, by decide +kernel, fun sig h => by
  have e : (parseMethodDescriptor yX3_advance.desc).map (fun s => s.parameters.length) = some 0 := by decide +kernel
  rw [h] at e; exact (Option.some.inj e).symm⟩
theorem vk_X3_advance : VK yX3_advance := ⟨gws_in 551 (by decide +kernel) rfl, gws_sel 6 (by decide +kernel) rfl⟩
theorem me_X3_fail : Cond.code yX3_fail cX3_fail 2 none ∈ gws ∧ Cond.initialized yX3_fail.cls ∈ gws ∧ (yX3_fail.cls ≠ "java/lang/invoke/MethodHandle" ∧ yX3_fail.cls ≠ "java/lang/invoke/VarHandle") ∧ ∀ sig, parseMethodDescriptor yX3_fail.desc = some sig → 1 = sig.parameters.length := ⟨gws_in 621 (by decide +kernel) rfl, gws_in 2 (by decide +kernel) rfl, by decide +kernel, fun sig h => by
  have e : (parseMethodDescriptor yX3_fail.desc).map (fun s => s.parameters.length) = some 1 := by decide +kernel
  rw [h] at e; exact (Option.some.inj e).symm⟩
theorem vk_X3_fail : VK yX3_fail := ⟨gws_in 620 (by decide +kernel) rfl, gws_sel 11 (by decide +kernel) rfl⟩
theorem me_X3_takeNumber : Cond.code yX3_takeNumber cX3_takeNumber 4 (some .int) ∈ gws ∧ Cond.initialized yX3_takeNumber.cls ∈ gws ∧ (yX3_takeNumber.cls ≠ "java/lang/invoke/MethodHandle" ∧ yX3_takeNumber.cls ≠ "java/lang/invoke/VarHandle") ∧ ∀ sig, parseMethodDescriptor yX3_takeNumber.desc = some sig → 2 = sig.parameters.length := ⟨gws_in 625 (by decide +kernel) rfl, gws_in 2 (by decide +kernel) rfl, by decide +kernel, fun sig h => by
  have e : (parseMethodDescriptor yX3_takeNumber.desc).map (fun s => s.parameters.length) = some 2 := by decide +kernel
  rw [h] at e; exact (Option.some.inj e).symm⟩
theorem vk_X3_takeNumber : VK yX3_takeNumber := ⟨gws_in 624 (by decide +kernel) rfl, gws_sel 12 (by decide +kernel) rfl⟩
theorem me_X3_dampLine : Cond.code yX3_dampLine cX3_dampLine 3 none ∈ gws ∧ Cond.initialized yX3_dampLine.cls ∈ gws ∧ (yX3_dampLine.cls ≠ "java/lang/invoke/MethodHandle" ∧ yX3_dampLine.cls ≠ "java/lang/invoke/VarHandle") ∧ ∀ sig, parseMethodDescriptor yX3_dampLine.desc = some sig → 1 = sig.parameters.length := ⟨gws_in 644 (by decide +kernel) rfl, gws_in 2 (by decide +kernel) rfl, by decide +kernel, fun sig h => by
  have e : (parseMethodDescriptor yX3_dampLine.desc).map (fun s => s.parameters.length) = some 1 := by decide +kernel
  rw [h] at e; exact (Option.some.inj e).symm⟩
theorem vk_X3_dampLine : VK yX3_dampLine := ⟨gws_in 643 (by decide +kernel) rfl, gws_sel 15 (by decide +kernel) rfl⟩
theorem me_X3_houseLine : Cond.code yX3_houseLine cX3_houseLine 2 none ∈ gws ∧ Cond.initialized yX3_houseLine.cls ∈ gws ∧ (yX3_houseLine.cls ≠ "java/lang/invoke/MethodHandle" ∧ yX3_houseLine.cls ≠ "java/lang/invoke/VarHandle") ∧ ∀ sig, parseMethodDescriptor yX3_houseLine.desc = some sig → 1 = sig.parameters.length := ⟨gws_in 617 (by decide +kernel) rfl, gws_in 2 (by decide +kernel) rfl, by decide +kernel, fun sig h => by
  have e : (parseMethodDescriptor yX3_houseLine.desc).map (fun s => s.parameters.length) = some 1 := by decide +kernel
  rw [h] at e; exact (Option.some.inj e).symm⟩
theorem vk_X3_houseLine : VK yX3_houseLine := ⟨gws_in 616 (by decide +kernel) rfl, gws_sel 10 (by decide +kernel) rfl⟩
theorem me_X3_isWord : Cond.code yX3_isWord cX3_isWord 4 (some .boolean) ∈ gws ∧ Cond.initialized yX3_isWord.cls ∈ gws ∧ (yX3_isWord.cls ≠ "java/lang/invoke/MethodHandle" ∧ yX3_isWord.cls ≠ "java/lang/invoke/VarHandle") ∧ ∀ sig, parseMethodDescriptor yX3_isWord.desc = some sig → 1 = sig.parameters.length := ⟨gws_in 565 (by decide +kernel) rfl, gws_in 2 (by decide +kernel) rfl, by decide +kernel, fun sig h => by
  have e : (parseMethodDescriptor yX3_isWord.desc).map (fun s => s.parameters.length) = some 1 := by decide +kernel
  rw [h] at e; exact (Option.some.inj e).symm⟩
theorem vk_X3_isWord : VK yX3_isWord := ⟨gws_in 564 (by decide +kernel) rfl, gws_sel 9 (by decide +kernel) rfl⟩
theorem me_X2_hasSomebodyAtFirst : Cond.code yX2_hasSomebodyAtFirst cX2_hasSomebodyAtFirst 3 (some .boolean) ∈ gws ∧ Cond.initialized yX2_hasSomebodyAtFirst.cls ∈ gws ∧ (yX2_hasSomebodyAtFirst.cls ≠ "java/lang/invoke/MethodHandle" ∧ yX2_hasSomebodyAtFirst.cls ≠ "java/lang/invoke/VarHandle") ∧ ∀ sig, parseMethodDescriptor yX2_hasSomebodyAtFirst.desc = some sig → 1 = sig.parameters.length := ⟨gws_in 639 (by decide +kernel) rfl, gws_in 3 (by decide +kernel) rfl, by decide +kernel, fun sig h => by
  have e : (parseMethodDescriptor yX2_hasSomebodyAtFirst.desc).map (fun s => s.parameters.length) = some 1 := by decide +kernel
  rw [h] at e; exact (Option.some.inj e).symm⟩
theorem vk_X2_hasSomebodyAtFirst : VK yX2_hasSomebodyAtFirst := ⟨gws_in 637 (by decide +kernel) rfl, gws_in 638 (by decide +kernel) rfl⟩
theorem me_X3_takeHome : Cond.code yX3_takeHome cX3_takeHome 3 (some .int) ∈ gws ∧ Cond.initialized yX3_takeHome.cls ∈ gws ∧ (yX3_takeHome.cls ≠ "java/lang/invoke/MethodHandle" ∧ yX3_takeHome.cls ≠ "java/lang/invoke/VarHandle") ∧ ∀ sig, parseMethodDescriptor yX3_takeHome.desc = some sig → 1 = sig.parameters.length := ⟨gws_in 635 (by decide +kernel) rfl, gws_in 2 (by decide +kernel) rfl, by decide +kernel, fun sig h => by
  have e : (parseMethodDescriptor yX3_takeHome.desc).map (fun s => s.parameters.length) = some 1 := by decide +kernel
  rw [h] at e; exact (Option.some.inj e).symm⟩
theorem vk_X3_takeHome : VK yX3_takeHome := ⟨gws_in 634 (by decide +kernel) rfl, gws_sel 14 (by decide +kernel) rfl⟩
theorem me_X3_personLine : Cond.code yX3_personLine cX3_personLine 2 none ∈ gws ∧ Cond.initialized yX3_personLine.cls ∈ gws ∧ (yX3_personLine.cls ≠ "java/lang/invoke/MethodHandle" ∧ yX3_personLine.cls ≠ "java/lang/invoke/VarHandle") ∧ ∀ sig, parseMethodDescriptor yX3_personLine.desc = some sig → 1 = sig.parameters.length := ⟨gws_in 630 (by decide +kernel) rfl, gws_in 2 (by decide +kernel) rfl, by decide +kernel, fun sig h => by
  have e : (parseMethodDescriptor yX3_personLine.desc).map (fun s => s.parameters.length) = some 1 := by decide +kernel
  rw [h] at e; exact (Option.some.inj e).symm⟩
theorem vk_X3_personLine : VK yX3_personLine := ⟨gws_in 629 (by decide +kernel) rfl, gws_sel 13 (by decide +kernel) rfl⟩
theorem me_X3_emit : Cond.code yX3_emit cX3_emit 2 none ∈ gws ∧ Cond.initialized yX3_emit.cls ∈ gws ∧ (yX3_emit.cls ≠ "java/lang/invoke/MethodHandle" ∧ yX3_emit.cls ≠ "java/lang/invoke/VarHandle") ∧ ∀ sig, parseMethodDescriptor yX3_emit.desc = some sig → 1 = sig.parameters.length := ⟨gws_in 675 (by decide +kernel) rfl, gws_in 2 (by decide +kernel) rfl, by decide +kernel, fun sig h => by
  have e : (parseMethodDescriptor yX3_emit.desc).map (fun s => s.parameters.length) = some 1 := by decide +kernel
  rw [h] at e; exact (Option.some.inj e).symm⟩
theorem vk_X3_emit : VK yX3_emit := ⟨gws_in 674 (by decide +kernel) rfl, gws_sel 21 (by decide +kernel) rfl⟩
theorem me_X3_isSign : Cond.code yX3_isSign cX3_isSign 2 (some .boolean) ∈ gws ∧ Cond.initialized yX3_isSign.cls ∈ gws ∧ (yX3_isSign.cls ≠ "java/lang/invoke/MethodHandle" ∧ yX3_isSign.cls ≠ "java/lang/invoke/VarHandle") ∧ ∀ sig, parseMethodDescriptor yX3_isSign.desc = some sig → 1 = sig.parameters.length := ⟨gws_in 657 (by decide +kernel) rfl, gws_in 2 (by decide +kernel) rfl, by decide +kernel, fun sig h => by
  have e : (parseMethodDescriptor yX3_isSign.desc).map (fun s => s.parameters.length) = some 1 := by decide +kernel
  rw [h] at e; exact (Option.some.inj e).symm⟩
theorem vk_X3_isSign : VK yX3_isSign := ⟨gws_in 656 (by decide +kernel) rfl, gws_sel 18 (by decide +kernel) rfl⟩
theorem me_X3_joinAt : Cond.code yX3_joinAt cX3_joinAt 2 (some .int) ∈ gws ∧ Cond.initialized yX3_joinAt.cls ∈ gws ∧ (yX3_joinAt.cls ≠ "java/lang/invoke/MethodHandle" ∧ yX3_joinAt.cls ≠ "java/lang/invoke/VarHandle") ∧ ∀ sig, parseMethodDescriptor yX3_joinAt.desc = some sig → 1 = sig.parameters.length := ⟨gws_in 684 (by decide +kernel) rfl, gws_in 2 (by decide +kernel) rfl, by decide +kernel, fun sig h => by
  have e : (parseMethodDescriptor yX3_joinAt.desc).map (fun s => s.parameters.length) = some 1 := by decide +kernel
  rw [h] at e; exact (Option.some.inj e).symm⟩
theorem vk_X3_joinAt : VK yX3_joinAt := ⟨gws_in 683 (by decide +kernel) rfl, gws_sel 23 (by decide +kernel) rfl⟩
theorem me_X3_takeNots : Cond.code yX3_takeNots cX3_takeNots 2 (some .int) ∈ gws ∧ Cond.initialized yX3_takeNots.cls ∈ gws ∧ (yX3_takeNots.cls ≠ "java/lang/invoke/MethodHandle" ∧ yX3_takeNots.cls ≠ "java/lang/invoke/VarHandle") ∧ ∀ sig, parseMethodDescriptor yX3_takeNots.desc = some sig → 0 = sig.parameters.length := ⟨gws_in 679 (by decide +kernel) rfl, gws_in 2 (by decide +kernel) rfl, by decide +kernel, fun sig h => by
  have e : (parseMethodDescriptor yX3_takeNots.desc).map (fun s => s.parameters.length) = some 0 := by decide +kernel
  rw [h] at e; exact (Option.some.inj e).symm⟩
theorem vk_X3_takeNots : VK yX3_takeNots := ⟨gws_in 678 (by decide +kernel) rfl, gws_sel 22 (by decide +kernel) rfl⟩
theorem me_X3_factHere : Cond.code yX3_factHere cX3_factHere 1 (some .int) ∈ gws ∧ Cond.initialized yX3_factHere.cls ∈ gws ∧ (yX3_factHere.cls ≠ "java/lang/invoke/MethodHandle" ∧ yX3_factHere.cls ≠ "java/lang/invoke/VarHandle") ∧ ∀ sig, parseMethodDescriptor yX3_factHere.desc = some sig → 0 = sig.parameters.length := ⟨gws_in 665 (by decide +kernel) rfl, gws_in 2 (by decide +kernel) rfl, by decide +kernel, fun sig h => by
  have e : (parseMethodDescriptor yX3_factHere.desc).map (fun s => s.parameters.length) = some 0 := by decide +kernel
  rw [h] at e; exact (Option.some.inj e).symm⟩
theorem vk_X3_factHere : VK yX3_factHere := ⟨gws_in 664 (by decide +kernel) rfl, gws_sel 20 (by decide +kernel) rfl⟩
theorem me_X3_takeJoined : Cond.code yX3_takeJoined cX3_takeJoined 7 none ∈ gws ∧ Cond.initialized yX3_takeJoined.cls ∈ gws ∧ (yX3_takeJoined.cls ≠ "java/lang/invoke/MethodHandle" ∧ yX3_takeJoined.cls ≠ "java/lang/invoke/VarHandle") ∧ ∀ sig, parseMethodDescriptor yX3_takeJoined.desc = some sig → 2 = sig.parameters.length := ⟨gws_in 653 (by decide +kernel) rfl, gws_in 2 (by decide +kernel) rfl, by decide +kernel, fun sig h => by
  have e : (parseMethodDescriptor yX3_takeJoined.desc).map (fun s => s.parameters.length) = some 2 := by decide +kernel
  rw [h] at e; exact (Option.some.inj e).symm⟩
theorem vk_X3_takeJoined : VK yX3_takeJoined := ⟨gws_in 652 (by decide +kernel) rfl, gws_sel 17 (by decide +kernel) rfl⟩
theorem me_X3_takePart : Cond.code yX3_takePart cX3_takePart 3 none ∈ gws ∧ Cond.initialized yX3_takePart.cls ∈ gws ∧ (yX3_takePart.cls ≠ "java/lang/invoke/MethodHandle" ∧ yX3_takePart.cls ≠ "java/lang/invoke/VarHandle") ∧ ∀ sig, parseMethodDescriptor yX3_takePart.desc = some sig → 1 = sig.parameters.length := ⟨gws_in 661 (by decide +kernel) rfl, gws_in 2 (by decide +kernel) rfl, by decide +kernel, fun sig h => by
  have e : (parseMethodDescriptor yX3_takePart.desc).map (fun s => s.parameters.length) = some 1 := by decide +kernel
  rw [h] at e; exact (Option.some.inj e).symm⟩
theorem vk_X3_takePart : VK yX3_takePart := ⟨gws_in 660 (by decide +kernel) rfl, gws_sel 19 (by decide +kernel) rfl⟩
theorem me_X4_init : Cond.code yX4_init cX4_init 2 none ∈ gws ∧ Cond.initialized yX4_init.cls ∈ gws ∧ (yX4_init.cls ≠ "java/lang/invoke/MethodHandle" ∧ yX4_init.cls ≠ "java/lang/invoke/VarHandle") ∧ ∀ sig, parseMethodDescriptor yX4_init.desc = some sig → 1 = sig.parameters.length := ⟨gws_in 703 (by decide +kernel) rfl, gws_in 20 (by decide +kernel) rfl, by decide +kernel, fun sig h => by
  have e : (parseMethodDescriptor yX4_init.desc).map (fun s => s.parameters.length) = some 1 := by decide +kernel
  rw [h] at e; exact (Option.some.inj e).symm⟩
theorem ik_X4_init : Cond.instanceMethod yX4_init ∈ gws := gws_in 702 (by decide +kernel) rfl
theorem me_J7_copyOf_59c91 : Cond.code yJ7_copyOf_59c91 cJ7_copyOf_59c91 3 (some (.array .int)) ∈ gws ∧ Cond.initialized yJ7_copyOf_59c91.cls ∈ gws ∧ (yJ7_copyOf_59c91.cls ≠ "java/lang/invoke/MethodHandle" ∧ yJ7_copyOf_59c91.cls ≠ "java/lang/invoke/VarHandle") ∧ ∀ sig, parseMethodDescriptor yJ7_copyOf_59c91.desc = some sig → 2 = sig.parameters.length := ⟨gws_in 691 (by decide +kernel) rfl, gws_in 5 (by decide +kernel) rfl, by decide +kernel, fun sig h => by
  have e : (parseMethodDescriptor yJ7_copyOf_59c91.desc).map (fun s => s.parameters.length) = some 2 := by decide +kernel
  rw [h] at e; exact (Option.some.inj e).symm⟩
theorem sk_J7_copyOf_59c91 : Cond.static yJ7_copyOf_59c91 ∈ gws := gws_in 690 (by decide +kernel) rfl
theorem me_X3_ruleLine : Cond.code yX3_ruleLine cX3_ruleLine 4 none ∈ gws ∧ Cond.initialized yX3_ruleLine.cls ∈ gws ∧ (yX3_ruleLine.cls ≠ "java/lang/invoke/MethodHandle" ∧ yX3_ruleLine.cls ≠ "java/lang/invoke/VarHandle") ∧ ∀ sig, parseMethodDescriptor yX3_ruleLine.desc = some sig → 2 = sig.parameters.length := ⟨gws_in 649 (by decide +kernel) rfl, gws_in 2 (by decide +kernel) rfl, by decide +kernel, fun sig h => by
  have e : (parseMethodDescriptor yX3_ruleLine.desc).map (fun s => s.parameters.length) = some 2 := by decide +kernel
  rw [h] at e; exact (Option.some.inj e).symm⟩
theorem vk_X3_ruleLine : VK yX3_ruleLine := ⟨gws_in 648 (by decide +kernel) rfl, gws_sel 16 (by decide +kernel) rfl⟩
theorem me_X3_line : Cond.code yX3_line cX3_line 2 none ∈ gws ∧ Cond.initialized yX3_line.cls ∈ gws ∧ (yX3_line.cls ≠ "java/lang/invoke/MethodHandle" ∧ yX3_line.cls ≠ "java/lang/invoke/VarHandle") ∧ ∀ sig, parseMethodDescriptor yX3_line.desc = some sig → 1 = sig.parameters.length := ⟨gws_in 560 (by decide +kernel) rfl, gws_in 2 (by decide +kernel) rfl, by decide +kernel, fun sig h => by
  have e : (parseMethodDescriptor yX3_line.desc).map (fun s => s.parameters.length) = some 1 := by decide +kernel
  rw [h] at e; exact (Option.some.inj e).symm⟩
theorem vk_X3_line : VK yX3_line := ⟨gws_in 559 (by decide +kernel) rfl, gws_sel 8 (by decide +kernel) rfl⟩
theorem me_X3_takeSign : Cond.code yX3_takeSign cX3_takeSign 2 none ∈ gws ∧ Cond.initialized yX3_takeSign.cls ∈ gws ∧ (yX3_takeSign.cls ≠ "java/lang/invoke/MethodHandle" ∧ yX3_takeSign.cls ≠ "java/lang/invoke/VarHandle") ∧ ∀ sig, parseMethodDescriptor yX3_takeSign.desc = some sig → 1 = sig.parameters.length := ⟨gws_in 713 (by decide +kernel) rfl, gws_in 2 (by decide +kernel) rfl, by decide +kernel, fun sig h => by
  have e : (parseMethodDescriptor yX3_takeSign.desc).map (fun s => s.parameters.length) = some 1 := by decide +kernel
  rw [h] at e; exact (Option.some.inj e).symm⟩
theorem vk_X3_takeSign : VK yX3_takeSign := ⟨gws_in 712 (by decide +kernel) rfl, gws_sel 24 (by decide +kernel) rfl⟩
theorem me_X3_read : Cond.code yX3_read cX3_read 4 (some .int) ∈ gws ∧ Cond.initialized yX3_read.cls ∈ gws ∧ (yX3_read.cls ≠ "java/lang/invoke/MethodHandle" ∧ yX3_read.cls ≠ "java/lang/invoke/VarHandle") ∧ ∀ sig, parseMethodDescriptor yX3_read.desc = some sig → 2 = sig.parameters.length := ⟨gws_in 543 (by decide +kernel) rfl, gws_in 2 (by decide +kernel) rfl, by decide +kernel, fun sig h => by
  have e : (parseMethodDescriptor yX3_read.desc).map (fun s => s.parameters.length) = some 2 := by decide +kernel
  rw [h] at e; exact (Option.some.inj e).symm⟩
theorem vk_X3_read : VK yX3_read := ⟨gws_in 541 (by decide +kernel) rfl, gws_in 542 (by decide +kernel) rfl⟩
theorem me_X8_tryIn : Cond.code yX8_tryIn cX8_tryIn 5 none ∈ gws ∧ Cond.initialized yX8_tryIn.cls ∈ gws ∧ (yX8_tryIn.cls ≠ "java/lang/invoke/MethodHandle" ∧ yX8_tryIn.cls ≠ "java/lang/invoke/VarHandle") ∧ ∀ sig, parseMethodDescriptor yX8_tryIn.desc = some sig → 3 = sig.parameters.length := ⟨gws_in 1178 (by decide +kernel) rfl, gws_in 1 (by decide +kernel) rfl, by decide +kernel, fun sig h => by
  have e : (parseMethodDescriptor yX8_tryIn.desc).map (fun s => s.parameters.length) = some 3 := by decide +kernel
  rw [h] at e; exact (Option.some.inj e).symm⟩
theorem vk_X8_tryIn : VK yX8_tryIn := ⟨gws_in 1177 (by decide +kernel) rfl, gws_sel 56 (by decide +kernel) rfl⟩
theorem me_X0_takeBack : Cond.code yX0_takeBack cX0_takeBack 2 (some .boolean) ∈ gws ∧ Cond.initialized yX0_takeBack.cls ∈ gws ∧ (yX0_takeBack.cls ≠ "java/lang/invoke/MethodHandle" ∧ yX0_takeBack.cls ≠ "java/lang/invoke/VarHandle") ∧ ∀ sig, parseMethodDescriptor yX0_takeBack.desc = some sig → 1 = sig.parameters.length := ⟨gws_in 435 (by decide +kernel) rfl, gws_in 6 (by decide +kernel) rfl, by decide +kernel, fun sig h => by
  have e : (parseMethodDescriptor yX0_takeBack.desc).map (fun s => s.parameters.length) = some 1 := by decide +kernel
  rw [h] at e; exact (Option.some.inj e).symm⟩
theorem vk_X0_takeBack : VK yX0_takeBack := ⟨gws_in 433 (by decide +kernel) rfl, gws_in 434 (by decide +kernel) rfl⟩
theorem me_J6_bitCount_0f7a4 : Cond.code yJ6_bitCount_0f7a4 cJ6_bitCount_0f7a4 1 (some .int) ∈ gws ∧ Cond.initialized yJ6_bitCount_0f7a4.cls ∈ gws ∧ (yJ6_bitCount_0f7a4.cls ≠ "java/lang/invoke/MethodHandle" ∧ yJ6_bitCount_0f7a4.cls ≠ "java/lang/invoke/VarHandle") ∧ ∀ sig, parseMethodDescriptor yJ6_bitCount_0f7a4.desc = some sig → 1 = sig.parameters.length := ⟨gws_in 1181 (by decide +kernel) rfl, gws_in 24 (by decide +kernel) rfl, by decide +kernel, fun sig h => by
  have e : (parseMethodDescriptor yJ6_bitCount_0f7a4.desc).map (fun s => s.parameters.length) = some 1 := by decide +kernel
  rw [h] at e; exact (Option.some.inj e).symm⟩
theorem sk_J6_bitCount_0f7a4 : Cond.static yJ6_bitCount_0f7a4 ∈ gws := gws_in 1180 (by decide +kernel) rfl
theorem me_X9_toldDamp : Cond.code yX9_toldDamp cX9_toldDamp 2 (some .int) ∈ gws ∧ Cond.initialized yX9_toldDamp.cls ∈ gws ∧ (yX9_toldDamp.cls ≠ "java/lang/invoke/MethodHandle" ∧ yX9_toldDamp.cls ≠ "java/lang/invoke/VarHandle") ∧ ∀ sig, parseMethodDescriptor yX9_toldDamp.desc = some sig → 1 = sig.parameters.length := ⟨gws_in 1629 (by decide +kernel) rfl, gws_in 10 (by decide +kernel) rfl, by decide +kernel, fun sig h => by
  have e : (parseMethodDescriptor yX9_toldDamp.desc).map (fun s => s.parameters.length) = some 1 := by decide +kernel
  rw [h] at e; exact (Option.some.inj e).symm⟩
theorem vk_X9_toldDamp : VK yX9_toldDamp := ⟨gws_in 1628 (by decide +kernel) rfl, gws_sel 83 (by decide +kernel) rfl⟩
theorem me_X9_dampIn : Cond.code yX9_dampIn cX9_dampIn 2 (some .int) ∈ gws ∧ Cond.initialized yX9_dampIn.cls ∈ gws ∧ (yX9_dampIn.cls ≠ "java/lang/invoke/MethodHandle" ∧ yX9_dampIn.cls ≠ "java/lang/invoke/VarHandle") ∧ ∀ sig, parseMethodDescriptor yX9_dampIn.desc = some sig → 1 = sig.parameters.length := ⟨gws_in 1625 (by decide +kernel) rfl, gws_in 10 (by decide +kernel) rfl, by decide +kernel, fun sig h => by
  have e : (parseMethodDescriptor yX9_dampIn.desc).map (fun s => s.parameters.length) = some 1 := by decide +kernel
  rw [h] at e; exact (Option.some.inj e).symm⟩
theorem vk_X9_dampIn : VK yX9_dampIn := ⟨gws_in 1624 (by decide +kernel) rfl, gws_sel 82 (by decide +kernel) rfl⟩
theorem me_X9_works : Cond.code yX9_works cX9_works 3 (some .int) ∈ gws ∧ Cond.initialized yX9_works.cls ∈ gws ∧ (yX9_works.cls ≠ "java/lang/invoke/MethodHandle" ∧ yX9_works.cls ≠ "java/lang/invoke/VarHandle") ∧ ∀ sig, parseMethodDescriptor yX9_works.desc = some sig → 3 = sig.parameters.length := ⟨gws_in 1696 (by decide +kernel) rfl, gws_in 10 (by decide +kernel) rfl, by decide +kernel, fun sig h => by
  have e : (parseMethodDescriptor yX9_works.desc).map (fun s => s.parameters.length) = some 3 := by decide +kernel
  rw [h] at e; exact (Option.some.inj e).symm⟩
theorem sk_X9_works : Cond.static yX9_works ∈ gws := gws_in 1695 (by decide +kernel) rfl
theorem me_X9_reckons : Cond.code yX9_reckons cX9_reckons 5 (some .int) ∈ gws ∧ Cond.initialized yX9_reckons.cls ∈ gws ∧ (yX9_reckons.cls ≠ "java/lang/invoke/MethodHandle" ∧ yX9_reckons.cls ≠ "java/lang/invoke/VarHandle") ∧ ∀ sig, parseMethodDescriptor yX9_reckons.desc = some sig → 1 = sig.parameters.length := ⟨gws_in 1693 (by decide +kernel) rfl, gws_in 10 (by decide +kernel) rfl, by decide +kernel, fun sig h => by
  have e : (parseMethodDescriptor yX9_reckons.desc).map (fun s => s.parameters.length) = some 1 := by decide +kernel
  rw [h] at e; exact (Option.some.inj e).symm⟩
theorem vk_X9_reckons : VK yX9_reckons := ⟨gws_in 1692 (by decide +kernel) rfl, gws_sel 98 (by decide +kernel) rfl⟩
theorem me_X9_bounded : Cond.code yX9_bounded cX9_bounded 3 (some .int) ∈ gws ∧ Cond.initialized yX9_bounded.cls ∈ gws ∧ (yX9_bounded.cls ≠ "java/lang/invoke/MethodHandle" ∧ yX9_bounded.cls ≠ "java/lang/invoke/VarHandle") ∧ ∀ sig, parseMethodDescriptor yX9_bounded.desc = some sig → 3 = sig.parameters.length := ⟨gws_in 1661 (by decide +kernel) rfl, gws_in 10 (by decide +kernel) rfl, by decide +kernel, fun sig h => by
  have e : (parseMethodDescriptor yX9_bounded.desc).map (fun s => s.parameters.length) = some 3 := by decide +kernel
  rw [h] at e; exact (Option.some.inj e).symm⟩
theorem sk_X9_bounded : Cond.static yX9_bounded ∈ gws := gws_in 1660 (by decide +kernel) rfl
theorem me_X9_tightOf : Cond.code yX9_tightOf cX9_tightOf 4 (some .int) ∈ gws ∧ Cond.initialized yX9_tightOf.cls ∈ gws ∧ (yX9_tightOf.cls ≠ "java/lang/invoke/MethodHandle" ∧ yX9_tightOf.cls ≠ "java/lang/invoke/VarHandle") ∧ ∀ sig, parseMethodDescriptor yX9_tightOf.desc = some sig → 3 = sig.parameters.length := ⟨gws_in 1657 (by decide +kernel) rfl, gws_in 10 (by decide +kernel) rfl, by decide +kernel, fun sig h => by
  have e : (parseMethodDescriptor yX9_tightOf.desc).map (fun s => s.parameters.length) = some 3 := by decide +kernel
  rw [h] at e; exact (Option.some.inj e).symm⟩
theorem vk_X9_tightOf : VK yX9_tightOf := ⟨gws_in 1656 (by decide +kernel) rfl, gws_sel 90 (by decide +kernel) rfl⟩
theorem me_X9_asks : Cond.code yX9_asks cX9_asks 5 (some .int) ∈ gws ∧ Cond.initialized yX9_asks.cls ∈ gws ∧ (yX9_asks.cls ≠ "java/lang/invoke/MethodHandle" ∧ yX9_asks.cls ≠ "java/lang/invoke/VarHandle") ∧ ∀ sig, parseMethodDescriptor yX9_asks.desc = some sig → 4 = sig.parameters.length := ⟨gws_in 1689 (by decide +kernel) rfl, gws_in 10 (by decide +kernel) rfl, by decide +kernel, fun sig h => by
  have e : (parseMethodDescriptor yX9_asks.desc).map (fun s => s.parameters.length) = some 4 := by decide +kernel
  rw [h] at e; exact (Option.some.inj e).symm⟩
theorem vk_X9_asks : VK yX9_asks := ⟨gws_in 1688 (by decide +kernel) rfl, gws_sel 97 (by decide +kernel) rfl⟩
theorem me_X9_lesser : Cond.code yX9_lesser cX9_lesser 2 (some .int) ∈ gws ∧ Cond.initialized yX9_lesser.cls ∈ gws ∧ (yX9_lesser.cls ≠ "java/lang/invoke/MethodHandle" ∧ yX9_lesser.cls ≠ "java/lang/invoke/VarHandle") ∧ ∀ sig, parseMethodDescriptor yX9_lesser.desc = some sig → 2 = sig.parameters.length := ⟨gws_in 1703 (by decide +kernel) rfl, gws_in 10 (by decide +kernel) rfl, by decide +kernel, fun sig h => by
  have e : (parseMethodDescriptor yX9_lesser.desc).map (fun s => s.parameters.length) = some 2 := by decide +kernel
  rw [h] at e; exact (Option.some.inj e).symm⟩
theorem sk_X9_lesser : Cond.static yX9_lesser ∈ gws := gws_in 1702 (by decide +kernel) rfl
theorem me_X9_wears : Cond.code yX9_wears cX9_wears 6 none ∈ gws ∧ Cond.initialized yX9_wears.cls ∈ gws ∧ (yX9_wears.cls ≠ "java/lang/invoke/MethodHandle" ∧ yX9_wears.cls ≠ "java/lang/invoke/VarHandle") ∧ ∀ sig, parseMethodDescriptor yX9_wears.desc = some sig → 2 = sig.parameters.length := ⟨gws_in 1758 (by decide +kernel) rfl, gws_in 10 (by decide +kernel) rfl, by decide +kernel, fun sig h => by
  have e : (parseMethodDescriptor yX9_wears.desc).map (fun s => s.parameters.length) = some 2 := by decide +kernel
  rw [h] at e; exact (Option.some.inj e).symm⟩
theorem vk_X9_wears : VK yX9_wears := ⟨gws_in 1757 (by decide +kernel) rfl, gws_sel 108 (by decide +kernel) rfl⟩
theorem me_X9_dayGoes : Cond.code yX9_dayGoes cX9_dayGoes 3 none ∈ gws ∧ Cond.initialized yX9_dayGoes.cls ∈ gws ∧ (yX9_dayGoes.cls ≠ "java/lang/invoke/MethodHandle" ∧ yX9_dayGoes.cls ≠ "java/lang/invoke/VarHandle") ∧ ∀ sig, parseMethodDescriptor yX9_dayGoes.desc = some sig → 1 = sig.parameters.length := ⟨gws_in 1754 (by decide +kernel) rfl, gws_in 10 (by decide +kernel) rfl, by decide +kernel, fun sig h => by
  have e : (parseMethodDescriptor yX9_dayGoes.desc).map (fun s => s.parameters.length) = some 1 := by decide +kernel
  rw [h] at e; exact (Option.some.inj e).symm⟩
theorem vk_X9_dayGoes : VK yX9_dayGoes := ⟨gws_in 1753 (by decide +kernel) rfl, gws_sel 107 (by decide +kernel) rfl⟩
theorem me_X9_daysGo : Cond.code yX9_daysGo cX9_daysGo 3 none ∈ gws ∧ Cond.initialized yX9_daysGo.cls ∈ gws ∧ (yX9_daysGo.cls ≠ "java/lang/invoke/MethodHandle" ∧ yX9_daysGo.cls ≠ "java/lang/invoke/VarHandle") ∧ ∀ sig, parseMethodDescriptor yX9_daysGo.desc = some sig → 1 = sig.parameters.length := ⟨gws_in 1798 (by decide +kernel) rfl, gws_in 10 (by decide +kernel) rfl, by decide +kernel, fun sig h => by
  have e : (parseMethodDescriptor yX9_daysGo.desc).map (fun s => s.parameters.length) = some 1 := by decide +kernel
  rw [h] at e; exact (Option.some.inj e).symm⟩
theorem vk_X9_daysGo : VK yX9_daysGo := ⟨gws_in 1797 (by decide +kernel) rfl, gws_sel 112 (by decide +kernel) rfl⟩
theorem me_X9_tries : Cond.code yX9_tries cX9_tries 2 none ∈ gws ∧ Cond.initialized yX9_tries.cls ∈ gws ∧ (yX9_tries.cls ≠ "java/lang/invoke/MethodHandle" ∧ yX9_tries.cls ≠ "java/lang/invoke/VarHandle") ∧ ∀ sig, parseMethodDescriptor yX9_tries.desc = some sig → 0 = sig.parameters.length := ⟨gws_in 1794 (by decide +kernel) rfl, gws_in 10 (by decide +kernel) rfl, by decide +kernel, fun sig h => by
  have e : (parseMethodDescriptor yX9_tries.desc).map (fun s => s.parameters.length) = some 0 := by decide +kernel
  rw [h] at e; exact (Option.some.inj e).symm⟩
theorem vk_X9_tries : VK yX9_tries := ⟨gws_in 1793 (by decide +kernel) rfl, gws_sel 111 (by decide +kernel) rfl⟩
theorem me_X9_goesTo : Cond.code yX9_goesTo cX9_goesTo 2 none ∈ gws ∧ Cond.initialized yX9_goesTo.cls ∈ gws ∧ (yX9_goesTo.cls ≠ "java/lang/invoke/MethodHandle" ∧ yX9_goesTo.cls ≠ "java/lang/invoke/VarHandle") ∧ ∀ sig, parseMethodDescriptor yX9_goesTo.desc = some sig → 1 = sig.parameters.length := ⟨gws_in 1790 (by decide +kernel) rfl, gws_in 10 (by decide +kernel) rfl, by decide +kernel, fun sig h => by
  have e : (parseMethodDescriptor yX9_goesTo.desc).map (fun s => s.parameters.length) = some 1 := by decide +kernel
  rw [h] at e; exact (Option.some.inj e).symm⟩
theorem vk_X9_goesTo : VK yX9_goesTo := ⟨gws_in 1789 (by decide +kernel) rfl, gws_sel 110 (by decide +kernel) rfl⟩
theorem me_X9_right : Cond.code yX9_right cX9_right 3 (some .boolean) ∈ gws ∧ Cond.initialized yX9_right.cls ∈ gws ∧ (yX9_right.cls ≠ "java/lang/invoke/MethodHandle" ∧ yX9_right.cls ≠ "java/lang/invoke/VarHandle") ∧ ∀ sig, parseMethodDescriptor yX9_right.desc = some sig → 2 = sig.parameters.length := ⟨gws_in 1495 (by decide +kernel) rfl, gws_in 10 (by decide +kernel) rfl, by decide +kernel, fun sig h => by
  have e : (parseMethodDescriptor yX9_right.desc).map (fun s => s.parameters.length) = some 2 := by decide +kernel
  rw [h] at e; exact (Option.some.inj e).symm⟩
theorem vk_X9_right : VK yX9_right := ⟨gws_in 1494 (by decide +kernel) rfl, gws_sel 58 (by decide +kernel) rfl⟩
theorem me_X9_within : Cond.code yX9_within cX9_within 3 (some .boolean) ∈ gws ∧ Cond.initialized yX9_within.cls ∈ gws ∧ (yX9_within.cls ≠ "java/lang/invoke/MethodHandle" ∧ yX9_within.cls ≠ "java/lang/invoke/VarHandle") ∧ ∀ sig, parseMethodDescriptor yX9_within.desc = some sig → 3 = sig.parameters.length := ⟨gws_in 1621 (by decide +kernel) rfl, gws_in 10 (by decide +kernel) rfl, by decide +kernel, fun sig h => by
  have e : (parseMethodDescriptor yX9_within.desc).map (fun s => s.parameters.length) = some 3 := by decide +kernel
  rw [h] at e; exact (Option.some.inj e).symm⟩
theorem sk_X9_within : Cond.static yX9_within ∈ gws := gws_in 1620 (by decide +kernel) rfl
theorem me_X9_isDays : Cond.code yX9_isDays cX9_isDays 4 (some .boolean) ∈ gws ∧ Cond.initialized yX9_isDays.cls ∈ gws ∧ (yX9_isDays.cls ≠ "java/lang/invoke/MethodHandle" ∧ yX9_isDays.cls ≠ "java/lang/invoke/VarHandle") ∧ ∀ sig, parseMethodDescriptor yX9_isDays.desc = some sig → 3 = sig.parameters.length := ⟨gws_in 1786 (by decide +kernel) rfl, gws_in 10 (by decide +kernel) rfl, by decide +kernel, fun sig h => by
  have e : (parseMethodDescriptor yX9_isDays.desc).map (fun s => s.parameters.length) = some 3 := by decide +kernel
  rw [h] at e; exact (Option.some.inj e).symm⟩
theorem vk_X9_isDays : VK yX9_isDays := ⟨gws_in 1785 (by decide +kernel) rfl, gws_sel 109 (by decide +kernel) rfl⟩
theorem me_X9_houseOf : Cond.code yX9_houseOf cX9_houseOf 4 (some .int) ∈ gws ∧ Cond.initialized yX9_houseOf.cls ∈ gws ∧ (yX9_houseOf.cls ≠ "java/lang/invoke/MethodHandle" ∧ yX9_houseOf.cls ≠ "java/lang/invoke/VarHandle") ∧ ∀ sig, parseMethodDescriptor yX9_houseOf.desc = some sig → 2 = sig.parameters.length := ⟨gws_in 1641 (by decide +kernel) rfl, gws_in 10 (by decide +kernel) rfl, by decide +kernel, fun sig h => by
  have e : (parseMethodDescriptor yX9_houseOf.desc).map (fun s => s.parameters.length) = some 2 := by decide +kernel
  rw [h] at e; exact (Option.some.inj e).symm⟩
theorem vk_X9_houseOf : VK yX9_houseOf := ⟨gws_in 1640 (by decide +kernel) rfl, gws_sel 86 (by decide +kernel) rfl⟩
theorem me_X9_lodgersIn : Cond.code yX9_lodgersIn cX9_lodgersIn 4 (some .int) ∈ gws ∧ Cond.initialized yX9_lodgersIn.cls ∈ gws ∧ (yX9_lodgersIn.cls ≠ "java/lang/invoke/MethodHandle" ∧ yX9_lodgersIn.cls ≠ "java/lang/invoke/VarHandle") ∧ ∀ sig, parseMethodDescriptor yX9_lodgersIn.desc = some sig → 1 = sig.parameters.length := ⟨gws_in 1637 (by decide +kernel) rfl, gws_in 10 (by decide +kernel) rfl, by decide +kernel, fun sig h => by
  have e : (parseMethodDescriptor yX9_lodgersIn.desc).map (fun s => s.parameters.length) = some 1 := by decide +kernel
  rw [h] at e; exact (Option.some.inj e).symm⟩
theorem vk_X9_lodgersIn : VK yX9_lodgersIn := ⟨gws_in 1636 (by decide +kernel) rfl, gws_sel 85 (by decide +kernel) rfl⟩
theorem me_X9_isGood : Cond.code yX9_isGood cX9_isGood 1 (some .boolean) ∈ gws ∧ Cond.initialized yX9_isGood.cls ∈ gws ∧ (yX9_isGood.cls ≠ "java/lang/invoke/MethodHandle" ∧ yX9_isGood.cls ≠ "java/lang/invoke/VarHandle") ∧ ∀ sig, parseMethodDescriptor yX9_isGood.desc = some sig → 0 = sig.parameters.length := ⟨gws_in 1513 (by decide +kernel) rfl, gws_in 10 (by decide +kernel) rfl, by decide +kernel, fun sig h => by
  have e : (parseMethodDescriptor yX9_isGood.desc).map (fun s => s.parameters.length) = some 0 := by decide +kernel
  rw [h] at e; exact (Option.some.inj e).symm⟩
theorem vk_X9_isGood : VK yX9_isGood := ⟨gws_in 1512 (by decide +kernel) rfl, gws_sel 61 (by decide +kernel) rfl⟩
theorem me_X9_byteAt : Cond.code yX9_byteAt cX9_byteAt 2 (some .int) ∈ gws ∧ Cond.initialized yX9_byteAt.cls ∈ gws ∧ (yX9_byteAt.cls ≠ "java/lang/invoke/MethodHandle" ∧ yX9_byteAt.cls ≠ "java/lang/invoke/VarHandle") ∧ ∀ sig, parseMethodDescriptor yX9_byteAt.desc = some sig → 1 = sig.parameters.length := ⟨gws_in 1503 (by decide +kernel) rfl, gws_in 10 (by decide +kernel) rfl, by decide +kernel, fun sig h => by
  have e : (parseMethodDescriptor yX9_byteAt.desc).map (fun s => s.parameters.length) = some 1 := by decide +kernel
  rw [h] at e; exact (Option.some.inj e).symm⟩
theorem vk_X9_byteAt : VK yX9_byteAt := ⟨gws_in 1502 (by decide +kernel) rfl, gws_sel 60 (by decide +kernel) rfl⟩
theorem me_X9_isDigit : Cond.code yX9_isDigit cX9_isDigit 1 (some .boolean) ∈ gws ∧ Cond.initialized yX9_isDigit.cls ∈ gws ∧ (yX9_isDigit.cls ≠ "java/lang/invoke/MethodHandle" ∧ yX9_isDigit.cls ≠ "java/lang/invoke/VarHandle") ∧ ∀ sig, parseMethodDescriptor yX9_isDigit.desc = some sig → 1 = sig.parameters.length := ⟨gws_in 1509 (by decide +kernel) rfl, gws_in 10 (by decide +kernel) rfl, by decide +kernel, fun sig h => by
  have e : (parseMethodDescriptor yX9_isDigit.desc).map (fun s => s.parameters.length) = some 1 := by decide +kernel
  rw [h] at e; exact (Option.some.inj e).symm⟩
theorem sk_X9_isDigit : Cond.static yX9_isDigit ∈ gws := gws_in 1508 (by decide +kernel) rfl
theorem me_X9_isLetter : Cond.code yX9_isLetter cX9_isLetter 1 (some .boolean) ∈ gws ∧ Cond.initialized yX9_isLetter.cls ∈ gws ∧ (yX9_isLetter.cls ≠ "java/lang/invoke/MethodHandle" ∧ yX9_isLetter.cls ≠ "java/lang/invoke/VarHandle") ∧ ∀ sig, parseMethodDescriptor yX9_isLetter.desc = some sig → 1 = sig.parameters.length := ⟨gws_in 1506 (by decide +kernel) rfl, gws_in 10 (by decide +kernel) rfl, by decide +kernel, fun sig h => by
  have e : (parseMethodDescriptor yX9_isLetter.desc).map (fun s => s.parameters.length) = some 1 := by decide +kernel
  rw [h] at e; exact (Option.some.inj e).symm⟩
theorem sk_X9_isLetter : Cond.static yX9_isLetter ∈ gws := gws_in 1505 (by decide +kernel) rfl
theorem me_X9_takes : Cond.code yX9_takes cX9_takes 2 none ∈ gws ∧ Cond.initialized yX9_takes.cls ∈ gws ∧ (yX9_takes.cls ≠ "java/lang/invoke/MethodHandle" ∧ yX9_takes.cls ≠ "java/lang/invoke/VarHandle") ∧ ∀ sig, parseMethodDescriptor yX9_takes.desc = some sig → 0 = sig.parameters.length := ⟨gws_in 1499 (by decide +kernel) rfl, gws_in 10 (by decide +kernel) rfl, by decide +kernel, fun sig h => by
  have e : (parseMethodDescriptor yX9_takes.desc).map (fun s => s.parameters.length) = some 0 := by decide +kernel
  rw [h] at e; exact (Option.some.inj e).symm⟩
theorem vk_X9_takes : VK yX9_takes := ⟨gws_in 1498 (by decide +kernel) rfl, gws_sel 59 (by decide +kernel) rfl⟩
theorem me_X9_wrong : Cond.code yX9_wrong cX9_wrong 2 none ∈ gws ∧ Cond.initialized yX9_wrong.cls ∈ gws ∧ (yX9_wrong.cls ≠ "java/lang/invoke/MethodHandle" ∧ yX9_wrong.cls ≠ "java/lang/invoke/VarHandle") ∧ ∀ sig, parseMethodDescriptor yX9_wrong.desc = some sig → 1 = sig.parameters.length := ⟨gws_in 1536 (by decide +kernel) rfl, gws_in 10 (by decide +kernel) rfl, by decide +kernel, fun sig h => by
  have e : (parseMethodDescriptor yX9_wrong.desc).map (fun s => s.parameters.length) = some 1 := by decide +kernel
  rw [h] at e; exact (Option.some.inj e).symm⟩
theorem vk_X9_wrong : VK yX9_wrong := ⟨gws_in 1535 (by decide +kernel) rfl, gws_sel 65 (by decide +kernel) rfl⟩
theorem me_X9_begins : Cond.code yX9_begins cX9_begins 3 (some .boolean) ∈ gws ∧ Cond.initialized yX9_begins.cls ∈ gws ∧ (yX9_begins.cls ≠ "java/lang/invoke/MethodHandle" ∧ yX9_begins.cls ≠ "java/lang/invoke/VarHandle") ∧ ∀ sig, parseMethodDescriptor yX9_begins.desc = some sig → 2 = sig.parameters.length := ⟨gws_in 1532 (by decide +kernel) rfl, gws_in 10 (by decide +kernel) rfl, by decide +kernel, fun sig h => by
  have e : (parseMethodDescriptor yX9_begins.desc).map (fun s => s.parameters.length) = some 2 := by decide +kernel
  rw [h] at e; exact (Option.some.inj e).symm⟩
theorem vk_X9_begins : VK yX9_begins := ⟨gws_in 1531 (by decide +kernel) rfl, gws_sel 64 (by decide +kernel) rfl⟩
theorem me_X9_bits : Cond.code yX9_bits cX9_bits 3 (some .int) ∈ gws ∧ Cond.initialized yX9_bits.cls ∈ gws ∧ (yX9_bits.cls ≠ "java/lang/invoke/MethodHandle" ∧ yX9_bits.cls ≠ "java/lang/invoke/VarHandle") ∧ ∀ sig, parseMethodDescriptor yX9_bits.desc = some sig → 1 = sig.parameters.length := ⟨gws_in 1922 (by decide +kernel) rfl, gws_in 10 (by decide +kernel) rfl, by decide +kernel, fun sig h => by
  have e : (parseMethodDescriptor yX9_bits.desc).map (fun s => s.parameters.length) = some 1 := by decide +kernel
  rw [h] at e; exact (Option.some.inj e).symm⟩
theorem sk_X9_bits : Cond.static yX9_bits ∈ gws := gws_in 1921 (by decide +kernel) rfl
theorem me_X9_isBurst : Cond.code yX9_isBurst cX9_isBurst 3 (some .boolean) ∈ gws ∧ Cond.initialized yX9_isBurst.cls ∈ gws ∧ (yX9_isBurst.cls ≠ "java/lang/invoke/MethodHandle" ∧ yX9_isBurst.cls ≠ "java/lang/invoke/VarHandle") ∧ ∀ sig, parseMethodDescriptor yX9_isBurst.desc = some sig → 2 = sig.parameters.length := ⟨gws_in 1681 (by decide +kernel) rfl, gws_in 10 (by decide +kernel) rfl, by decide +kernel, fun sig h => by
  have e : (parseMethodDescriptor yX9_isBurst.desc).map (fun s => s.parameters.length) = some 2 := by decide +kernel
  rw [h] at e; exact (Option.some.inj e).symm⟩
theorem vk_X9_isBurst : VK yX9_isBurst := ⟨gws_in 1680 (by decide +kernel) rfl, gws_sel 95 (by decide +kernel) rfl⟩
theorem me_X9_burstsIn : Cond.code yX9_burstsIn cX9_burstsIn 3 (some .int) ∈ gws ∧ Cond.initialized yX9_burstsIn.cls ∈ gws ∧ (yX9_burstsIn.cls ≠ "java/lang/invoke/MethodHandle" ∧ yX9_burstsIn.cls ≠ "java/lang/invoke/VarHandle") ∧ ∀ sig, parseMethodDescriptor yX9_burstsIn.desc = some sig → 1 = sig.parameters.length := ⟨gws_in 1810 (by decide +kernel) rfl, gws_in 10 (by decide +kernel) rfl, by decide +kernel, fun sig h => by
  have e : (parseMethodDescriptor yX9_burstsIn.desc).map (fun s => s.parameters.length) = some 1 := by decide +kernel
  rw [h] at e; exact (Option.some.inj e).symm⟩
theorem vk_X9_burstsIn : VK yX9_burstsIn := ⟨gws_in 1809 (by decide +kernel) rfl, gws_sel 113 (by decide +kernel) rfl⟩
theorem me_X9_isHouse : Cond.code yX9_isHouse cX9_isHouse 2 (some .boolean) ∈ gws ∧ Cond.initialized yX9_isHouse.cls ∈ gws ∧ (yX9_isHouse.cls ≠ "java/lang/invoke/MethodHandle" ∧ yX9_isHouse.cls ≠ "java/lang/invoke/VarHandle") ∧ ∀ sig, parseMethodDescriptor yX9_isHouse.desc = some sig → 1 = sig.parameters.length := ⟨gws_in 1711 (by decide +kernel) rfl, gws_in 10 (by decide +kernel) rfl, by decide +kernel, fun sig h => by
  have e : (parseMethodDescriptor yX9_isHouse.desc).map (fun s => s.parameters.length) = some 1 := by decide +kernel
  rw [h] at e; exact (Option.some.inj e).symm⟩
theorem vk_X9_isHouse : VK yX9_isHouse := ⟨gws_in 1710 (by decide +kernel) rfl, gws_sel 100 (by decide +kernel) rfl⟩
theorem me_X9_leastOf : Cond.code yX9_leastOf cX9_leastOf 3 (some .int) ∈ gws ∧ Cond.initialized yX9_leastOf.cls ∈ gws ∧ (yX9_leastOf.cls ≠ "java/lang/invoke/MethodHandle" ∧ yX9_leastOf.cls ≠ "java/lang/invoke/VarHandle") ∧ ∀ sig, parseMethodDescriptor yX9_leastOf.desc = some sig → 2 = sig.parameters.length := ⟨gws_in 1673 (by decide +kernel) rfl, gws_in 10 (by decide +kernel) rfl, by decide +kernel, fun sig h => by
  have e : (parseMethodDescriptor yX9_leastOf.desc).map (fun s => s.parameters.length) = some 2 := by decide +kernel
  rw [h] at e; exact (Option.some.inj e).symm⟩
theorem vk_X9_leastOf : VK yX9_leastOf := ⟨gws_in 1672 (by decide +kernel) rfl, gws_sel 93 (by decide +kernel) rfl⟩
theorem me_X9_byHouse : Cond.code yX9_byHouse cX9_byHouse 4 (some .int) ∈ gws ∧ Cond.initialized yX9_byHouse.cls ∈ gws ∧ (yX9_byHouse.cls ≠ "java/lang/invoke/MethodHandle" ∧ yX9_byHouse.cls ≠ "java/lang/invoke/VarHandle") ∧ ∀ sig, parseMethodDescriptor yX9_byHouse.desc = some sig → 3 = sig.parameters.length := ⟨gws_in 1700 (by decide +kernel) rfl, gws_in 10 (by decide +kernel) rfl, by decide +kernel, fun sig h => by
  have e : (parseMethodDescriptor yX9_byHouse.desc).map (fun s => s.parameters.length) = some 3 := by decide +kernel
  rw [h] at e; exact (Option.some.inj e).symm⟩
theorem vk_X9_byHouse : VK yX9_byHouse := ⟨gws_in 1699 (by decide +kernel) rfl, gws_sel 99 (by decide +kernel) rfl⟩
theorem me_X9_isPerson : Cond.code yX9_isPerson cX9_isPerson 2 (some .boolean) ∈ gws ∧ Cond.initialized yX9_isPerson.cls ∈ gws ∧ (yX9_isPerson.cls ≠ "java/lang/invoke/MethodHandle" ∧ yX9_isPerson.cls ≠ "java/lang/invoke/VarHandle") ∧ ∀ sig, parseMethodDescriptor yX9_isPerson.desc = some sig → 1 = sig.parameters.length := ⟨gws_in 1734 (by decide +kernel) rfl, gws_in 10 (by decide +kernel) rfl, by decide +kernel, fun sig h => by
  have e : (parseMethodDescriptor yX9_isPerson.desc).map (fun s => s.parameters.length) = some 1 := by decide +kernel
  rw [h] at e; exact (Option.some.inj e).symm⟩
theorem vk_X9_isPerson : VK yX9_isPerson := ⟨gws_in 1733 (by decide +kernel) rfl, gws_sel 104 (by decide +kernel) rfl⟩
theorem me_X9_keeps : Cond.code yX9_keeps cX9_keeps 2 none ∈ gws ∧ Cond.initialized yX9_keeps.cls ∈ gws ∧ (yX9_keeps.cls ≠ "java/lang/invoke/MethodHandle" ∧ yX9_keeps.cls ≠ "java/lang/invoke/VarHandle") ∧ ∀ sig, parseMethodDescriptor yX9_keeps.desc = some sig → 0 = sig.parameters.length := ⟨gws_in 1750 (by decide +kernel) rfl, gws_in 10 (by decide +kernel) rfl, by decide +kernel, fun sig h => by
  have e : (parseMethodDescriptor yX9_keeps.desc).map (fun s => s.parameters.length) = some 0 := by decide +kernel
  rw [h] at e; exact (Option.some.inj e).symm⟩
theorem vk_X9_keeps : VK yX9_keeps := ⟨gws_in 1749 (by decide +kernel) rfl, gws_sel 106 (by decide +kernel) rfl⟩
theorem me_X9_refuses : Cond.code yX9_refuses cX9_refuses 2 (some .int) ∈ gws ∧ Cond.initialized yX9_refuses.cls ∈ gws ∧ (yX9_refuses.cls ≠ "java/lang/invoke/MethodHandle" ∧ yX9_refuses.cls ≠ "java/lang/invoke/VarHandle") ∧ ∀ sig, parseMethodDescriptor yX9_refuses.desc = some sig → 1 = sig.parameters.length := ⟨gws_in 1746 (by decide +kernel) rfl, gws_in 10 (by decide +kernel) rfl, by decide +kernel, fun sig h => by
  have e : (parseMethodDescriptor yX9_refuses.desc).map (fun s => s.parameters.length) = some 1 := by decide +kernel
  rw [h] at e; exact (Option.some.inj e).symm⟩
theorem vk_X9_refuses : VK yX9_refuses := ⟨gws_in 1745 (by decide +kernel) rfl, gws_sel 105 (by decide +kernel) rfl⟩
theorem me_X9_easesOf : Cond.code yX9_easesOf cX9_easesOf 4 (some .int) ∈ gws ∧ Cond.initialized yX9_easesOf.cls ∈ gws ∧ (yX9_easesOf.cls ≠ "java/lang/invoke/MethodHandle" ∧ yX9_easesOf.cls ≠ "java/lang/invoke/VarHandle") ∧ ∀ sig, parseMethodDescriptor yX9_easesOf.desc = some sig → 3 = sig.parameters.length := ⟨gws_in 1685 (by decide +kernel) rfl, gws_in 10 (by decide +kernel) rfl, by decide +kernel, fun sig h => by
  have e : (parseMethodDescriptor yX9_easesOf.desc).map (fun s => s.parameters.length) = some 3 := by decide +kernel
  rw [h] at e; exact (Option.some.inj e).symm⟩
theorem vk_X9_easesOf : VK yX9_easesOf := ⟨gws_in 1684 (by decide +kernel) rfl, gws_sel 96 (by decide +kernel) rfl⟩
theorem me_X9_wouldGo : Cond.code yX9_wouldGo cX9_wouldGo 4 (some .boolean) ∈ gws ∧ Cond.initialized yX9_wouldGo.cls ∈ gws ∧ (yX9_wouldGo.cls ≠ "java/lang/invoke/MethodHandle" ∧ yX9_wouldGo.cls ≠ "java/lang/invoke/VarHandle") ∧ ∀ sig, parseMethodDescriptor yX9_wouldGo.desc = some sig → 3 = sig.parameters.length := ⟨gws_in 1677 (by decide +kernel) rfl, gws_in 10 (by decide +kernel) rfl, by decide +kernel, fun sig h => by
  have e : (parseMethodDescriptor yX9_wouldGo.desc).map (fun s => s.parameters.length) = some 3 := by decide +kernel
  rw [h] at e; exact (Option.some.inj e).symm⟩
theorem vk_X9_wouldGo : VK yX9_wouldGo := ⟨gws_in 1676 (by decide +kernel) rfl, gws_sel 94 (by decide +kernel) rfl⟩
theorem me_X9_isOpen : Cond.code yX9_isOpen cX9_isOpen 1 (some .boolean) ∈ gws ∧ Cond.initialized yX9_isOpen.cls ∈ gws ∧ (yX9_isOpen.cls ≠ "java/lang/invoke/MethodHandle" ∧ yX9_isOpen.cls ≠ "java/lang/invoke/VarHandle") ∧ ∀ sig, parseMethodDescriptor yX9_isOpen.desc = some sig → 1 = sig.parameters.length := ⟨gws_in 1587 (by decide +kernel) rfl, gws_in 10 (by decide +kernel) rfl, by decide +kernel, fun sig h => by
  have e : (parseMethodDescriptor yX9_isOpen.desc).map (fun s => s.parameters.length) = some 1 := by decide +kernel
  rw [h] at e; exact (Option.some.inj e).symm⟩
theorem sk_X9_isOpen : Cond.static yX9_isOpen ∈ gws := gws_in 1586 (by decide +kernel) rfl
theorem me_X9_puts : Cond.code yX9_puts cX9_puts 2 none ∈ gws ∧ Cond.initialized yX9_puts.cls ∈ gws ∧ (yX9_puts.cls ≠ "java/lang/invoke/MethodHandle" ∧ yX9_puts.cls ≠ "java/lang/invoke/VarHandle") ∧ ∀ sig, parseMethodDescriptor yX9_puts.desc = some sig → 1 = sig.parameters.length := ⟨gws_in 1580 (by decide +kernel) rfl, gws_in 10 (by decide +kernel) rfl, by decide +kernel, fun sig h => by
  have e : (parseMethodDescriptor yX9_puts.desc).map (fun s => s.parameters.length) = some 1 := by decide +kernel
  rw [h] at e; exact (Option.some.inj e).symm⟩
theorem vk_X9_puts : VK yX9_puts := ⟨gws_in 1579 (by decide +kernel) rfl, gws_sel 76 (by decide +kernel) rfl⟩
theorem me_X9_strength : Cond.code yX9_strength cX9_strength 1 (some .int) ∈ gws ∧ Cond.initialized yX9_strength.cls ∈ gws ∧ (yX9_strength.cls ≠ "java/lang/invoke/MethodHandle" ∧ yX9_strength.cls ≠ "java/lang/invoke/VarHandle") ∧ ∀ sig, parseMethodDescriptor yX9_strength.desc = some sig → 1 = sig.parameters.length := ⟨gws_in 1590 (by decide +kernel) rfl, gws_in 10 (by decide +kernel) rfl, by decide +kernel, fun sig h => by
  have e : (parseMethodDescriptor yX9_strength.desc).map (fun s => s.parameters.length) = some 1 := by decide +kernel
  rw [h] at e; exact (Option.some.inj e).symm⟩
theorem sk_X9_strength : Cond.static yX9_strength ∈ gws := gws_in 1589 (by decide +kernel) rfl
theorem me_X9_drops : Cond.code yX9_drops cX9_drops 2 none ∈ gws ∧ Cond.initialized yX9_drops.cls ∈ gws ∧ (yX9_drops.cls ≠ "java/lang/invoke/MethodHandle" ∧ yX9_drops.cls ≠ "java/lang/invoke/VarHandle") ∧ ∀ sig, parseMethodDescriptor yX9_drops.desc = some sig → 1 = sig.parameters.length := ⟨gws_in 1584 (by decide +kernel) rfl, gws_in 10 (by decide +kernel) rfl, by decide +kernel, fun sig h => by
  have e : (parseMethodDescriptor yX9_drops.desc).map (fun s => s.parameters.length) = some 1 := by decide +kernel
  rw [h] at e; exact (Option.some.inj e).symm⟩
theorem vk_X9_drops : VK yX9_drops := ⟨gws_in 1583 (by decide +kernel) rfl, gws_sel 77 (by decide +kernel) rfl⟩
theorem me_X9_closes : Cond.code yX9_closes cX9_closes 1 none ∈ gws ∧ Cond.initialized yX9_closes.cls ∈ gws ∧ (yX9_closes.cls ≠ "java/lang/invoke/MethodHandle" ∧ yX9_closes.cls ≠ "java/lang/invoke/VarHandle") ∧ ∀ sig, parseMethodDescriptor yX9_closes.desc = some sig → 0 = sig.parameters.length := ⟨gws_in 1598 (by decide +kernel) rfl, gws_in 10 (by decide +kernel) rfl, by decide +kernel, fun sig h => by
  have e : (parseMethodDescriptor yX9_closes.desc).map (fun s => s.parameters.length) = some 0 := by decide +kernel
  rw [h] at e; exact (Option.some.inj e).symm⟩
theorem vk_X9_closes : VK yX9_closes := ⟨gws_in 1597 (by decide +kernel) rfl, gws_sel 79 (by decide +kernel) rfl⟩
theorem me_X9_copies : Cond.code yX9_copies cX9_copies 4 none ∈ gws ∧ Cond.initialized yX9_copies.cls ∈ gws ∧ (yX9_copies.cls ≠ "java/lang/invoke/MethodHandle" ∧ yX9_copies.cls ≠ "java/lang/invoke/VarHandle") ∧ ∀ sig, parseMethodDescriptor yX9_copies.desc = some sig → 2 = sig.parameters.length := ⟨gws_in 1606 (by decide +kernel) rfl, gws_in 10 (by decide +kernel) rfl, by decide +kernel, fun sig h => by
  have e : (parseMethodDescriptor yX9_copies.desc).map (fun s => s.parameters.length) = some 2 := by decide +kernel
  rw [h] at e; exact (Option.some.inj e).symm⟩
theorem vk_X9_copies : VK yX9_copies := ⟨gws_in 1605 (by decide +kernel) rfl, gws_sel 81 (by decide +kernel) rfl⟩
theorem me_X9_laysMatch : Cond.code yX9_laysMatch cX9_laysMatch 5 none ∈ gws ∧ Cond.initialized yX9_laysMatch.cls ∈ gws ∧ (yX9_laysMatch.cls ≠ "java/lang/invoke/MethodHandle" ∧ yX9_laysMatch.cls ≠ "java/lang/invoke/VarHandle") ∧ ∀ sig, parseMethodDescriptor yX9_laysMatch.desc = some sig → 0 = sig.parameters.length := ⟨gws_in 1669 (by decide +kernel) rfl, gws_in 10 (by decide +kernel) rfl, by decide +kernel, fun sig h => by
  have e : (parseMethodDescriptor yX9_laysMatch.desc).map (fun s => s.parameters.length) = some 0 := by decide +kernel
  rw [h] at e; exact (Option.some.inj e).symm⟩
theorem vk_X9_laysMatch : VK yX9_laysMatch := ⟨gws_in 1668 (by decide +kernel) rfl, gws_sel 92 (by decide +kernel) rfl⟩
theorem me_X9_needed : Cond.code yX9_needed cX9_needed 4 (some .int) ∈ gws ∧ Cond.initialized yX9_needed.cls ∈ gws ∧ (yX9_needed.cls ≠ "java/lang/invoke/MethodHandle" ∧ yX9_needed.cls ≠ "java/lang/invoke/VarHandle") ∧ ∀ sig, parseMethodDescriptor yX9_needed.desc = some sig → 0 = sig.parameters.length := ⟨gws_in 1665 (by decide +kernel) rfl, gws_in 10 (by decide +kernel) rfl, by decide +kernel, fun sig h => by
  have e : (parseMethodDescriptor yX9_needed.desc).map (fun s => s.parameters.length) = some 0 := by decide +kernel
  rw [h] at e; exact (Option.some.inj e).symm⟩
theorem vk_X9_needed : VK yX9_needed := ⟨gws_in 1664 (by decide +kernel) rfl, gws_sel 91 (by decide +kernel) rfl⟩
theorem me_X9_soreIn : Cond.code yX9_soreIn cX9_soreIn 4 (some .int) ∈ gws ∧ Cond.initialized yX9_soreIn.cls ∈ gws ∧ (yX9_soreIn.cls ≠ "java/lang/invoke/MethodHandle" ∧ yX9_soreIn.cls ≠ "java/lang/invoke/VarHandle") ∧ ∀ sig, parseMethodDescriptor yX9_soreIn.desc = some sig → 1 = sig.parameters.length := ⟨gws_in 1645 (by decide +kernel) rfl, gws_in 10 (by decide +kernel) rfl, by decide +kernel, fun sig h => by
  have e : (parseMethodDescriptor yX9_soreIn.desc).map (fun s => s.parameters.length) = some 1 := by decide +kernel
  rw [h] at e; exact (Option.some.inj e).symm⟩
theorem vk_X9_soreIn : VK yX9_soreIn := ⟨gws_in 1644 (by decide +kernel) rfl, gws_sel 87 (by decide +kernel) rfl⟩
theorem me_X9_taken : Cond.code yX9_taken cX9_taken 3 (some .int) ∈ gws ∧ Cond.initialized yX9_taken.cls ∈ gws ∧ (yX9_taken.cls ≠ "java/lang/invoke/MethodHandle" ∧ yX9_taken.cls ≠ "java/lang/invoke/VarHandle") ∧ ∀ sig, parseMethodDescriptor yX9_taken.desc = some sig → 0 = sig.parameters.length := ⟨gws_in 1633 (by decide +kernel) rfl, gws_in 10 (by decide +kernel) rfl, by decide +kernel, fun sig h => by
  have e : (parseMethodDescriptor yX9_taken.desc).map (fun s => s.parameters.length) = some 0 := by decide +kernel
  rw [h] at e; exact (Option.some.inj e).symm⟩
theorem vk_X9_taken : VK yX9_taken := ⟨gws_in 1632 (by decide +kernel) rfl, gws_sel 84 (by decide +kernel) rfl⟩
theorem me_X9_tightNow : Cond.code yX9_tightNow cX9_tightNow 3 (some .int) ∈ gws ∧ Cond.initialized yX9_tightNow.cls ∈ gws ∧ (yX9_tightNow.cls ≠ "java/lang/invoke/MethodHandle" ∧ yX9_tightNow.cls ≠ "java/lang/invoke/VarHandle") ∧ ∀ sig, parseMethodDescriptor yX9_tightNow.desc = some sig → 1 = sig.parameters.length := ⟨gws_in 1653 (by decide +kernel) rfl, gws_in 10 (by decide +kernel) rfl, by decide +kernel, fun sig h => by
  have e : (parseMethodDescriptor yX9_tightNow.desc).map (fun s => s.parameters.length) = some 1 := by decide +kernel
  rw [h] at e; exact (Option.some.inj e).symm⟩
theorem vk_X9_tightNow : VK yX9_tightNow := ⟨gws_in 1652 (by decide +kernel) rfl, gws_sel 89 (by decide +kernel) rfl⟩
theorem me_X9_tightest : Cond.code yX9_tightest cX9_tightest 3 (some .int) ∈ gws ∧ Cond.initialized yX9_tightest.cls ∈ gws ∧ (yX9_tightest.cls ≠ "java/lang/invoke/MethodHandle" ∧ yX9_tightest.cls ≠ "java/lang/invoke/VarHandle") ∧ ∀ sig, parseMethodDescriptor yX9_tightest.desc = some sig → 0 = sig.parameters.length := ⟨gws_in 1649 (by decide +kernel) rfl, gws_in 10 (by decide +kernel) rfl, by decide +kernel, fun sig h => by
  have e : (parseMethodDescriptor yX9_tightest.desc).map (fun s => s.parameters.length) = some 0 := by decide +kernel
  rw [h] at e; exact (Option.some.inj e).symm⟩
theorem vk_X9_tightest : VK yX9_tightest := ⟨gws_in 1648 (by decide +kernel) rfl, gws_sel 88 (by decide +kernel) rfl⟩
theorem me_X9_isSign : Cond.code yX9_isSign cX9_isSign 2 (some .boolean) ∈ gws ∧ Cond.initialized yX9_isSign.cls ∈ gws ∧ (yX9_isSign.cls ≠ "java/lang/invoke/MethodHandle" ∧ yX9_isSign.cls ≠ "java/lang/invoke/VarHandle") ∧ ∀ sig, parseMethodDescriptor yX9_isSign.desc = some sig → 1 = sig.parameters.length := ⟨gws_in 1564 (by decide +kernel) rfl, gws_in 10 (by decide +kernel) rfl, by decide +kernel, fun sig h => by
  have e : (parseMethodDescriptor yX9_isSign.desc).map (fun s => s.parameters.length) = some 1 := by decide +kernel
  rw [h] at e; exact (Option.some.inj e).symm⟩
theorem vk_X9_isSign : VK yX9_isSign := ⟨gws_in 1563 (by decide +kernel) rfl, gws_sel 72 (by decide +kernel) rfl⟩
theorem me_X9_deeper : Cond.code yX9_deeper cX9_deeper 1 none ∈ gws ∧ Cond.initialized yX9_deeper.cls ∈ gws ∧ (yX9_deeper.cls ≠ "java/lang/invoke/MethodHandle" ∧ yX9_deeper.cls ≠ "java/lang/invoke/VarHandle") ∧ ∀ sig, parseMethodDescriptor yX9_deeper.desc = some sig → 0 = sig.parameters.length := ⟨gws_in 1560 (by decide +kernel) rfl, gws_in 10 (by decide +kernel) rfl, by decide +kernel, fun sig h => by
  have e : (parseMethodDescriptor yX9_deeper.desc).map (fun s => s.parameters.length) = some 0 := by decide +kernel
  rw [h] at e; exact (Option.some.inj e).symm⟩
theorem vk_X9_deeper : VK yX9_deeper := ⟨gws_in 1559 (by decide +kernel) rfl, gws_sel 71 (by decide +kernel) rfl⟩
theorem me_X9_draw : Cond.code yX9_draw cX9_draw 2 (some .int) ∈ gws ∧ Cond.initialized yX9_draw.cls ∈ gws ∧ (yX9_draw.cls ≠ "java/lang/invoke/MethodHandle" ∧ yX9_draw.cls ≠ "java/lang/invoke/VarHandle") ∧ ∀ sig, parseMethodDescriptor yX9_draw.desc = some sig → 1 = sig.parameters.length := ⟨gws_in 1914 (by decide +kernel) rfl, gws_in 10 (by decide +kernel) rfl, by decide +kernel, fun sig h => by
  have e : (parseMethodDescriptor yX9_draw.desc).map (fun s => s.parameters.length) = some 1 := by decide +kernel
  rw [h] at e; exact (Option.some.inj e).symm⟩
theorem vk_X9_draw : VK yX9_draw := ⟨gws_in 1913 (by decide +kernel) rfl, gws_sel 120 (by decide +kernel) rfl⟩
theorem me_X9_isOpened : Cond.code yX9_isOpened cX9_isOpened 2 (some .boolean) ∈ gws ∧ Cond.initialized yX9_isOpened.cls ∈ gws ∧ (yX9_isOpened.cls ≠ "java/lang/invoke/MethodHandle" ∧ yX9_isOpened.cls ≠ "java/lang/invoke/VarHandle") ∧ ∀ sig, parseMethodDescriptor yX9_isOpened.desc = some sig → 0 = sig.parameters.length := ⟨gws_in 1594 (by decide +kernel) rfl, gws_in 10 (by decide +kernel) rfl, by decide +kernel, fun sig h => by
  have e : (parseMethodDescriptor yX9_isOpened.desc).map (fun s => s.parameters.length) = some 0 := by decide +kernel
  rw [h] at e; exact (Option.some.inj e).symm⟩
theorem vk_X9_isOpened : VK yX9_isOpened := ⟨gws_in 1593 (by decide +kernel) rfl, gws_sel 78 (by decide +kernel) rfl⟩
theorem me_X9_spelled : Cond.code yX9_spelled cX9_spelled 8 (some .long) ∈ gws ∧ Cond.initialized yX9_spelled.cls ∈ gws ∧ (yX9_spelled.cls ≠ "java/lang/invoke/MethodHandle" ∧ yX9_spelled.cls ≠ "java/lang/invoke/VarHandle") ∧ ∀ sig, parseMethodDescriptor yX9_spelled.desc = some sig → 6 = sig.parameters.length := ⟨gws_in 1527 (by decide +kernel) rfl, gws_in 10 (by decide +kernel) rfl, by decide +kernel, fun sig h => by
  have e : (parseMethodDescriptor yX9_spelled.desc).map (fun s => s.parameters.length) = some 6 := by decide +kernel
  rw [h] at e; exact (Option.some.inj e).symm⟩
theorem sk_X9_spelled : Cond.static yX9_spelled ∈ gws := gws_in 1526 (by decide +kernel) rfl
theorem me_X9_letters : Cond.code yX9_letters cX9_letters 1 (some .long) ∈ gws ∧ Cond.initialized yX9_letters.cls ∈ gws ∧ (yX9_letters.cls ≠ "java/lang/invoke/MethodHandle" ∧ yX9_letters.cls ≠ "java/lang/invoke/VarHandle") ∧ ∀ sig, parseMethodDescriptor yX9_letters.desc = some sig → 1 = sig.parameters.length := ⟨gws_in 1524 (by decide +kernel) rfl, gws_in 10 (by decide +kernel) rfl, by decide +kernel, fun sig h => by
  have e : (parseMethodDescriptor yX9_letters.desc).map (fun s => s.parameters.length) = some 1 := by decide +kernel
  rw [h] at e; exact (Option.some.inj e).symm⟩
theorem sk_X9_letters : Cond.static yX9_letters ∈ gws := gws_in 1523 (by decide +kernel) rfl
theorem me_X9_knownWord : Cond.code yX9_knownWord cX9_knownWord 2 (some .int) ∈ gws ∧ Cond.initialized yX9_knownWord.cls ∈ gws ∧ (yX9_knownWord.cls ≠ "java/lang/invoke/MethodHandle" ∧ yX9_knownWord.cls ≠ "java/lang/invoke/VarHandle") ∧ ∀ sig, parseMethodDescriptor yX9_knownWord.desc = some sig → 0 = sig.parameters.length := ⟨gws_in 1521 (by decide +kernel) rfl, gws_in 10 (by decide +kernel) rfl, by decide +kernel, fun sig h => by
  have e : (parseMethodDescriptor yX9_knownWord.desc).map (fun s => s.parameters.length) = some 0 := by decide +kernel
  rw [h] at e; exact (Option.some.inj e).symm⟩
theorem vk_X9_knownWord : VK yX9_knownWord := ⟨gws_in 1520 (by decide +kernel) rfl, gws_sel 63 (by decide +kernel) rfl⟩
theorem me_X9_part : Cond.code yX9_part cX9_part 2 none ∈ gws ∧ Cond.initialized yX9_part.cls ∈ gws ∧ (yX9_part.cls ≠ "java/lang/invoke/MethodHandle" ∧ yX9_part.cls ≠ "java/lang/invoke/VarHandle") ∧ ∀ sig, parseMethodDescriptor yX9_part.desc = some sig → 0 = sig.parameters.length := ⟨gws_in 1576 (by decide +kernel) rfl, gws_in 10 (by decide +kernel) rfl, by decide +kernel, fun sig h => by
  have e : (parseMethodDescriptor yX9_part.desc).map (fun s => s.parameters.length) = some 0 := by decide +kernel
  rw [h] at e; exact (Option.some.inj e).symm⟩
theorem vk_X9_part : VK yX9_part := ⟨gws_in 1575 (by decide +kernel) rfl, gws_sel 75 (by decide +kernel) rfl⟩
theorem me_X9_waitsFor : Cond.code yX9_waitsFor cX9_waitsFor 2 none ∈ gws ∧ Cond.initialized yX9_waitsFor.cls ∈ gws ∧ (yX9_waitsFor.cls ≠ "java/lang/invoke/MethodHandle" ∧ yX9_waitsFor.cls ≠ "java/lang/invoke/VarHandle") ∧ ∀ sig, parseMethodDescriptor yX9_waitsFor.desc = some sig → 1 = sig.parameters.length := ⟨gws_in 1572 (by decide +kernel) rfl, gws_in 10 (by decide +kernel) rfl, by decide +kernel, fun sig h => by
  have e : (parseMethodDescriptor yX9_waitsFor.desc).map (fun s => s.parameters.length) = some 1 := by decide +kernel
  rw [h] at e; exact (Option.some.inj e).symm⟩
theorem vk_X9_waitsFor : VK yX9_waitsFor := ⟨gws_in 1571 (by decide +kernel) rfl, gws_sel 74 (by decide +kernel) rfl⟩
theorem me_X9_operand : Cond.code yX9_operand cX9_operand 5 none ∈ gws ∧ Cond.initialized yX9_operand.cls ∈ gws ∧ (yX9_operand.cls ≠ "java/lang/invoke/MethodHandle" ∧ yX9_operand.cls ≠ "java/lang/invoke/VarHandle") ∧ ∀ sig, parseMethodDescriptor yX9_operand.desc = some sig → 1 = sig.parameters.length := ⟨gws_in 1568 (by decide +kernel) rfl, gws_in 10 (by decide +kernel) rfl, by decide +kernel, fun sig h => by
  have e : (parseMethodDescriptor yX9_operand.desc).map (fun s => s.parameters.length) = some 1 := by decide +kernel
  rw [h] at e; exact (Option.some.inj e).symm⟩
theorem vk_X9_operand : VK yX9_operand := ⟨gws_in 1567 (by decide +kernel) rfl, gws_sel 73 (by decide +kernel) rfl⟩
theorem me_X9_expression : Cond.code yX9_expression cX9_expression 4 none ∈ gws ∧ Cond.initialized yX9_expression.cls ∈ gws ∧ (yX9_expression.cls ≠ "java/lang/invoke/MethodHandle" ∧ yX9_expression.cls ≠ "java/lang/invoke/VarHandle") ∧ ∀ sig, parseMethodDescriptor yX9_expression.desc = some sig → 1 = sig.parameters.length := ⟨gws_in 1556 (by decide +kernel) rfl, gws_in 10 (by decide +kernel) rfl, by decide +kernel, fun sig h => by
  have e : (parseMethodDescriptor yX9_expression.desc).map (fun s => s.parameters.length) = some 1 := by decide +kernel
  rw [h] at e; exact (Option.some.inj e).symm⟩
theorem vk_X9_expression : VK yX9_expression := ⟨gws_in 1555 (by decide +kernel) rfl, gws_sel 70 (by decide +kernel) rfl⟩
theorem me_X9_lays : Cond.code yX9_lays cX9_lays 3 none ∈ gws ∧ Cond.initialized yX9_lays.cls ∈ gws ∧ (yX9_lays.cls ≠ "java/lang/invoke/MethodHandle" ∧ yX9_lays.cls ≠ "java/lang/invoke/VarHandle") ∧ ∀ sig, parseMethodDescriptor yX9_lays.desc = some sig → 1 = sig.parameters.length := ⟨gws_in 1487 (by decide +kernel) rfl, gws_in 10 (by decide +kernel) rfl, by decide +kernel, fun sig h => by
  have e : (parseMethodDescriptor yX9_lays.desc).map (fun s => s.parameters.length) = some 1 := by decide +kernel
  rw [h] at e; exact (Option.some.inj e).symm⟩
theorem vk_X9_lays : VK yX9_lays := ⟨gws_in 1486 (by decide +kernel) rfl, gws_sel 57 (by decide +kernel) rfl⟩
theorem me_X9_gains : Cond.code yX9_gains cX9_gains 8 (some .int) ∈ gws ∧ Cond.initialized yX9_gains.cls ∈ gws ∧ (yX9_gains.cls ≠ "java/lang/invoke/MethodHandle" ∧ yX9_gains.cls ≠ "java/lang/invoke/VarHandle") ∧ ∀ sig, parseMethodDescriptor yX9_gains.desc = some sig → 5 = sig.parameters.length := ⟨gws_in 1906 (by decide +kernel) rfl, gws_in 10 (by decide +kernel) rfl, by decide +kernel, fun sig h => by
  have e : (parseMethodDescriptor yX9_gains.desc).map (fun s => s.parameters.length) = some 5 := by decide +kernel
  rw [h] at e; exact (Option.some.inj e).symm⟩
theorem vk_X9_gains : VK yX9_gains := ⟨gws_in 1905 (by decide +kernel) rfl, gws_sel 119 (by decide +kernel) rfl⟩
theorem me_X9_isWhat : Cond.code yX9_isWhat cX9_isWhat 3 (some .boolean) ∈ gws ∧ Cond.initialized yX9_isWhat.cls ∈ gws ∧ (yX9_isWhat.cls ≠ "java/lang/invoke/MethodHandle" ∧ yX9_isWhat.cls ≠ "java/lang/invoke/VarHandle") ∧ ∀ sig, parseMethodDescriptor yX9_isWhat.desc = some sig → 2 = sig.parameters.length := ⟨gws_in 1715 (by decide +kernel) rfl, gws_in 10 (by decide +kernel) rfl, by decide +kernel, fun sig h => by
  have e : (parseMethodDescriptor yX9_isWhat.desc).map (fun s => s.parameters.length) = some 2 := by decide +kernel
  rw [h] at e; exact (Option.some.inj e).symm⟩
theorem vk_X9_isWhat : VK yX9_isWhat := ⟨gws_in 1714 (by decide +kernel) rfl, gws_sel 101 (by decide +kernel) rfl⟩
theorem me_X9_happens : Cond.code yX9_happens cX9_happens 3 none ∈ gws ∧ Cond.initialized yX9_happens.cls ∈ gws ∧ (yX9_happens.cls ≠ "java/lang/invoke/MethodHandle" ∧ yX9_happens.cls ≠ "java/lang/invoke/VarHandle") ∧ ∀ sig, parseMethodDescriptor yX9_happens.desc = some sig → 0 = sig.parameters.length := ⟨gws_in 1919 (by decide +kernel) rfl, gws_in 10 (by decide +kernel) rfl, by decide +kernel, fun sig h => by
  have e : (parseMethodDescriptor yX9_happens.desc).map (fun s => s.parameters.length) = some 0 := by decide +kernel
  rw [h] at e; exact (Option.some.inj e).symm⟩
theorem vk_X9_happens : VK yX9_happens := ⟨gws_in 1918 (by decide +kernel) rfl, gws_sel 121 (by decide +kernel) rfl⟩
theorem me_X9_off : Cond.code yX9_off cX9_off 2 (some .int) ∈ gws ∧ Cond.initialized yX9_off.cls ∈ gws ∧ (yX9_off.cls ≠ "java/lang/invoke/MethodHandle" ∧ yX9_off.cls ≠ "java/lang/invoke/VarHandle") ∧ ∀ sig, parseMethodDescriptor yX9_off.desc = some sig → 2 = sig.parameters.length := ⟨gws_in 1726 (by decide +kernel) rfl, gws_in 10 (by decide +kernel) rfl, by decide +kernel, fun sig h => by
  have e : (parseMethodDescriptor yX9_off.desc).map (fun s => s.parameters.length) = some 2 := by decide +kernel
  rw [h] at e; exact (Option.some.inj e).symm⟩
theorem sk_X9_off : Cond.static yX9_off ∈ gws := gws_in 1725 (by decide +kernel) rfl
theorem me_X9_nextDoor : Cond.code yX9_nextDoor cX9_nextDoor 4 (some .int) ∈ gws ∧ Cond.initialized yX9_nextDoor.cls ∈ gws ∧ (yX9_nextDoor.cls ≠ "java/lang/invoke/MethodHandle" ∧ yX9_nextDoor.cls ≠ "java/lang/invoke/VarHandle") ∧ ∀ sig, parseMethodDescriptor yX9_nextDoor.desc = some sig → 1 = sig.parameters.length := ⟨gws_in 1723 (by decide +kernel) rfl, gws_in 10 (by decide +kernel) rfl, by decide +kernel, fun sig h => by
  have e : (parseMethodDescriptor yX9_nextDoor.desc).map (fun s => s.parameters.length) = some 1 := by decide +kernel
  rw [h] at e; exact (Option.some.inj e).symm⟩
theorem vk_X9_nextDoor : VK yX9_nextDoor := ⟨gws_in 1722 (by decide +kernel) rfl, gws_sel 103 (by decide +kernel) rfl⟩
theorem me_X9_roomOf : Cond.code yX9_roomOf cX9_roomOf 3 (some .int) ∈ gws ∧ Cond.initialized yX9_roomOf.cls ∈ gws ∧ (yX9_roomOf.cls ≠ "java/lang/invoke/MethodHandle" ∧ yX9_roomOf.cls ≠ "java/lang/invoke/VarHandle") ∧ ∀ sig, parseMethodDescriptor yX9_roomOf.desc = some sig → 1 = sig.parameters.length := ⟨gws_in 1719 (by decide +kernel) rfl, gws_in 10 (by decide +kernel) rfl, by decide +kernel, fun sig h => by
  have e : (parseMethodDescriptor yX9_roomOf.desc).map (fun s => s.parameters.length) = some 1 := by decide +kernel
  rw [h] at e; exact (Option.some.inj e).symm⟩
theorem vk_X9_roomOf : VK yX9_roomOf := ⟨gws_in 1718 (by decide +kernel) rfl, gws_sel 102 (by decide +kernel) rfl⟩
theorem me_X9_isSeen : Cond.code yX9_isSeen cX9_isSeen 3 (some .boolean) ∈ gws ∧ Cond.initialized yX9_isSeen.cls ∈ gws ∧ (yX9_isSeen.cls ≠ "java/lang/invoke/MethodHandle" ∧ yX9_isSeen.cls ≠ "java/lang/invoke/VarHandle") ∧ ∀ sig, parseMethodDescriptor yX9_isSeen.desc = some sig → 0 = sig.parameters.length := ⟨gws_in 1886 (by decide +kernel) rfl, gws_in 10 (by decide +kernel) rfl, by decide +kernel, fun sig h => by
  have e : (parseMethodDescriptor yX9_isSeen.desc).map (fun s => s.parameters.length) = some 0 := by decide +kernel
  rw [h] at e; exact (Option.some.inj e).symm⟩
theorem vk_X9_isSeen : VK yX9_isSeen := ⟨gws_in 1885 (by decide +kernel) rfl, gws_sel 117 (by decide +kernel) rfl⟩
theorem me_X9_isGuess : Cond.code yX9_isGuess cX9_isGuess 3 (some .boolean) ∈ gws ∧ Cond.initialized yX9_isGuess.cls ∈ gws ∧ (yX9_isGuess.cls ≠ "java/lang/invoke/MethodHandle" ∧ yX9_isGuess.cls ≠ "java/lang/invoke/VarHandle") ∧ ∀ sig, parseMethodDescriptor yX9_isGuess.desc = some sig → 1 = sig.parameters.length := ⟨gws_in 1890 (by decide +kernel) rfl, gws_in 10 (by decide +kernel) rfl, by decide +kernel, fun sig h => by
  have e : (parseMethodDescriptor yX9_isGuess.desc).map (fun s => s.parameters.length) = some 1 := by decide +kernel
  rw [h] at e; exact (Option.some.inj e).symm⟩
theorem vk_X9_isGuess : VK yX9_isGuess := ⟨gws_in 1889 (by decide +kernel) rfl, gws_sel 118 (by decide +kernel) rfl⟩
theorem me_X9_need : Cond.code yX9_need cX9_need 2 none ∈ gws ∧ Cond.initialized yX9_need.cls ∈ gws ∧ (yX9_need.cls ≠ "java/lang/invoke/MethodHandle" ∧ yX9_need.cls ≠ "java/lang/invoke/VarHandle") ∧ ∀ sig, parseMethodDescriptor yX9_need.desc = some sig → 1 = sig.parameters.length := ⟨gws_in 1602 (by decide +kernel) rfl, gws_in 10 (by decide +kernel) rfl, by decide +kernel, fun sig h => by
  have e : (parseMethodDescriptor yX9_need.desc).map (fun s => s.parameters.length) = some 1 := by decide +kernel
  rw [h] at e; exact (Option.some.inj e).symm⟩
theorem vk_X9_need : VK yX9_need := ⟨gws_in 1601 (by decide +kernel) rfl, gws_sel 80 (by decide +kernel) rfl⟩
theorem me_X9_number : Cond.code yX9_number cX9_number 4 (some .int) ∈ gws ∧ Cond.initialized yX9_number.cls ∈ gws ∧ (yX9_number.cls ≠ "java/lang/invoke/MethodHandle" ∧ yX9_number.cls ≠ "java/lang/invoke/VarHandle") ∧ ∀ sig, parseMethodDescriptor yX9_number.desc = some sig → 2 = sig.parameters.length := ⟨gws_in 1544 (by decide +kernel) rfl, gws_in 10 (by decide +kernel) rfl, by decide +kernel, fun sig h => by
  have e : (parseMethodDescriptor yX9_number.desc).map (fun s => s.parameters.length) = some 2 := by decide +kernel
  rw [h] at e; exact (Option.some.inj e).symm⟩
theorem vk_X9_number : VK yX9_number := ⟨gws_in 1543 (by decide +kernel) rfl, gws_sel 67 (by decide +kernel) rfl⟩
theorem me_X9_readsDamp : Cond.code yX9_readsDamp cX9_readsDamp 3 none ∈ gws ∧ Cond.initialized yX9_readsDamp.cls ∈ gws ∧ (yX9_readsDamp.cls ≠ "java/lang/invoke/MethodHandle" ∧ yX9_readsDamp.cls ≠ "java/lang/invoke/VarHandle") ∧ ∀ sig, parseMethodDescriptor yX9_readsDamp.desc = some sig → 0 = sig.parameters.length := ⟨gws_in 1552 (by decide +kernel) rfl, gws_in 10 (by decide +kernel) rfl, by decide +kernel, fun sig h => by
  have e : (parseMethodDescriptor yX9_readsDamp.desc).map (fun s => s.parameters.length) = some 0 := by decide +kernel
  rw [h] at e; exact (Option.some.inj e).symm⟩
theorem vk_X9_readsDamp : VK yX9_readsDamp := ⟨gws_in 1551 (by decide +kernel) rfl, gws_sel 69 (by decide +kernel) rfl⟩
theorem me_X9_readsHouse : Cond.code yX9_readsHouse cX9_readsHouse 2 none ∈ gws ∧ Cond.initialized yX9_readsHouse.cls ∈ gws ∧ (yX9_readsHouse.cls ≠ "java/lang/invoke/MethodHandle" ∧ yX9_readsHouse.cls ≠ "java/lang/invoke/VarHandle") ∧ ∀ sig, parseMethodDescriptor yX9_readsHouse.desc = some sig → 0 = sig.parameters.length := ⟨gws_in 1540 (by decide +kernel) rfl, gws_in 10 (by decide +kernel) rfl, by decide +kernel, fun sig h => by
  have e : (parseMethodDescriptor yX9_readsHouse.desc).map (fun s => s.parameters.length) = some 0 := by decide +kernel
  rw [h] at e; exact (Option.some.inj e).symm⟩
theorem vk_X9_readsHouse : VK yX9_readsHouse := ⟨gws_in 1539 (by decide +kernel) rfl, gws_sel 66 (by decide +kernel) rfl⟩
theorem me_X9_readsPerson : Cond.code yX9_readsPerson cX9_readsPerson 2 none ∈ gws ∧ Cond.initialized yX9_readsPerson.cls ∈ gws ∧ (yX9_readsPerson.cls ≠ "java/lang/invoke/MethodHandle" ∧ yX9_readsPerson.cls ≠ "java/lang/invoke/VarHandle") ∧ ∀ sig, parseMethodDescriptor yX9_readsPerson.desc = some sig → 0 = sig.parameters.length := ⟨gws_in 1548 (by decide +kernel) rfl, gws_in 10 (by decide +kernel) rfl, by decide +kernel, fun sig h => by
  have e : (parseMethodDescriptor yX9_readsPerson.desc).map (fun s => s.parameters.length) = some 0 := by decide +kernel
  rw [h] at e; exact (Option.some.inj e).symm⟩
theorem vk_X9_readsPerson : VK yX9_readsPerson := ⟨gws_in 1547 (by decide +kernel) rfl, gws_sel 68 (by decide +kernel) rfl⟩
theorem me_X9_line : Cond.code yX9_line cX9_line 2 none ∈ gws ∧ Cond.initialized yX9_line.cls ∈ gws ∧ (yX9_line.cls ≠ "java/lang/invoke/MethodHandle" ∧ yX9_line.cls ≠ "java/lang/invoke/VarHandle") ∧ ∀ sig, parseMethodDescriptor yX9_line.desc = some sig → 0 = sig.parameters.length := ⟨gws_in 1517 (by decide +kernel) rfl, gws_in 10 (by decide +kernel) rfl, by decide +kernel, fun sig h => by
  have e : (parseMethodDescriptor yX9_line.desc).map (fun s => s.parameters.length) = some 0 := by decide +kernel
  rw [h] at e; exact (Option.some.inj e).symm⟩
theorem vk_X9_line : VK yX9_line := ⟨gws_in 1516 (by decide +kernel) rfl, gws_sel 62 (by decide +kernel) rfl⟩
theorem me_X9_ringOf : Cond.code yX9_ringOf cX9_ringOf 4 (some .int) ∈ gws ∧ Cond.initialized yX9_ringOf.cls ∈ gws ∧ (yX9_ringOf.cls ≠ "java/lang/invoke/MethodHandle" ∧ yX9_ringOf.cls ≠ "java/lang/invoke/VarHandle") ∧ ∀ sig, parseMethodDescriptor yX9_ringOf.desc = some sig → 1 = sig.parameters.length := ⟨gws_in 1854 (by decide +kernel) rfl, gws_in 10 (by decide +kernel) rfl, by decide +kernel, fun sig h => by
  have e : (parseMethodDescriptor yX9_ringOf.desc).map (fun s => s.parameters.length) = some 1 := by decide +kernel
  rw [h] at e; exact (Option.some.inj e).symm⟩
theorem vk_X9_ringOf : VK yX9_ringOf := ⟨gws_in 1853 (by decide +kernel) rfl, gws_sel 116 (by decide +kernel) rfl⟩
theorem me_X9_wantOf : Cond.code yX9_wantOf cX9_wantOf 5 (some .int) ∈ gws ∧ Cond.initialized yX9_wantOf.cls ∈ gws ∧ (yX9_wantOf.cls ≠ "java/lang/invoke/MethodHandle" ∧ yX9_wantOf.cls ≠ "java/lang/invoke/VarHandle") ∧ ∀ sig, parseMethodDescriptor yX9_wantOf.desc = some sig → 2 = sig.parameters.length := ⟨gws_in 1850 (by decide +kernel) rfl, gws_in 10 (by decide +kernel) rfl, by decide +kernel, fun sig h => by
  have e : (parseMethodDescriptor yX9_wantOf.desc).map (fun s => s.parameters.length) = some 2 := by decide +kernel
  rw [h] at e; exact (Option.some.inj e).symm⟩
theorem vk_X9_wantOf : VK yX9_wantOf := ⟨gws_in 1849 (by decide +kernel) rfl, gws_sel 115 (by decide +kernel) rfl⟩
theorem me_X9_trades : Cond.code yX9_trades cX9_trades 5 none ∈ gws ∧ Cond.initialized yX9_trades.cls ∈ gws ∧ (yX9_trades.cls ≠ "java/lang/invoke/MethodHandle" ∧ yX9_trades.cls ≠ "java/lang/invoke/VarHandle") ∧ ∀ sig, parseMethodDescriptor yX9_trades.desc = some sig → 0 = sig.parameters.length := ⟨gws_in 1846 (by decide +kernel) rfl, gws_in 10 (by decide +kernel) rfl, by decide +kernel, fun sig h => by
  have e : (parseMethodDescriptor yX9_trades.desc).map (fun s => s.parameters.length) = some 0 := by decide +kernel
  rw [h] at e; exact (Option.some.inj e).symm⟩
theorem vk_X9_trades : VK yX9_trades := ⟨gws_in 1845 (by decide +kernel) rfl, gws_sel 114 (by decide +kernel) rfl⟩
theorem me_J0_length : Cond.code yJ0_length_8abf5 cJ0_length_8abf5 1 (some .int) ∈ gws ∧ Cond.initialized yJ0_length_8abf5.cls ∈ gws ∧ (yJ0_length_8abf5.cls ≠ "java/lang/invoke/MethodHandle" ∧ yJ0_length_8abf5.cls ≠ "java/lang/invoke/VarHandle") ∧ ∀ sig, parseMethodDescriptor yJ0_length_8abf5.desc = some sig → 0 = sig.parameters.length := ⟨gws_in 569 (by decide +kernel) rfl, gws_in 16 (by decide +kernel) rfl, by decide +kernel, fun sig h => by
  have e : (parseMethodDescriptor yJ0_length_8abf5.desc).map (fun s => s.parameters.length) = some 0 := by decide +kernel
  rw [h] at e; exact (Option.some.inj e).symm⟩
theorem vk_J0_length : VK yJ0_length_8abf5 := ⟨gws_in 567 (by decide +kernel) rfl, gws_in 568 (by decide +kernel) rfl⟩
theorem me_J0_charAt : Cond.code yJ0_charAt_5068e cJ0_charAt_5068e 2 (some .char) ∈ gws ∧ Cond.initialized yJ0_charAt_5068e.cls ∈ gws ∧ (yJ0_charAt_5068e.cls ≠ "java/lang/invoke/MethodHandle" ∧ yJ0_charAt_5068e.cls ≠ "java/lang/invoke/VarHandle") ∧ ∀ sig, parseMethodDescriptor yJ0_charAt_5068e.desc = some sig → 1 = sig.parameters.length := ⟨gws_in 579 (by decide +kernel) rfl, gws_in 16 (by decide +kernel) rfl, by decide +kernel, fun sig h => by
  have e : (parseMethodDescriptor yJ0_charAt_5068e.desc).map (fun s => s.parameters.length) = some 1 := by decide +kernel
  rw [h] at e; exact (Option.some.inj e).symm⟩
theorem vk_J0_charAt : VK yJ0_charAt_5068e := ⟨gws_in 577 (by decide +kernel) rfl, gws_in 578 (by decide +kernel) rfl⟩
theorem ml_RX8_1 : Cond.methodLink RX8 1 Lib.objectInit ∈ gws := gws_in 30 (by decide +kernel) rfl
theorem lk_RX8_9 : LK RX8 9 yX3_init cX3_init 1 none 0 := ⟨gws_in 35 (by decide +kernel) rfl, me_X3_init⟩
theorem lk_RX8_22 : LK RX8 22 yX2_init cX2_init 1 none 0 := ⟨gws_in 80 (by decide +kernel) rfl, me_X2_init⟩
theorem lk_RX8_32 : LK RX8 32 yX6_init cX6_init 1 none 0 := ⟨gws_in 150 (by decide +kernel) rfl, me_X6_init⟩
theorem lk_RX8_42 : LK RX8 42 yX0_init cX0_init 1 none 0 := ⟨gws_in 209 (by decide +kernel) rfl, me_X0_init⟩
theorem lk_RX8_49 : LK RX8 49 yX5_init cX5_init 1 none 0 := ⟨gws_in 227 (by decide +kernel) rfl, me_X5_init⟩
theorem lk_RX8_73 : LK RX8 73 yX1_init cX1_init 1 none 0 := ⟨gws_in 246 (by decide +kernel) rfl, me_X1_init⟩
theorem lk_RX8_80 : LK RX8 80 yX7_init cX7_init 1 none 0 := ⟨gws_in 265 (by decide +kernel) rfl, me_X7_init⟩
theorem lk_RX8_89 : LK RX8 89 yX3_taped cX3_taped 1 (some .int) 0 := ⟨gws_in 335 (by decide +kernel) rfl, me_X3_taped⟩
theorem lk_RX8_93 : LK RX8 93 yX3_append cX3_append 3 none 1 := ⟨gws_in 339 (by decide +kernel) rfl, me_X3_append⟩
theorem lk_RX8_104 : LK RX8 104 yX3_read cX3_read 4 (some .int) 2 := ⟨gws_in 540 (by decide +kernel) rfl, me_X3_read⟩
theorem lk_RX8_108 : LK RX8 108 yX3_place cX3_place 1 (some .int) 0 := ⟨gws_in 714 (by decide +kernel) rfl, me_X3_place⟩
theorem lk_RX8_111 : LK RX8 111 yX2_begin cX2_begin 3 none 1 := ⟨gws_in 718 (by decide +kernel) rfl, me_X2_begin⟩
theorem lk_RX8_115 : LK RX8 115 yX0_clear cX0_clear 1 none 0 := ⟨gws_in 728 (by decide +kernel) rfl, me_X0_clear⟩
theorem lk_RX8_118 : LK RX8 118 yX5_clear cX5_clear 1 none 0 := ⟨gws_in 444 (by decide +kernel) rfl, me_X5_clear⟩
theorem lk_RX8_128 : LK RX8 128 yX2_dampOf cX2_dampOf 2 (some .int) 1 := ⟨gws_in 375 (by decide +kernel) rfl, me_X2_dampOf⟩
theorem lk_RX8_135 : LK RX8 135 yX8_housesInUse cX8_housesInUse 3 (some .int) 0 := ⟨gws_in 740 (by decide +kernel) rfl, me_X8_housesInUse⟩
theorem lk_RX8_138 : LK RX8 138 yX8_lodgers cX8_lodgers 4 (some .int) 1 := ⟨gws_in 744 (by decide +kernel) rfl, me_X8_lodgers⟩
theorem lk_RX8_141 : LK RX8 141 yX8_allBlisters cX8_allBlisters 4 (some .int) 1 := ⟨gws_in 748 (by decide +kernel) rfl, me_X8_allBlisters⟩
theorem lk_RX8_144 : LK RX8 144 yX8_tightest cX8_tightest 5 (some .int) 0 := ⟨gws_in 752 (by decide +kernel) rfl, me_X8_tightest⟩
theorem lk_RX8_147 : LK RX8 147 yX8_needed cX8_needed 3 (some .int) 0 := ⟨gws_in 761 (by decide +kernel) rfl, me_X8_needed⟩
theorem lk_RX8_150 : LK RX8 150 yX0_many cX0_many 1 (some .int) 0 := ⟨gws_in 436 (by decide +kernel) rfl, me_X0_many⟩
theorem lk_RX8_153 : LK RX8 153 yX5_many cX5_many 1 (some .int) 0 := ⟨gws_in 800 (by decide +kernel) rfl, me_X5_many⟩
theorem lk_RX8_168 : LK RX8 168 yX8_tightNow cX8_tightNow 3 (some .int) 1 := ⟨gws_in 756 (by decide +kernel) rfl, me_X8_tightNow⟩
theorem lk_RX8_172 : LK RX8 172 yX6_tight cX6_tight 3 (some .int) 2 := ⟨gws_in 760 (by decide +kernel) rfl, me_X6_tight⟩
theorem lk_RX8_176 : LK RX8 176 yX1_solve cX1_solve 7 none 2 := ⟨gws_in 765 (by decide +kernel) rfl, me_X1_solve⟩
theorem lk_RX8_180 : LK RX8 180 yX1_lodgeWithout cX1_lodgeWithout 2 (some .int) 1 := ⟨gws_in 792 (by decide +kernel) rfl, me_X1_lodgeWithout⟩
theorem lk_RX8_183 : LK RX8 183 yX1_lodge cX1_lodge 1 (some .int) 0 := ⟨gws_in 796 (by decide +kernel) rfl, me_X1_lodge⟩
theorem lk_RX8_186 : LK RX8 186 yX8_needHouse cX8_needHouse 2 none 1 := ⟨gws_in 827 (by decide +kernel) rfl, me_X8_needHouse⟩
theorem lk_RX8_200 : LK RX8 200 yX6_isBurst cX6_isBurst 2 (some .boolean) 1 := ⟨gws_in 832 (by decide +kernel) rfl, me_X6_isBurst⟩
theorem lk_RX8_204 : LK RX8 204 yX8_room cX8_room 3 (some .int) 1 := ⟨gws_in 833 (by decide +kernel) rfl, me_X8_room⟩
theorem lk_RX8_207 : LK RX8 207 yX8_nextDoor cX8_nextDoor 6 (some .int) 1 := ⟨gws_in 838 (by decide +kernel) rfl, me_X8_nextDoor⟩
theorem ml_RX8_215 : Cond.methodLink RX8 215 Lib.Math.max.name ∈ gws := gws_in 837 (by decide +kernel) rfl
theorem ml_RX8_220 : Cond.methodLink RX8 220 Lib.Math.abs.name ∈ gws := gws_in 842 (by decide +kernel) rfl
theorem lk_RX8_223 : LK RX8 223 yX8_needPerson cX8_needPerson 2 none 1 := ⟨gws_in 853 (by decide +kernel) rfl, me_X8_needPerson⟩
theorem lk_RX8_231 : LK RX8 231 yX2_easing cX2_easing 6 (some .int) 4 := ⟨gws_in 866 (by decide +kernel) rfl, me_X2_easing⟩
theorem lk_RX8_235 : LK RX8 235 yX2_enters cX2_enters 5 (some .boolean) 4 := ⟨gws_in 878 (by decide +kernel) rfl, me_X2_enters⟩
theorem lk_RX8_239 : LK RX8 239 yX8_refuseAct cX8_refuseAct 1 (some .int) 0 := ⟨gws_in 351 (by decide +kernel) rfl, me_X8_refuseAct⟩
theorem lk_RX8_242 : LK RX8 242 yX0_keep cX0_keep 2 none 1 := ⟨gws_in 355 (by decide +kernel) rfl, me_X0_keep⟩
theorem lk_RX8_245 : LK RX8 245 yX8_pass cX8_pass 4 none 2 := ⟨gws_in 371 (by decide +kernel) rfl, me_X8_pass⟩
theorem lk_RX8_249 : LK RX8 249 yX8_entersNow cX8_entersNow 3 (some .boolean) 2 := ⟨gws_in 874 (by decide +kernel) rfl, me_X8_entersNow⟩
theorem lk_RX8_253 : LK RX8 253 yX6_settle cX6_settle 3 none 2 := ⟨gws_in 879 (by decide +kernel) rfl, me_X6_settle⟩
theorem lk_RX8_257 : LK RX8 257 yX6_leave cX6_leave 3 none 1 := ⟨gws_in 887 (by decide +kernel) rfl, me_X6_leave⟩
theorem lk_RX8_260 : LK RX8 260 yX8_mayMove cX8_mayMove 3 (some .boolean) 2 := ⟨gws_in 902 (by decide +kernel) rfl, me_X8_mayMove⟩
theorem lk_RX8_263 : LK RX8 263 yX8_settleOrLodge cX8_settleOrLodge 3 none 2 := ⟨gws_in 906 (by decide +kernel) rfl, me_X8_settleOrLodge⟩
theorem lk_RX8_269 : LK RX8 269 yX0_takeBack cX0_takeBack 2 (some .boolean) 1 := ⟨gws_in 432 (by decide +kernel) rfl, me_X0_takeBack⟩
theorem lk_RX8_273 : LK RX8 273 yX2_pass cX2_pass 4 none 2 := ⟨gws_in 386 (by decide +kernel) rfl, me_X2_pass⟩
theorem lk_RX8_274 : LK RX8 274 yX6_copy cX6_copy 2 none 1 := ⟨gws_in 452 (by decide +kernel) rfl, me_X6_copy⟩
theorem lk_RX8_277 : LK RX8 277 yX8_needWhat cX8_needWhat 2 none 2 := ⟨gws_in 917 (by decide +kernel) rfl, me_X8_needWhat⟩
theorem lk_RX8_280 : LK RX8 280 yX8_needDays cX8_needDays 2 none 2 := ⟨gws_in 921 (by decide +kernel) rfl, me_X8_needDays⟩
theorem lk_RX8_283 : LK RX8 283 yX8_after cX8_after 2 (some (.object "HornHouses$State")) 1 := ⟨gws_in 925 (by decide +kernel) rfl, me_X8_after⟩
theorem lk_RX8_287 : LK RX8 287 yX8_daysTillBurst cX8_daysTillBurst 3 (some .int) 1 := ⟨gws_in 943 (by decide +kernel) rfl, me_X8_daysTillBurst⟩
theorem lk_RX8_290 : LK RX8 290 yX2_passAlone cX2_passAlone 5 none 3 := ⟨gws_in 947 (by decide +kernel) rfl, me_X2_passAlone⟩
theorem lk_RX8_294 : LK RX8 294 yX8_leastBit cX8_leastBit 2 (some .int) 1 := ⟨gws_in 972 (by decide +kernel) rfl, me_X8_leastBit⟩
theorem lk_RX8_297 : LK RX8 297 yX1_tight cX1_tight 1 (some .int) 0 := ⟨gws_in 989 (by decide +kernel) rfl, me_X1_tight⟩
theorem lk_RX8_299 : LK RX8 299 yX1_houseOf cX1_houseOf 5 (some .int) 1 := ⟨gws_in 1000 (by decide +kernel) rfl, me_X1_houseOf⟩
theorem lk_RX8_302 : LK RX8 302 yX7_solve cX7_solve 5 none 2 := ⟨gws_in 1011 (by decide +kernel) rfl, me_X7_solve⟩
theorem ml_RX8_308 : Cond.methodLink RX8 308 Lib.Math.min.name ∈ gws := gws_in 1054 (by decide +kernel) rfl
theorem lk_RX8_311 : LK RX8 311 yX5_add cX5_add 4 none 3 := ⟨gws_in 1062 (by decide +kernel) rfl, me_X5_add⟩
theorem lk_RX8_315 : LK RX8 315 yX8_agreeingHouses cX8_agreeingHouses 3 (some .int) 0 := ⟨gws_in 1073 (by decide +kernel) rfl, me_X8_agreeingHouses⟩
theorem lk_RX8_318 : LK RX8 318 yX8_allHouses cX8_allHouses 1 (some .int) 0 := ⟨gws_in 1090 (by decide +kernel) rfl, me_X8_allHouses⟩
theorem lk_RX8_321 : LK RX8 321 yX8_findFitting cX8_findFitting 5 none 0 := ⟨gws_in 1094 (by decide +kernel) rfl, me_X8_findFitting⟩
theorem lk_RX8_324 : LK RX8 324 yX8_leastSize cX8_leastSize 3 (some .int) 1 := ⟨gws_in 1102 (by decide +kernel) rfl, me_X8_leastSize⟩
theorem lk_RX8_328 : LK RX8 328 yJ13_bitCount_95d88 cJ13_bitCount_95d88 2 (some .int) 1 := ⟨gws_in 1105 (by decide +kernel) rfl, me_J13_bitCount_95d88⟩
theorem lk_RX8_333 : LK RX8 333 yX8_agreesFromLater cX8_agreesFromLater 4 (some .boolean) 1 := ⟨gws_in 1077 (by decide +kernel) rfl, me_X8_agreesFromLater⟩
theorem lk_RX8_336 : LK RX8 336 yX5_longest cX5_longest 4 (some .int) 1 := ⟨gws_in 1081 (by decide +kernel) rfl, me_X5_longest⟩
theorem lk_RX8_339 : LK RX8 339 yX5_agrees cX5_agrees 5 (some .boolean) 3 := ⟨gws_in 1086 (by decide +kernel) rfl, me_X5_agrees⟩
theorem lk_RX8_343 : LK RX8 343 yX8_fittingSizes cX8_fittingSizes 6 (some .long) 2 := ⟨gws_in 1098 (by decide +kernel) rfl, me_X8_fittingSizes⟩
theorem lk_RX8_347 : LK RX8 347 yX8_unlikeWorn cX8_unlikeWorn 11 (some .int) 1 := ⟨gws_in 1118 (by decide +kernel) rfl, me_X8_unlikeWorn⟩
theorem lk_RX8_350 : LK RX8 350 yX8_wornAtSill cX8_wornAtSill 5 (some .int) 3 := ⟨gws_in 1122 (by decide +kernel) rfl, me_X8_wornAtSill⟩
theorem lk_RX8_356 : LK RX8 356 yX8_burstsByDamps cX8_burstsByDamps 5 (some .boolean) 3 := ⟨gws_in 1134 (by decide +kernel) rfl, me_X8_burstsByDamps⟩
theorem lk_RX8_359 : LK RX8 359 yX8_weight cX8_weight 5 (some .int) 3 := ⟨gws_in 1138 (by decide +kernel) rfl, me_X8_weight⟩
theorem lk_RX8_364 : LK RX8 364 yX8_stays cX8_stays 7 (some .boolean) 5 := ⟨gws_in 1149 (by decide +kernel) rfl, me_X8_stays⟩
theorem lk_RX8_368 : LK RX8 368 yX8_gain cX8_gain 6 (some .int) 5 := ⟨gws_in 1153 (by decide +kernel) rfl, me_X8_gain⟩
theorem lk_RX8_372 : LK RX8 372 yX8_comesFirst cX8_comesFirst 6 (some .boolean) 3 := ⟨gws_in 1157 (by decide +kernel) rfl, me_X8_comesFirst⟩
theorem lk_RX8_375 : LK RX8 375 yX8_drawAfter cX8_drawAfter 1 (some .int) 1 := ⟨gws_in 1168 (by decide +kernel) rfl, me_X8_drawAfter⟩
theorem lk_RX8_378 : LK RX8 378 yX8_draw cX8_draw 2 (some .int) 2 := ⟨gws_in 1172 (by decide +kernel) rfl, me_X8_draw⟩
theorem lk_RX8_381 : LK RX8 381 yX8_tryIn cX8_tryIn 5 none 3 := ⟨gws_in 1175 (by decide +kernel) rfl, me_X8_tryIn⟩
theorem lk_RX8_384 : LK RX8 384 yJ6_bitCount_0f7a4 cJ6_bitCount_0f7a4 1 (some .int) 1 := ⟨gws_in 1179 (by decide +kernel) rfl, me_J6_bitCount_0f7a4⟩
theorem lk_RX8_389 : LK RX8 389 yX2_grow cX2_grow 3 none 2 := ⟨gws_in 1199 (by decide +kernel) rfl, me_X2_grow⟩
theorem lk_RX8_392 : LK RX8 392 yX8_leastOfMost cX8_leastOfMost 5 (some .int) 2 := ⟨gws_in 1214 (by decide +kernel) rfl, me_X8_leastOfMost⟩
theorem lk_RX8_396 : LK RX8 396 yX2_dampOn cX2_dampOn 2 (some .int) 1 := ⟨gws_in 1224 (by decide +kernel) rfl, me_X2_dampOn⟩
theorem lk_RX8_404 : LK RX8 404 yX0_copy cX0_copy 3 none 1 := ⟨gws_in 453 (by decide +kernel) rfl, me_X0_copy⟩
theorem lk_RX8_407 : LK RX8 407 yX5_copy cX5_copy 2 none 1 := ⟨gws_in 457 (by decide +kernel) rfl, me_X5_copy⟩
theorem ml_RX0_3 : Cond.methodLink RX0 3 Lib.objectInit ∈ gws := gws_in 212 (by decide +kernel) rfl
theorem lk_RX0_24 : LK RX0 24 yX0_row cX0_row 3 (some (.object "HornHouses$State")) 1 := ⟨gws_in 359 (by decide +kernel) rfl, me_X0_row⟩
theorem lk_RX0_28 : LK RX0 28 yX6_copy cX6_copy 2 none 1 := ⟨gws_in 364 (by decide +kernel) rfl, me_X6_copy⟩
theorem lk_RX0_32 : LK RX0 32 yX6_init cX6_init 1 none 0 := ⟨gws_in 363 (by decide +kernel) rfl, me_X6_init⟩
theorem ml_RX1_3 : Cond.methodLink RX1 3 Lib.objectInit ∈ gws := gws_in 249 (by decide +kernel) rfl
theorem lk_RX1_28 : LK RX1 28 yJ7_fill_53178 cJ7_fill_53178 4 none 2 := ⟨gws_in 769 (by decide +kernel) rfl, me_J7_fill_53178⟩
theorem lk_RX1_34 : LK RX1 34 yX2_dampOf cX2_dampOf 2 (some .int) 1 := ⟨gws_in 770 (by decide +kernel) rfl, me_X2_dampOf⟩
theorem lk_RX1_41 : LK RX1 41 yX2_enters cX2_enters 5 (some .boolean) 4 := ⟨gws_in 771 (by decide +kernel) rfl, me_X2_enters⟩
theorem lk_RX1_45 : LK RX1 45 yX6_tight cX6_tight 3 (some .int) 2 := ⟨gws_in 783 (by decide +kernel) rfl, me_X6_tight⟩
theorem lk_RX1_51 : LK RX1 51 yX1_all cX1_all 1 (some .int) 0 := ⟨gws_in 784 (by decide +kernel) rfl, me_X1_all⟩
theorem lk_RX1_55 : LK RX1 55 yX1_pick cX1_pick 7 none 2 := ⟨gws_in 788 (by decide +kernel) rfl, me_X1_pick⟩
theorem ml_RX2_3 : Cond.methodLink RX2 3 Lib.objectInit ∈ gws := gws_in 83 (by decide +kernel) rfl
theorem lk_RX2_73 : LK RX2 73 yJ7_fill_53178 cJ7_fill_53178 4 none 2 := ⟨gws_in 722 (by decide +kernel) rfl, me_J7_fill_53178⟩
theorem ml_RX2_89 : Cond.methodLink RX2 89 arraycopyName ∈ gws := gws_in 723 (by decide +kernel) rfl
theorem lk_RX2_96 : LK RX2 96 yX6_settle cX6_settle 3 none 2 := ⟨gws_in 724 (by decide +kernel) rfl, me_X6_settle⟩
theorem lk_RX2_100 : LK RX2 100 yJ9_floorMod_7cf53 cJ9_floorMod_7cf53 3 (some .int) 2 := ⟨gws_in 383 (by decide +kernel) rfl, me_J9_floorMod_7cf53⟩
theorem lk_RX2_106 : LK RX2 106 yX2_dampOn cX2_dampOn 2 (some .int) 1 := ⟨gws_in 379 (by decide +kernel) rfl, me_X2_dampOn⟩
theorem lk_RX2_110 : LK RX2 110 yX2_tellFacts cX2_tellFacts 5 none 4 := ⟨gws_in 404 (by decide +kernel) rfl, me_X2_tellFacts⟩
theorem lk_RX2_114 : LK RX2 114 yX4_value cX4_value 6 (some .int) 2 := ⟨gws_in 409 (by decide +kernel) rfl, me_X4_value⟩
theorem ml_RX2_118 : Cond.methodLink RX2 118 Lib.Math.max.name ∈ gws := gws_in 408 (by decide +kernel) rfl
theorem ml_RX2_121 : Cond.methodLink RX2 121 Lib.Math.min.name ∈ gws := gws_in 401 (by decide +kernel) rfl
theorem lk_RX2_124 : LK RX2 124 yX6_isBurst cX6_isBurst 2 (some .boolean) 1 := ⟨gws_in 775 (by decide +kernel) rfl, me_X6_isBurst⟩
theorem lk_RX2_128 : LK RX2 128 yX6_tight cX6_tight 3 (some .int) 2 := ⟨gws_in 394 (by decide +kernel) rfl, me_X6_tight⟩
theorem lk_RX2_131 : LK RX2 131 yX2_easing cX2_easing 6 (some .int) 4 := ⟨gws_in 779 (by decide +kernel) rfl, me_X2_easing⟩
theorem lk_RX2_135 : LK RX2 135 yX2_wear cX2_wear 8 none 3 := ⟨gws_in 390 (by decide +kernel) rfl, me_X2_wear⟩
theorem lk_RX2_139 : LK RX2 139 yX2_grow cX2_grow 3 none 2 := ⟨gws_in 420 (by decide +kernel) rfl, me_X2_grow⟩
theorem lk_RX2_143 : LK RX2 143 yX6_leave cX6_leave 3 none 1 := ⟨gws_in 416 (by decide +kernel) rfl, me_X6_leave⟩
theorem ml_RX3_3 : Cond.methodLink RX3 3 Lib.objectInit ∈ gws := gws_in 38 (by decide +kernel) rfl
theorem ml_RX3_51 : Cond.methodLink RX3 51 Lib.Math.min.name ∈ gws := gws_in 544 (by decide +kernel) rfl
theorem lk_RX3_57 : LK RX3 57 yX2_clear cX2_clear 1 none 0 := ⟨gws_in 545 (by decide +kernel) rfl, me_X2_clear⟩
theorem lk_RX3_62 : LK RX3 62 yX3_advance cX3_advance 2 none 0 := ⟨gws_in 549 (by decide +kernel) rfl, me_X3_advance⟩
theorem lk_RX3_65 : LK RX3 65 yX3_line cX3_line 2 none 1 := ⟨gws_in 557 (by decide +kernel) rfl, me_X3_line⟩
theorem lk_RX3_69 : LK RX3 69 yX3_takeSign cX3_takeSign 2 none 1 := ⟨gws_in 710 (by decide +kernel) rfl, me_X3_takeSign⟩
theorem lk_RX3_73 : LK RX3 73 yX3_kindAt cX3_kindAt 3 (some .int) 1 := ⟨gws_in 553 (by decide +kernel) rfl, me_X3_kindAt⟩
theorem lk_RX3_77 : LK RX3 77 yJ0_length_8abf5 cJ0_length_8abf5 1 (some .int) 0 := ⟨gws_in 566 (by decide +kernel) rfl, me_J0_length⟩
theorem lk_RX3_82 : LK RX3 82 yJ0_charAt_5068e cJ0_charAt_5068e 2 (some .char) 1 := ⟨gws_in 576 (by decide +kernel) rfl, me_J0_charAt⟩
theorem lk_RX3_86 : LK RX3 86 yX3_isSign cX3_isSign 2 (some .boolean) 1 := ⟨gws_in 654 (by decide +kernel) rfl, me_X3_isSign⟩
theorem lk_RX3_90 : LK RX3 90 yX3_fail cX3_fail 2 none 1 := ⟨gws_in 618 (by decide +kernel) rfl, me_X3_fail⟩
theorem lk_RX3_96 : LK RX3 96 yX3_isWord cX3_isWord 4 (some .boolean) 1 := ⟨gws_in 562 (by decide +kernel) rfl, me_X3_isWord⟩
theorem lk_RX3_100 : LK RX3 100 yX3_houseLine cX3_houseLine 2 none 1 := ⟨gws_in 614 (by decide +kernel) rfl, me_X3_houseLine⟩
theorem lk_RX3_105 : LK RX3 105 yX3_personLine cX3_personLine 2 none 1 := ⟨gws_in 627 (by decide +kernel) rfl, me_X3_personLine⟩
theorem lk_RX3_110 : LK RX3 110 yX3_dampLine cX3_dampLine 3 none 1 := ⟨gws_in 641 (by decide +kernel) rfl, me_X3_dampLine⟩
theorem lk_RX3_115 : LK RX3 115 yX3_ruleLine cX3_ruleLine 4 none 2 := ⟨gws_in 646 (by decide +kernel) rfl, me_X3_ruleLine⟩
theorem lk_RX3_127 : LK RX3 127 yX3_takeNumber cX3_takeNumber 4 (some .int) 2 := ⟨gws_in 622 (by decide +kernel) rfl, me_X3_takeNumber⟩
theorem lk_RX3_150 : LK RX3 150 yX3_takeHome cX3_takeHome 3 (some .int) 1 := ⟨gws_in 632 (by decide +kernel) rfl, me_X3_takeHome⟩
theorem lk_RX3_154 : LK RX3 154 yX2_hasSomebodyAtFirst cX2_hasSomebodyAtFirst 3 (some .boolean) 1 := ⟨gws_in 636 (by decide +kernel) rfl, me_X2_hasSomebodyAtFirst⟩
theorem lk_RX3_170 : LK RX3 170 yX3_takeJoined cX3_takeJoined 7 none 2 := ⟨gws_in 650 (by decide +kernel) rfl, me_X3_takeJoined⟩
theorem lk_RX3_176 : LK RX3 176 yJ7_copyOf_59c91 cJ7_copyOf_59c91 3 (some (.array .int)) 2 := ⟨gws_in 689 (by decide +kernel) rfl, me_J7_copyOf_59c91⟩
theorem lk_RX3_182 : LK RX3 182 yX4_init cX4_init 2 none 1 := ⟨gws_in 701 (by decide +kernel) rfl, me_X4_init⟩
theorem lk_RX3_185 : LK RX3 185 yX3_takePart cX3_takePart 3 none 1 := ⟨gws_in 658 (by decide +kernel) rfl, me_X3_takePart⟩
theorem lk_RX3_188 : LK RX3 188 yX3_takeNots cX3_takeNots 2 (some .int) 0 := ⟨gws_in 676 (by decide +kernel) rfl, me_X3_takeNots⟩
theorem lk_RX3_191 : LK RX3 191 yX3_joinAt cX3_joinAt 2 (some .int) 1 := ⟨gws_in 681 (by decide +kernel) rfl, me_X3_joinAt⟩
theorem lk_RX3_194 : LK RX3 194 yX3_emit cX3_emit 2 none 1 := ⟨gws_in 672 (by decide +kernel) rfl, me_X3_emit⟩
theorem lk_RX3_203 : LK RX3 203 yX3_factHere cX3_factHere 1 (some .int) 0 := ⟨gws_in 662 (by decide +kernel) rfl, me_X3_factHere⟩
theorem ml_RX4_1 : Cond.methodLink RX4 1 Lib.objectInit ∈ gws := gws_in 704 (by decide +kernel) rfl
theorem lk_RX4_13 : LK RX4 13 yX4_join cX4_join 3 (some .int) 3 := ⟨gws_in 413 (by decide +kernel) rfl, me_X4_join⟩
theorem ml_RX5_3 : Cond.methodLink RX5 3 Lib.objectInit ∈ gws := gws_in 230 (by decide +kernel) rfl
theorem ml_RX5_25 : Cond.methodLink RX5 25 arraycopyName ∈ gws := gws_in 461 (by decide +kernel) rfl
theorem ml_RX5_31 : Cond.methodLink RX5 31 Lib.Math.max.name ∈ gws := gws_in 1085 (by decide +kernel) rfl
theorem ml_RX6_3 : Cond.methodLink RX6 3 Lib.objectInit ∈ gws := gws_in 153 (by decide +kernel) rfl
theorem lk_RX6_41 : LK RX6 41 yJ7_fill_53178 cJ7_fill_53178 4 none 2 := ⟨gws_in 154 (by decide +kernel) rfl, me_J7_fill_53178⟩
theorem ml_RX6_47 : Cond.methodLink RX6 47 arraycopyName ∈ gws := gws_in 368 (by decide +kernel) rfl
theorem ml_RX6_53 : Cond.methodLink RX6 53 Lib.Math.max.name ∈ gws := gws_in 398 (by decide +kernel) rfl
theorem ml_RX7_3 : Cond.methodLink RX7 3 Lib.objectInit ∈ gws := gws_in 268 (by decide +kernel) rfl
theorem lk_RX7_21 : LK RX7 21 yJ7_fill_53178 cJ7_fill_53178 4 none 2 := ⟨gws_in 1015 (by decide +kernel) rfl, me_J7_fill_53178⟩
theorem lk_RX7_38 : LK RX7 38 yX7_wish cX7_wish 5 none 3 := ⟨gws_in 1016 (by decide +kernel) rfl, me_X7_wish⟩
theorem lk_RX7_42 : LK RX7 42 yX7_closeRings cX7_closeRings 7 (some .int) 3 := ⟨gws_in 1024 (by decide +kernel) rfl, me_X7_closeRings⟩
theorem lk_RX7_46 : LK RX7 46 yX7_wanted cX7_wanted 9 (some .int) 4 := ⟨gws_in 1020 (by decide +kernel) rfl, me_X7_wanted⟩
theorem ml_RX7_62 : Cond.methodLink RX7 62 Lib.Math.abs.name ∈ gws := gws_in 1023 (by decide +kernel) rfl
theorem lk_RX7_68 : LK RX7 68 yX7_ringSteps cX7_ringSteps 5 (some .int) 2 := ⟨gws_in 1028 (by decide +kernel) rfl, me_X7_ringSteps⟩
theorem ml_RX9_1 : Cond.methodLink RX9 1 Lib.objectInit ∈ gws := gws_in 1287 (by decide +kernel) rfl
theorem lk_RX9_117 : LK RX9 117 yX9_lays cX9_lays 3 none 1 := ⟨gws_in 1484 (by decide +kernel) rfl, me_X9_lays⟩
theorem lk_RX9_127 : LK RX9 127 yX9_byteAt cX9_byteAt 2 (some .int) 1 := ⟨gws_in 1500 (by decide +kernel) rfl, me_X9_byteAt⟩
theorem lk_RX9_147 : LK RX9 147 yX9_isLetter cX9_isLetter 1 (some .boolean) 1 := ⟨gws_in 1504 (by decide +kernel) rfl, me_X9_isLetter⟩
theorem lk_RX9_151 : LK RX9 151 yX9_isDigit cX9_isDigit 1 (some .boolean) 1 := ⟨gws_in 1507 (by decide +kernel) rfl, me_X9_isDigit⟩
theorem lk_RX9_159 : LK RX9 159 yX9_spelled cX9_spelled 8 (some .long) 6 := ⟨gws_in 1525 (by decide +kernel) rfl, me_X9_spelled⟩
theorem lk_RX9_163 : LK RX9 163 yX9_letters cX9_letters 1 (some .long) 1 := ⟨gws_in 1522 (by decide +kernel) rfl, me_X9_letters⟩
theorem lk_RX9_170 : LK RX9 170 yX9_isGood cX9_isGood 1 (some .boolean) 0 := ⟨gws_in 1510 (by decide +kernel) rfl, me_X9_isGood⟩
theorem lk_RX9_174 : LK RX9 174 yX9_takes cX9_takes 2 none 0 := ⟨gws_in 1496 (by decide +kernel) rfl, me_X9_takes⟩
theorem lk_RX9_177 : LK RX9 177 yX9_wrong cX9_wrong 2 none 1 := ⟨gws_in 1533 (by decide +kernel) rfl, me_X9_wrong⟩
theorem lk_RX9_186 : LK RX9 186 yX9_isOpen cX9_isOpen 1 (some .boolean) 1 := ⟨gws_in 1585 (by decide +kernel) rfl, me_X9_isOpen⟩
theorem lk_RX9_189 : LK RX9 189 yX9_strength cX9_strength 1 (some .int) 1 := ⟨gws_in 1588 (by decide +kernel) rfl, me_X9_strength⟩
theorem lk_RX9_192 : LK RX9 192 yX9_puts cX9_puts 2 none 1 := ⟨gws_in 1577 (by decide +kernel) rfl, me_X9_puts⟩
theorem lk_RX9_195 : LK RX9 195 yX9_knownWord cX9_knownWord 2 (some .int) 0 := ⟨gws_in 1518 (by decide +kernel) rfl, me_X9_knownWord⟩
theorem lk_RX9_205 : LK RX9 205 yX9_isSign cX9_isSign 2 (some .boolean) 1 := ⟨gws_in 1561 (by decide +kernel) rfl, me_X9_isSign⟩
theorem lk_RX9_208 : LK RX9 208 yX9_waitsFor cX9_waitsFor 2 none 1 := ⟨gws_in 1569 (by decide +kernel) rfl, me_X9_waitsFor⟩
theorem lk_RX9_211 : LK RX9 211 yX9_deeper cX9_deeper 1 none 0 := ⟨gws_in 1557 (by decide +kernel) rfl, me_X9_deeper⟩
theorem lk_RX9_214 : LK RX9 214 yX9_part cX9_part 2 none 0 := ⟨gws_in 1573 (by decide +kernel) rfl, me_X9_part⟩
theorem lk_RX9_217 : LK RX9 217 yX9_drops cX9_drops 2 none 1 := ⟨gws_in 1581 (by decide +kernel) rfl, me_X9_drops⟩
theorem lk_RX9_220 : LK RX9 220 yX9_operand cX9_operand 5 none 1 := ⟨gws_in 1565 (by decide +kernel) rfl, me_X9_operand⟩
theorem lk_RX9_224 : LK RX9 224 yX9_isOpened cX9_isOpened 2 (some .boolean) 0 := ⟨gws_in 1591 (by decide +kernel) rfl, me_X9_isOpened⟩
theorem lk_RX9_227 : LK RX9 227 yX9_closes cX9_closes 1 none 0 := ⟨gws_in 1595 (by decide +kernel) rfl, me_X9_closes⟩
theorem lk_RX9_233 : LK RX9 233 yX9_number cX9_number 4 (some .int) 2 := ⟨gws_in 1541 (by decide +kernel) rfl, me_X9_number⟩
theorem lk_RX9_243 : LK RX9 243 yX9_begins cX9_begins 3 (some .boolean) 2 := ⟨gws_in 1529 (by decide +kernel) rfl, me_X9_begins⟩
theorem lk_RX9_247 : LK RX9 247 yX9_readsHouse cX9_readsHouse 2 none 0 := ⟨gws_in 1537 (by decide +kernel) rfl, me_X9_readsHouse⟩
theorem lk_RX9_250 : LK RX9 250 yX9_readsPerson cX9_readsPerson 2 none 0 := ⟨gws_in 1545 (by decide +kernel) rfl, me_X9_readsPerson⟩
theorem lk_RX9_253 : LK RX9 253 yX9_readsDamp cX9_readsDamp 3 none 0 := ⟨gws_in 1549 (by decide +kernel) rfl, me_X9_readsDamp⟩
theorem lk_RX9_259 : LK RX9 259 yX9_expression cX9_expression 4 none 1 := ⟨gws_in 1553 (by decide +kernel) rfl, me_X9_expression⟩
theorem lk_RX9_265 : LK RX9 265 yX9_need cX9_need 2 none 1 := ⟨gws_in 1599 (by decide +kernel) rfl, me_X9_need⟩
theorem lk_RX9_268 : LK RX9 268 yX9_right cX9_right 3 (some .boolean) 2 := ⟨gws_in 1492 (by decide +kernel) rfl, me_X9_right⟩
theorem lk_RX9_272 : LK RX9 272 yX9_line cX9_line 2 none 0 := ⟨gws_in 1514 (by decide +kernel) rfl, me_X9_line⟩
theorem lk_RX9_284 : LK RX9 284 yX9_copies cX9_copies 4 none 2 := ⟨gws_in 1603 (by decide +kernel) rfl, me_X9_copies⟩
theorem lk_RX9_298 : LK RX9 298 yX9_works cX9_works 3 (some .int) 3 := ⟨gws_in 1694 (by decide +kernel) rfl, me_X9_works⟩
theorem lk_RX9_302 : LK RX9 302 yX9_toldDamp cX9_toldDamp 2 (some .int) 1 := ⟨gws_in 1626 (by decide +kernel) rfl, me_X9_toldDamp⟩
theorem lk_RX9_306 : LK RX9 306 yX9_bounded cX9_bounded 3 (some .int) 3 := ⟨gws_in 1659 (by decide +kernel) rfl, me_X9_bounded⟩
theorem lk_RX9_309 : LK RX9 309 yX9_dampIn cX9_dampIn 2 (some .int) 1 := ⟨gws_in 1622 (by decide +kernel) rfl, me_X9_dampIn⟩
theorem lk_RX9_312 : LK RX9 312 yX9_tightOf cX9_tightOf 4 (some .int) 3 := ⟨gws_in 1654 (by decide +kernel) rfl, me_X9_tightOf⟩
theorem lk_RX9_315 : LK RX9 315 yX9_reckons cX9_reckons 5 (some .int) 1 := ⟨gws_in 1690 (by decide +kernel) rfl, me_X9_reckons⟩
theorem lk_RX9_318 : LK RX9 318 yX9_asks cX9_asks 5 (some .int) 4 := ⟨gws_in 1686 (by decide +kernel) rfl, me_X9_asks⟩
theorem lk_RX9_322 : LK RX9 322 yX9_isBurst cX9_isBurst 3 (some .boolean) 2 := ⟨gws_in 1678 (by decide +kernel) rfl, me_X9_isBurst⟩
theorem lk_RX9_326 : LK RX9 326 yX9_easesOf cX9_easesOf 4 (some .int) 3 := ⟨gws_in 1682 (by decide +kernel) rfl, me_X9_easesOf⟩
theorem lk_RX9_329 : LK RX9 329 yX9_lesser cX9_lesser 2 (some .int) 2 := ⟨gws_in 1701 (by decide +kernel) rfl, me_X9_lesser⟩
theorem lk_RX9_332 : LK RX9 332 yX9_wears cX9_wears 6 none 2 := ⟨gws_in 1755 (by decide +kernel) rfl, me_X9_wears⟩
theorem lk_RX9_336 : LK RX9 336 yX9_dayGoes cX9_dayGoes 3 none 1 := ⟨gws_in 1751 (by decide +kernel) rfl, me_X9_dayGoes⟩
theorem lk_RX9_339 : LK RX9 339 yX9_houseOf cX9_houseOf 4 (some .int) 2 := ⟨gws_in 1638 (by decide +kernel) rfl, me_X9_houseOf⟩
theorem lk_RX9_342 : LK RX9 342 yX9_tightNow cX9_tightNow 3 (some .int) 1 := ⟨gws_in 1650 (by decide +kernel) rfl, me_X9_tightNow⟩
theorem lk_RX9_345 : LK RX9 345 yX9_within cX9_within 3 (some .boolean) 3 := ⟨gws_in 1619 (by decide +kernel) rfl, me_X9_within⟩
theorem lk_RX9_349 : LK RX9 349 yX9_taken cX9_taken 3 (some .int) 0 := ⟨gws_in 1630 (by decide +kernel) rfl, me_X9_taken⟩
theorem lk_RX9_352 : LK RX9 352 yX9_lodgersIn cX9_lodgersIn 4 (some .int) 1 := ⟨gws_in 1634 (by decide +kernel) rfl, me_X9_lodgersIn⟩
theorem lk_RX9_355 : LK RX9 355 yX9_soreIn cX9_soreIn 4 (some .int) 1 := ⟨gws_in 1642 (by decide +kernel) rfl, me_X9_soreIn⟩
theorem lk_RX9_358 : LK RX9 358 yX9_tightest cX9_tightest 3 (some .int) 0 := ⟨gws_in 1646 (by decide +kernel) rfl, me_X9_tightest⟩
theorem lk_RX9_361 : LK RX9 361 yX9_needed cX9_needed 4 (some .int) 0 := ⟨gws_in 1662 (by decide +kernel) rfl, me_X9_needed⟩
theorem lk_RX9_364 : LK RX9 364 yX9_off cX9_off 2 (some .int) 2 := ⟨gws_in 1724 (by decide +kernel) rfl, me_X9_off⟩
theorem lk_RX9_367 : LK RX9 367 yX9_isHouse cX9_isHouse 2 (some .boolean) 1 := ⟨gws_in 1708 (by decide +kernel) rfl, me_X9_isHouse⟩
theorem lk_RX9_370 : LK RX9 370 yX9_isWhat cX9_isWhat 3 (some .boolean) 2 := ⟨gws_in 1712 (by decide +kernel) rfl, me_X9_isWhat⟩
theorem lk_RX9_373 : LK RX9 373 yX9_roomOf cX9_roomOf 3 (some .int) 1 := ⟨gws_in 1716 (by decide +kernel) rfl, me_X9_roomOf⟩
theorem lk_RX9_376 : LK RX9 376 yX9_nextDoor cX9_nextDoor 4 (some .int) 1 := ⟨gws_in 1720 (by decide +kernel) rfl, me_X9_nextDoor⟩
theorem lk_RX9_379 : LK RX9 379 yX9_isPerson cX9_isPerson 2 (some .boolean) 1 := ⟨gws_in 1731 (by decide +kernel) rfl, me_X9_isPerson⟩
theorem lk_RX9_382 : LK RX9 382 yX9_refuses cX9_refuses 2 (some .int) 1 := ⟨gws_in 1743 (by decide +kernel) rfl, me_X9_refuses⟩
theorem lk_RX9_385 : LK RX9 385 yX9_keeps cX9_keeps 2 none 0 := ⟨gws_in 1747 (by decide +kernel) rfl, me_X9_keeps⟩
theorem lk_RX9_388 : LK RX9 388 yX9_wouldGo cX9_wouldGo 4 (some .boolean) 3 := ⟨gws_in 1674 (by decide +kernel) rfl, me_X9_wouldGo⟩
theorem lk_RX9_391 : LK RX9 391 yX9_tries cX9_tries 2 none 0 := ⟨gws_in 1791 (by decide +kernel) rfl, me_X9_tries⟩
theorem lk_RX9_394 : LK RX9 394 yX9_daysGo cX9_daysGo 3 none 1 := ⟨gws_in 1795 (by decide +kernel) rfl, me_X9_daysGo⟩
theorem lk_RX9_397 : LK RX9 397 yX9_isDays cX9_isDays 4 (some .boolean) 3 := ⟨gws_in 1783 (by decide +kernel) rfl, me_X9_isDays⟩
theorem lk_RX9_400 : LK RX9 400 yX9_goesTo cX9_goesTo 2 none 1 := ⟨gws_in 1787 (by decide +kernel) rfl, me_X9_goesTo⟩
theorem lk_RX9_403 : LK RX9 403 yX9_burstsIn cX9_burstsIn 3 (some .int) 1 := ⟨gws_in 1807 (by decide +kernel) rfl, me_X9_burstsIn⟩
theorem lk_RX9_406 : LK RX9 406 yX9_leastOf cX9_leastOf 3 (some .int) 2 := ⟨gws_in 1670 (by decide +kernel) rfl, me_X9_leastOf⟩
theorem lk_RX9_409 : LK RX9 409 yX9_byHouse cX9_byHouse 4 (some .int) 3 := ⟨gws_in 1697 (by decide +kernel) rfl, me_X9_byHouse⟩
theorem lk_RX9_412 : LK RX9 412 yX9_laysMatch cX9_laysMatch 5 none 0 := ⟨gws_in 1666 (by decide +kernel) rfl, me_X9_laysMatch⟩
theorem lk_RX9_415 : LK RX9 415 yX9_wantOf cX9_wantOf 5 (some .int) 2 := ⟨gws_in 1847 (by decide +kernel) rfl, me_X9_wantOf⟩
theorem lk_RX9_418 : LK RX9 418 yX9_ringOf cX9_ringOf 4 (some .int) 1 := ⟨gws_in 1851 (by decide +kernel) rfl, me_X9_ringOf⟩
theorem lk_RX9_421 : LK RX9 421 yX9_trades cX9_trades 5 none 0 := ⟨gws_in 1843 (by decide +kernel) rfl, me_X9_trades⟩
theorem lk_RX9_424 : LK RX9 424 yX9_isSeen cX9_isSeen 3 (some .boolean) 0 := ⟨gws_in 1883 (by decide +kernel) rfl, me_X9_isSeen⟩
theorem lk_RX9_427 : LK RX9 427 yX9_isGuess cX9_isGuess 3 (some .boolean) 1 := ⟨gws_in 1887 (by decide +kernel) rfl, me_X9_isGuess⟩
theorem lk_RX9_430 : LK RX9 430 yX9_gains cX9_gains 8 (some .int) 5 := ⟨gws_in 1903 (by decide +kernel) rfl, me_X9_gains⟩
theorem lk_RX9_438 : LK RX9 438 yX9_draw cX9_draw 2 (some .int) 1 := ⟨gws_in 1911 (by decide +kernel) rfl, me_X9_draw⟩
theorem lk_RX9_441 : LK RX9 441 yX9_happens cX9_happens 3 none 0 := ⟨gws_in 1916 (by decide +kernel) rfl, me_X9_happens⟩
theorem lk_RX9_444 : LK RX9 444 yX9_bits cX9_bits 3 (some .int) 1 := ⟨gws_in 1920 (by decide +kernel) rfl, me_X9_bits⟩
theorem ml_RJ7_150 : Cond.methodLink RJ7 150 arraycopyName ∈ gws := gws_in 700 (by decide +kernel) rfl
theorem ml_RJ7_304 : Cond.methodLink RJ7 304 Lib.Math.min.name ∈ gws := gws_in 699 (by decide +kernel) rfl
