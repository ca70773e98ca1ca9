theorem cw_0 : ∀ w ∈ u_ws RX0 TX0 2, w ∈ lw_g := by decide +kernel
theorem cw_1 : ∀ w ∈ u_ws RX1 TX1 14, w ∈ lw_g := by decide +kernel
theorem cw_2 : ∀ w ∈ u_ws RX2 TX2 3, w ∈ lw_g := by decide +kernel
theorem cw_3 : ∀ w ∈ u_ws RX3 TX3 6, w ∈ lw_g := by decide +kernel
theorem cw_4 : ∀ w ∈ u_ws RX4 TX4 3, w ∈ lw_g := by decide +kernel
theorem cw_5 : ∀ w ∈ u_ws RX5 TX5 2, w ∈ lw_g := by decide +kernel
theorem cw_6 : ∀ w ∈ u_ws RX6 TX6 2, w ∈ lw_g := by decide +kernel
theorem cw_7 : ∀ w ∈ u_ws RX7 TX7 9, w ∈ lw_g := by decide +kernel
theorem cw_8 : ∀ w ∈ u_ws RX8 TX8 22, w ∈ lw_g := by decide +kernel
theorem fl_X7_10 : FL RX7 10 7 0 := ⟨(RX7, TX7, 9), rfl, by decide, mg 231 (by decide +kernel) rfl, cw_7⟩
theorem fl_X7_19 : FL RX7 19 7 1 := ⟨(RX7, TX7, 9), rfl, by decide, mg 232 (by decide +kernel) rfl, cw_7⟩
theorem fl_X7_26 : FL RX7 26 7 2 := ⟨(RX7, TX7, 9), rfl, by decide, mg 233 (by decide +kernel) rfl, cw_7⟩
theorem fl_X7_30 : FL RX7 30 7 3 := ⟨(RX7, TX7, 9), rfl, by decide, mg 234 (by decide +kernel) rfl, cw_7⟩
theorem fl_X7_36 : FL RX7 36 7 4 := ⟨(RX7, TX7, 9), rfl, by decide, mg 235 (by decide +kernel) rfl, cw_7⟩
theorem fl_X7_43 : FL RX7 43 7 5 := ⟨(RX7, TX7, 9), rfl, by decide, mg 236 (by decide +kernel) rfl, cw_7⟩
theorem fl_X7_50 : FL RX7 50 7 6 := ⟨(RX7, TX7, 9), rfl, by decide, mg 237 (by decide +kernel) rfl, cw_7⟩
theorem fl_X7_54 : FL RX7 54 7 7 := ⟨(RX7, TX7, 9), rfl, by decide, mg 238 (by decide +kernel) rfl, cw_7⟩
theorem fl_X7_57 : FL RX7 57 7 8 := ⟨(RX7, TX7, 9), rfl, by decide, mg 239 (by decide +kernel) rfl, cw_7⟩
theorem fp_X7_57 : FP RX7 57 7 8 .long false := ⟨(RX7, TX7, 9), tyX7, rfl, by decide, mg 239 (by decide +kernel) rfl, cw_7, tyX7_ok, nmX7, rfl, by decide +kernel, fun h => by cases h⟩
theorem sl_X7_61 : SL RX7 61 yX7_isWithin cX7_isWithin 3 (some FieldType.boolean) 3 := ⟨⟨mg 263 (by decide +kernel) rfl, mg 265 (by decide +kernel) rfl, mg 21 (by decide +kernel) rfl, by decide, by decide, by decide +kernel⟩, mg 264 (by decide +kernel) rfl⟩
theorem vl_X7_65 : VL RX7 65 6 yX6_append cX6_append 2 (some FieldType.boolean) 1 := ⟨⟨mg 266 (by decide +kernel) rfl, mg 269 (by decide +kernel) rfl, mg 22 (by decide +kernel) rfl, by decide, by decide, by decide +kernel⟩, mg 267 (by decide +kernel) rfl, mg 268 (by decide +kernel) rfl, (RX6, TX6, 2), rfl, rfl⟩
theorem fl_X7_69 : FL RX7 69 6 1 := ⟨(RX6, TX6, 2), rfl, by decide, mg 48 (by decide +kernel) rfl, cw_6⟩
theorem fp_X7_69 : FP RX7 69 6 1 .int false := ⟨(RX6, TX6, 2), tyX6, rfl, by decide, mg 48 (by decide +kernel) rfl, cw_6, tyX6_ok, nmX6, rfl, by decide +kernel, fun h => by cases h⟩
theorem vl_X7_73 : VL RX7 73 6 yX6_faultPlace cX6_faultPlace 2 (some FieldType.int) 0 := ⟨⟨mg 278 (by decide +kernel) rfl, mg 281 (by decide +kernel) rfl, mg 22 (by decide +kernel) rfl, by decide, by decide, by decide +kernel⟩, mg 279 (by decide +kernel) rfl, mg 280 (by decide +kernel) rfl, (RX6, TX6, 2), rfl, rfl⟩
theorem vl_X7_77 : VL RX7 77 2 yX2_become cX2_become 3 none 1 := ⟨⟨mg 296 (by decide +kernel) rfl, mg 299 (by decide +kernel) rfl, mg 23 (by decide +kernel) rfl, by decide, by decide, by decide +kernel⟩, mg 297 (by decide +kernel) rfl, mg 298 (by decide +kernel) rfl, (RX2, TX2, 3), rfl, rfl⟩
theorem fl_X7_81 : FL RX7 81 2 0 := ⟨(RX2, TX2, 3), rfl, by decide, mg 167 (by decide +kernel) rfl, cw_2⟩
theorem vl_X7_84 : VL RX7 84 1 yX1_become cX1_become 2 none 1 := ⟨⟨mg 308 (by decide +kernel) rfl, mg 311 (by decide +kernel) rfl, mg 24 (by decide +kernel) rfl, by decide, by decide, by decide +kernel⟩, mg 309 (by decide +kernel) rfl, mg 310 (by decide +kernel) rfl, (RX1, TX1, 14), rfl, rfl⟩
theorem vl_X7_87 : VL RX7 87 2 yX2_perform cX2_perform 7 none 2 := ⟨⟨mg 316 (by decide +kernel) rfl, mg 319 (by decide +kernel) rfl, mg 23 (by decide +kernel) rfl, by decide, by decide, by decide +kernel⟩, mg 317 (by decide +kernel) rfl, mg 318 (by decide +kernel) rfl, (RX2, TX2, 3), rfl, rfl⟩
theorem fl_X7_91 : FL RX7 91 0 1 := ⟨(RX0, TX0, 2), rfl, by decide, mg 191 (by decide +kernel) rfl, cw_0⟩
theorem fp_X7_91 : FP RX7 91 0 1 .int false := ⟨(RX0, TX0, 2), tyX0, rfl, by decide, mg 191 (by decide +kernel) rfl, cw_0, tyX0_ok, nmX0, rfl, by decide +kernel, fun h => by cases h⟩
theorem fl_X7_92 : FL RX7 92 5 1 := ⟨(RX5, TX5, 2), rfl, by decide, mg 225 (by decide +kernel) rfl, cw_5⟩
theorem fp_X7_92 : FP RX7 92 5 1 .boolean false := ⟨(RX5, TX5, 2), tyX5, rfl, by decide, mg 225 (by decide +kernel) rfl, cw_5, tyX5_ok, nmX5, rfl, by decide +kernel, fun h => by cases h⟩
theorem fl_X7_96 : FL RX7 96 1 8 := ⟨(RX1, TX1, 14), rfl, by decide, mg 126 (by decide +kernel) rfl, cw_1⟩
theorem vl_X7_99 : VL RX7 99 7 yX7_ticksTillQuiet cX7_ticksTillQuiet 2 (some FieldType.int) 0 := ⟨⟨mg 381 (by decide +kernel) rfl, mg 384 (by decide +kernel) rfl, mg 21 (by decide +kernel) rfl, by decide, by decide, by decide +kernel⟩, mg 383 (by decide +kernel) rfl, mg 0 (by decide +kernel) rfl, (RX7, TX7, 9), rfl, rfl⟩
theorem vl_X7_102 : VL RX7 102 1 yX1_figure cX1_figure 2 (some FieldType.int) 1 := ⟨⟨mg 390 (by decide +kernel) rfl, mg 393 (by decide +kernel) rfl, mg 24 (by decide +kernel) rfl, by decide, by decide, by decide +kernel⟩, mg 391 (by decide +kernel) rfl, mg 392 (by decide +kernel) rfl, (RX1, TX1, 14), rfl, rfl⟩
theorem sl_X7_106 : SL RX7 106 yX7_isEnd cX7_isEnd 1 (some FieldType.boolean) 1 := ⟨⟨mg 398 (by decide +kernel) rfl, mg 400 (by decide +kernel) rfl, mg 21 (by decide +kernel) rfl, by decide, by decide, by decide +kernel⟩, mg 399 (by decide +kernel) rfl⟩
theorem vl_X7_109 : VL RX7 109 1 yX1_side cX1_side 2 (some (FieldType.object "DozeLink$Side")) 1 := ⟨⟨mg 401 (by decide +kernel) rfl, mg 372 (by decide +kernel) rfl, mg 24 (by decide +kernel) rfl, by decide, by decide, by decide +kernel⟩, mg 370 (by decide +kernel) rfl, mg 371 (by decide +kernel) rfl, (RX1, TX1, 14), rfl, rfl⟩
theorem fl_X7_113 : FL RX7 113 3 0 := ⟨(RX3, TX3, 6), rfl, by decide, mg 77 (by decide +kernel) rfl, cw_3⟩
theorem fl_X7_118 : FL RX7 118 3 1 := ⟨(RX3, TX3, 6), rfl, by decide, mg 80 (by decide +kernel) rfl, cw_3⟩
theorem fp_X7_118 : FP RX7 118 3 1 .int false := ⟨(RX3, TX3, 6), tyX3, rfl, by decide, mg 80 (by decide +kernel) rfl, cw_3, tyX3_ok, nmX3, rfl, by decide +kernel, fun h => by cases h⟩
theorem fl_X7_121 : FL RX7 121 3 2 := ⟨(RX3, TX3, 6), rfl, by decide, mg 84 (by decide +kernel) rfl, cw_3⟩
theorem fl_X7_124 : FL RX7 124 3 3 := ⟨(RX3, TX3, 6), rfl, by decide, mg 89 (by decide +kernel) rfl, cw_3⟩
theorem fl_X7_127 : FL RX7 127 3 4 := ⟨(RX3, TX3, 6), rfl, by decide, mg 92 (by decide +kernel) rfl, cw_3⟩
theorem vl_X7_130 : VL RX7 130 3 yX3_isDue cX3_isDue 4 (some FieldType.boolean) 1 := ⟨⟨mg 402 (by decide +kernel) rfl, mg 357 (by decide +kernel) rfl, mg 25 (by decide +kernel) rfl, by decide, by decide, by decide +kernel⟩, mg 355 (by decide +kernel) rfl, mg 356 (by decide +kernel) rfl, (RX3, TX3, 6), rfl, rfl⟩
theorem vl_X7_133 : VL RX7 133 7 yX7_bestCount cX7_bestCount 6 (some FieldType.int) 1 := ⟨⟨mg 403 (by decide +kernel) rfl, mg 406 (by decide +kernel) rfl, mg 21 (by decide +kernel) rfl, by decide, by decide, by decide +kernel⟩, mg 405 (by decide +kernel) rfl, mg 1 (by decide +kernel) rfl, (RX7, TX7, 9), rfl, rfl⟩
theorem vl_X7_136 : VL RX7 136 3 yX3_letterAt cX3_letterAt 2 (some FieldType.int) 1 := ⟨⟨mg 420 (by decide +kernel) rfl, mg 342 (by decide +kernel) rfl, mg 25 (by decide +kernel) rfl, by decide, by decide, by decide +kernel⟩, mg 340 (by decide +kernel) rfl, mg 341 (by decide +kernel) rfl, (RX3, TX3, 6), rfl, rfl⟩
theorem vl_X7_139 : VL RX7 139 3 yX3_isFull cX3_isFull 1 (some FieldType.boolean) 0 := ⟨⟨mg 425 (by decide +kernel) rfl, mg 428 (by decide +kernel) rfl, mg 25 (by decide +kernel) rfl, by decide, by decide, by decide +kernel⟩, mg 426 (by decide +kernel) rfl, mg 427 (by decide +kernel) rfl, (RX3, TX3, 6), rfl, rfl⟩
theorem vl_X7_143 : VL RX7 143 0 yX0_add cX0_add 3 none 1 := ⟨⟨mg 429 (by decide +kernel) rfl, mg 432 (by decide +kernel) rfl, mg 26 (by decide +kernel) rfl, by decide, by decide, by decide +kernel⟩, mg 430 (by decide +kernel) rfl, mg 431 (by decide +kernel) rfl, (RX0, TX0, 2), rfl, rfl⟩
theorem vl_X7_146 : VL RX7 146 1 yX1_receive cX1_receive 3 (some FieldType.boolean) 2 := ⟨⟨mg 442 (by decide +kernel) rfl, mg 368 (by decide +kernel) rfl, mg 24 (by decide +kernel) rfl, by decide, by decide, by decide +kernel⟩, mg 366 (by decide +kernel) rfl, mg 367 (by decide +kernel) rfl, (RX1, TX1, 14), rfl, rfl⟩
theorem vl_X7_150 : VL RX7 150 1 yX1_elapse cX1_elapse 3 none 1 := ⟨⟨mg 447 (by decide +kernel) rfl, mg 326 (by decide +kernel) rfl, mg 24 (by decide +kernel) rfl, by decide, by decide, by decide +kernel⟩, mg 324 (by decide +kernel) rfl, mg 325 (by decide +kernel) rfl, (RX1, TX1, 14), rfl, rfl⟩
theorem sl_X7_154 : SL RX7 154 yX7_isFigure cX7_isFigure 1 (some FieldType.boolean) 1 := ⟨⟨mg 452 (by decide +kernel) rfl, mg 291 (by decide +kernel) rfl, mg 21 (by decide +kernel) rfl, by decide, by decide, by decide +kernel⟩, mg 290 (by decide +kernel) rfl⟩
theorem vl_X7_157 : VL RX7 157 1 yX1_retell cX1_retell 6 (some FieldType.int) 3 := ⟨⟨mg 453 (by decide +kernel) rfl, mg 456 (by decide +kernel) rfl, mg 24 (by decide +kernel) rfl, by decide, by decide, by decide +kernel⟩, mg 454 (by decide +kernel) rfl, mg 455 (by decide +kernel) rfl, (RX1, TX1, 14), rfl, rfl⟩
theorem vl_X7_161 : VL RX7 161 0 yX0_takeBack cX0_takeBack 3 (some FieldType.boolean) 1 := ⟨⟨mg 462 (by decide +kernel) rfl, mg 465 (by decide +kernel) rfl, mg 26 (by decide +kernel) rfl, by decide, by decide, by decide +kernel⟩, mg 463 (by decide +kernel) rfl, mg 464 (by decide +kernel) rfl, (RX0, TX0, 2), rfl, rfl⟩
theorem vl_X7_165 : VL RX7 165 2 yX2_letters cX2_letters 3 (some FieldType.int) 0 := ⟨⟨mg 474 (by decide +kernel) rfl, mg 477 (by decide +kernel) rfl, mg 23 (by decide +kernel) rfl, by decide, by decide, by decide +kernel⟩, mg 475 (by decide +kernel) rfl, mg 476 (by decide +kernel) rfl, (RX2, TX2, 3), rfl, rfl⟩
theorem vl_X7_168 : VL RX7 168 1 yX1_settle cX1_settle 2 none 0 := ⟨⟨mg 407 (by decide +kernel) rfl, mg 410 (by decide +kernel) rfl, mg 24 (by decide +kernel) rfl, by decide, by decide, by decide +kernel⟩, mg 408 (by decide +kernel) rfl, mg 409 (by decide +kernel) rfl, (RX1, TX1, 14), rfl, rfl⟩
theorem vl_X7_171 : VL RX7 171 1 yX1_price cX1_price 1 (some FieldType.int) 0 := ⟨⟨mg 412 (by decide +kernel) rfl, mg 415 (by decide +kernel) rfl, mg 24 (by decide +kernel) rfl, by decide, by decide, by decide +kernel⟩, mg 413 (by decide +kernel) rfl, mg 414 (by decide +kernel) rfl, (RX1, TX1, 14), rfl, rfl⟩
theorem fl_X7_174 : FL RX7 174 1 9 := ⟨(RX1, TX1, 14), rfl, by decide, mg 129 (by decide +kernel) rfl, cw_1⟩
theorem fl_X7_177 : FL RX7 177 1 11 := ⟨(RX1, TX1, 14), rfl, by decide, mg 132 (by decide +kernel) rfl, cw_1⟩
theorem fl_X7_180 : FL RX7 180 1 13 := ⟨(RX1, TX1, 14), rfl, by decide, mg 136 (by decide +kernel) rfl, cw_1⟩
theorem kl_X7_183 : Cond.constantLong RX7 183 (1000 : Int64) ∈ lw_g := mg 482 (by decide +kernel) rfl
theorem vl_X7_185 : VL RX7 185 1 yX1_admits cX1_admits 5 (some FieldType.boolean) 1 := ⟨⟨mg 483 (by decide +kernel) rfl, mg 486 (by decide +kernel) rfl, mg 24 (by decide +kernel) rfl, by decide, by decide, by decide +kernel⟩, mg 484 (by decide +kernel) rfl, mg 485 (by decide +kernel) rfl, (RX1, TX1, 14), rfl, rfl⟩
theorem vl_X7_188 : VL RX7 188 4 yX4_add cX4_add 3 (some FieldType.boolean) 2 := ⟨⟨mg 503 (by decide +kernel) rfl, mg 506 (by decide +kernel) rfl, mg 27 (by decide +kernel) rfl, by decide, by decide, by decide +kernel⟩, mg 504 (by decide +kernel) rfl, mg 505 (by decide +kernel) rfl, (RX4, TX4, 3), rfl, rfl⟩
theorem fl_X7_190 : FL RX7 190 4 2 := ⟨(RX4, TX4, 3), rfl, by decide, mg 206 (by decide +kernel) rfl, cw_4⟩
theorem fp_X7_190 : FP RX7 190 4 2 .int false := ⟨(RX4, TX4, 3), tyX4, rfl, by decide, mg 206 (by decide +kernel) rfl, cw_4, tyX4_ok, nmX4, rfl, by decide +kernel, fun h => by cases h⟩
theorem vl_X7_191 : VL RX7 191 7 yX7_explainsAll cX7_explainsAll 3 (some FieldType.boolean) 1 := ⟨⟨mg 515 (by decide +kernel) rfl, mg 518 (by decide +kernel) rfl, mg 21 (by decide +kernel) rfl, by decide, by decide, by decide +kernel⟩, mg 517 (by decide +kernel) rfl, mg 2 (by decide +kernel) rfl, (RX7, TX7, 9), rfl, rfl⟩
theorem vl_X7_194 : VL RX7 194 7 yX7_energyOf cX7_energyOf 3 (some FieldType.int) 2 := ⟨⟨mg 538 (by decide +kernel) rfl, mg 541 (by decide +kernel) rfl, mg 21 (by decide +kernel) rfl, by decide, by decide, by decide +kernel⟩, mg 540 (by decide +kernel) rfl, mg 3 (by decide +kernel) rfl, (RX7, TX7, 9), rfl, rfl⟩
theorem sl_X7_198 : SL RX7 198 yX7_ordersBehind cX7_ordersBehind 1 (some FieldType.int) 1 := ⟨⟨mg 542 (by decide +kernel) rfl, mg 544 (by decide +kernel) rfl, mg 21 (by decide +kernel) rfl, by decide, by decide, by decide +kernel⟩, mg 543 (by decide +kernel) rfl⟩
theorem sl_X7_201 : SL RX7 201 yX7_fraction cX7_fraction 4 (some FieldType.int) 3 := ⟨⟨mg 551 (by decide +kernel) rfl, mg 553 (by decide +kernel) rfl, mg 21 (by decide +kernel) rfl, by decide, by decide, by decide +kernel⟩, mg 552 (by decide +kernel) rfl⟩
theorem mt_X7_205 : Cond.methodLink RX7 205 Lib.Math.min.name ∈ lw_g := mg 564 (by decide +kernel) rfl
theorem sl_X7_210 : SL RX7 210 yX7_weightOf cX7_weightOf 5 (some FieldType.int) 3 := ⟨⟨mg 565 (by decide +kernel) rfl, mg 567 (by decide +kernel) rfl, mg 21 (by decide +kernel) rfl, by decide, by decide, by decide +kernel⟩, mg 566 (by decide +kernel) rfl⟩
theorem kl_X7_213 : Cond.constantLong RX7 213 (6364136223846793005 : Int64) ∈ lw_g := mg 576 (by decide +kernel) rfl
theorem kl_X7_215 : Cond.constantLong RX7 215 (1442695040888963407 : Int64) ∈ lw_g := mg 577 (by decide +kernel) rfl
theorem vl_X7_217 : VL RX7 217 1 yX1_tick cX1_tick 1 none 0 := ⟨⟨mg 389 (by decide +kernel) rfl, mg 330 (by decide +kernel) rfl, mg 24 (by decide +kernel) rfl, by decide, by decide, by decide +kernel⟩, mg 328 (by decide +kernel) rfl, mg 329 (by decide +kernel) rfl, (RX1, TX1, 14), rfl, rfl⟩
theorem sl_X7_220 : SL RX7 220 yX7_isSlot cX7_isSlot 1 (some FieldType.boolean) 1 := ⟨⟨mg 582 (by decide +kernel) rfl, mg 584 (by decide +kernel) rfl, mg 21 (by decide +kernel) rfl, by decide, by decide, by decide +kernel⟩, mg 583 (by decide +kernel) rfl⟩
theorem vl_X7_223 : VL RX7 223 7 yX7_slotOf cX7_slotOf 2 (some (FieldType.object "DozeLink$Slot")) 1 := ⟨⟨mg 585 (by decide +kernel) rfl, mg 588 (by decide +kernel) rfl, mg 21 (by decide +kernel) rfl, by decide, by decide, by decide +kernel⟩, mg 587 (by decide +kernel) rfl, mg 4 (by decide +kernel) rfl, (RX7, TX7, 9), rfl, rfl⟩
theorem fl_X7_227 : FL RX7 227 5 0 := ⟨(RX5, TX5, 2), rfl, by decide, mg 223 (by decide +kernel) rfl, cw_5⟩
theorem fl_X7_230 : FL RX7 230 1 3 := ⟨(RX1, TX1, 14), rfl, by decide, mg 117 (by decide +kernel) rfl, cw_1⟩
theorem fl_X7_233 : FL RX7 233 1 4 := ⟨(RX1, TX1, 14), rfl, by decide, mg 120 (by decide +kernel) rfl, cw_1⟩
theorem fl_X7_236 : FL RX7 236 2 2 := ⟨(RX2, TX2, 3), rfl, by decide, mg 170 (by decide +kernel) rfl, cw_2⟩
theorem vl_X7_237 : VL RX7 237 1 yX1_isAtRest cX1_isAtRest 1 (some FieldType.boolean) 0 := ⟨⟨mg 385 (by decide +kernel) rfl, mg 388 (by decide +kernel) rfl, mg 24 (by decide +kernel) rfl, by decide, by decide, by decide +kernel⟩, mg 386 (by decide +kernel) rfl, mg 387 (by decide +kernel) rfl, (RX1, TX1, 14), rfl, rfl⟩
theorem fl_X7_240 : FL RX7 240 1 0 := ⟨(RX1, TX1, 14), rfl, by decide, mg 109 (by decide +kernel) rfl, cw_1⟩
theorem vl_X7_244 : VL RX7 244 4 yX4_timeAt cX4_timeAt 2 (some FieldType.int) 1 := ⟨⟨mg 519 (by decide +kernel) rfl, mg 522 (by decide +kernel) rfl, mg 27 (by decide +kernel) rfl, by decide, by decide, by decide +kernel⟩, mg 520 (by decide +kernel) rfl, mg 521 (by decide +kernel) rfl, (RX4, TX4, 3), rfl, rfl⟩
theorem vl_X7_247 : VL RX7 247 2 yX2_performTill cX2_performTill 5 none 2 := ⟨⟨mg 523 (by decide +kernel) rfl, mg 526 (by decide +kernel) rfl, mg 23 (by decide +kernel) rfl, by decide, by decide, by decide +kernel⟩, mg 524 (by decide +kernel) rfl, mg 525 (by decide +kernel) rfl, (RX2, TX2, 3), rfl, rfl⟩
theorem fl_X7_250 : FL RX7 250 1 5 := ⟨(RX1, TX1, 14), rfl, by decide, mg 122 (by decide +kernel) rfl, cw_1⟩
theorem vl_X7_253 : VL RX7 253 4 yX4_phaseAt cX4_phaseAt 2 (some FieldType.int) 1 := ⟨⟨mg 530 (by decide +kernel) rfl, mg 533 (by decide +kernel) rfl, mg 27 (by decide +kernel) rfl, by decide, by decide, by decide +kernel⟩, mg 531 (by decide +kernel) rfl, mg 532 (by decide +kernel) rfl, (RX4, TX4, 3), rfl, rfl⟩
theorem fl_X7_256 : FL RX7 256 1 1 := ⟨(RX1, TX1, 14), rfl, by decide, mg 112 (by decide +kernel) rfl, cw_1⟩
theorem fp_X7_259 : FP RX7 259 1 2 .boolean false := ⟨(RX1, TX1, 14), tyX1, rfl, by decide, mg 114 (by decide +kernel) rfl, cw_1, tyX1_ok, nmX1, rfl, by decide +kernel, fun h => by cases h⟩
theorem sl_X7_262 : SL RX7 262 yJ6_bitCount_0f7a4 cJ6_bitCount_0f7a4 1 (some FieldType.int) 1 := ⟨⟨mg 545 (by decide +kernel) rfl, mg 547 (by decide +kernel) rfl, mg 31 (by decide +kernel) rfl, by decide, by decide, by decide +kernel⟩, mg 546 (by decide +kernel) rfl⟩
theorem mt_X7_267 : Cond.methodLink RX7 267 Lib.Math.abs.name ∈ lw_g := mg 554 (by decide +kernel) rfl
theorem sl_X7_270 : SL RX7 270 yX7_commonDivisor cX7_commonDivisor 6 (some FieldType.int) 2 := ⟨⟨mg 557 (by decide +kernel) rfl, mg 559 (by decide +kernel) rfl, mg 21 (by decide +kernel) rfl, by decide, by decide, by decide +kernel⟩, mg 558 (by decide +kernel) rfl⟩
theorem fl_X0_11 : FL RX0 11 0 0 := ⟨(RX0, TX0, 2), rfl, by decide, mg 189 (by decide +kernel) rfl, cw_0⟩
theorem fl_X0_18 : FL RX0 18 0 1 := ⟨(RX0, TX0, 2), rfl, by decide, mg 190 (by decide +kernel) rfl, cw_0⟩
theorem fp_X0_18 : FP RX0 18 0 1 .int false := ⟨(RX0, TX0, 2), tyX0, rfl, by decide, mg 190 (by decide +kernel) rfl, cw_0, tyX0_ok, nmX0, rfl, by decide +kernel, fun h => by cases h⟩
theorem vl_X0_22 : VL RX0 22 0 yX0_forgetFirst cX0_forgetFirst 4 none 0 := ⟨⟨mg 433 (by decide +kernel) rfl, mg 436 (by decide +kernel) rfl, mg 26 (by decide +kernel) rfl, by decide, by decide, by decide +kernel⟩, mg 434 (by decide +kernel) rfl, mg 435 (by decide +kernel) rfl, (RX0, TX0, 2), rfl, rfl⟩
theorem vl_X0_25 : VL RX0 25 0 yX0_beforeAt cX0_beforeAt 2 (some (FieldType.object "DozeLink$Doze")) 1 := ⟨⟨mg 437 (by decide +kernel) rfl, mg 440 (by decide +kernel) rfl, mg 26 (by decide +kernel) rfl, by decide, by decide, by decide +kernel⟩, mg 438 (by decide +kernel) rfl, mg 439 (by decide +kernel) rfl, (RX0, TX0, 2), rfl, rfl⟩
theorem vl_X0_29 : VL RX0 29 1 yX1_become cX1_become 2 none 1 := ⟨⟨mg 441 (by decide +kernel) rfl, mg 311 (by decide +kernel) rfl, mg 24 (by decide +kernel) rfl, by decide, by decide, by decide +kernel⟩, mg 309 (by decide +kernel) rfl, mg 310 (by decide +kernel) rfl, (RX1, TX1, 14), rfl, rfl⟩
theorem fl_X1_12 : FL RX1 12 1 0 := ⟨(RX1, TX1, 14), rfl, by decide, mg 107 (by decide +kernel) rfl, cw_1⟩
theorem fl_X1_18 : FL RX1 18 1 1 := ⟨(RX1, TX1, 14), rfl, by decide, mg 110 (by decide +kernel) rfl, cw_1⟩
theorem fl_X1_21 : FL RX1 21 1 2 := ⟨(RX1, TX1, 14), rfl, by decide, mg 113 (by decide +kernel) rfl, cw_1⟩
theorem fp_X1_21 : FP RX1 21 1 2 .boolean false := ⟨(RX1, TX1, 14), tyX1, rfl, by decide, mg 113 (by decide +kernel) rfl, cw_1, tyX1_ok, nmX1, rfl, by decide +kernel, fun h => by cases h⟩
theorem fl_X1_25 : FL RX1 25 1 3 := ⟨(RX1, TX1, 14), rfl, by decide, mg 115 (by decide +kernel) rfl, cw_1⟩
theorem fp_X1_25 : FP RX1 25 1 3 .int false := ⟨(RX1, TX1, 14), tyX1, rfl, by decide, mg 115 (by decide +kernel) rfl, cw_1, tyX1_ok, nmX1, rfl, by decide +kernel, fun h => by cases h⟩
theorem fl_X1_29 : FL RX1 29 1 4 := ⟨(RX1, TX1, 14), rfl, by decide, mg 118 (by decide +kernel) rfl, cw_1⟩
theorem fp_X1_29 : FP RX1 29 1 4 .int false := ⟨(RX1, TX1, 14), tyX1, rfl, by decide, mg 118 (by decide +kernel) rfl, cw_1, tyX1_ok, nmX1, rfl, by decide +kernel, fun h => by cases h⟩
theorem fl_X1_32 : FL RX1 32 1 5 := ⟨(RX1, TX1, 14), rfl, by decide, mg 121 (by decide +kernel) rfl, cw_1⟩
theorem fp_X1_32 : FP RX1 32 1 5 .int false := ⟨(RX1, TX1, 14), tyX1, rfl, by decide, mg 121 (by decide +kernel) rfl, cw_1, tyX1_ok, nmX1, rfl, by decide +kernel, fun h => by cases h⟩
theorem fl_X1_35 : FL RX1 35 1 6 := ⟨(RX1, TX1, 14), rfl, by decide, mg 123 (by decide +kernel) rfl, cw_1⟩
theorem fp_X1_35 : FP RX1 35 1 6 .int false := ⟨(RX1, TX1, 14), tyX1, rfl, by decide, mg 123 (by decide +kernel) rfl, cw_1, tyX1_ok, nmX1, rfl, by decide +kernel, fun h => by cases h⟩
theorem fl_X1_38 : FL RX1 38 1 7 := ⟨(RX1, TX1, 14), rfl, by decide, mg 124 (by decide +kernel) rfl, cw_1⟩
theorem fp_X1_38 : FP RX1 38 1 7 .int false := ⟨(RX1, TX1, 14), tyX1, rfl, by decide, mg 124 (by decide +kernel) rfl, cw_1, tyX1_ok, nmX1, rfl, by decide +kernel, fun h => by cases h⟩
theorem fl_X1_41 : FL RX1 41 1 8 := ⟨(RX1, TX1, 14), rfl, by decide, mg 125 (by decide +kernel) rfl, cw_1⟩
theorem fp_X1_41 : FP RX1 41 1 8 .int false := ⟨(RX1, TX1, 14), tyX1, rfl, by decide, mg 125 (by decide +kernel) rfl, cw_1, tyX1_ok, nmX1, rfl, by decide +kernel, fun h => by cases h⟩
theorem fl_X1_44 : FL RX1 44 1 9 := ⟨(RX1, TX1, 14), rfl, by decide, mg 128 (by decide +kernel) rfl, cw_1⟩
theorem fp_X1_44 : FP RX1 44 1 9 .int false := ⟨(RX1, TX1, 14), tyX1, rfl, by decide, mg 128 (by decide +kernel) rfl, cw_1, tyX1_ok, nmX1, rfl, by decide +kernel, fun h => by cases h⟩
theorem fl_X1_47 : FL RX1 47 1 10 := ⟨(RX1, TX1, 14), rfl, by decide, mg 130 (by decide +kernel) rfl, cw_1⟩
theorem fp_X1_47 : FP RX1 47 1 10 .int false := ⟨(RX1, TX1, 14), tyX1, rfl, by decide, mg 130 (by decide +kernel) rfl, cw_1, tyX1_ok, nmX1, rfl, by decide +kernel, fun h => by cases h⟩
theorem fl_X1_50 : FL RX1 50 1 11 := ⟨(RX1, TX1, 14), rfl, by decide, mg 131 (by decide +kernel) rfl, cw_1⟩
theorem fp_X1_50 : FP RX1 50 1 11 .int false := ⟨(RX1, TX1, 14), tyX1, rfl, by decide, mg 131 (by decide +kernel) rfl, cw_1, tyX1_ok, nmX1, rfl, by decide +kernel, fun h => by cases h⟩
theorem fl_X1_53 : FL RX1 53 1 12 := ⟨(RX1, TX1, 14), rfl, by decide, mg 133 (by decide +kernel) rfl, cw_1⟩
theorem fp_X1_53 : FP RX1 53 1 12 .int false := ⟨(RX1, TX1, 14), tyX1, rfl, by decide, mg 133 (by decide +kernel) rfl, cw_1, tyX1_ok, nmX1, rfl, by decide +kernel, fun h => by cases h⟩
theorem fl_X1_56 : FL RX1 56 1 13 := ⟨(RX1, TX1, 14), rfl, by decide, mg 134 (by decide +kernel) rfl, cw_1⟩
theorem fp_X1_56 : FP RX1 56 1 13 .int false := ⟨(RX1, TX1, 14), tyX1, rfl, by decide, mg 134 (by decide +kernel) rfl, cw_1, tyX1_ok, nmX1, rfl, by decide +kernel, fun h => by cases h⟩
theorem vl_X1_59 : VL RX1 59 3 yX3_become cX3_become 3 none 1 := ⟨⟨mg 312 (by decide +kernel) rfl, mg 315 (by decide +kernel) rfl, mg 25 (by decide +kernel) rfl, by decide, by decide, by decide +kernel⟩, mg 313 (by decide +kernel) rfl, mg 314 (by decide +kernel) rfl, (RX3, TX3, 6), rfl, rfl⟩
theorem vl_X1_63 : VL RX1 63 1 yX1_wakeTime cX1_wakeTime 1 (some FieldType.int) 0 := ⟨⟨mg 358 (by decide +kernel) rfl, mg 361 (by decide +kernel) rfl, mg 24 (by decide +kernel) rfl, by decide, by decide, by decide +kernel⟩, mg 359 (by decide +kernel) rfl, mg 360 (by decide +kernel) rfl, (RX1, TX1, 14), rfl, rfl⟩
theorem fl_X1_67 : FL RX1 67 3 0 := ⟨(RX3, TX3, 6), rfl, by decide, mg 76 (by decide +kernel) rfl, cw_3⟩
theorem fp_X1_67 : FP RX1 67 3 0 .int false := ⟨(RX3, TX3, 6), tyX3, rfl, by decide, mg 76 (by decide +kernel) rfl, cw_3, tyX3_ok, nmX3, rfl, by decide +kernel, fun h => by cases h⟩
theorem mt_X1_70 : Cond.methodLink RX1 70 Lib.Math.max.name ∈ lw_g := mg 347 (by decide +kernel) rfl
theorem fl_X1_76 : FL RX1 76 3 3 := ⟨(RX3, TX3, 6), rfl, by decide, mg 88 (by decide +kernel) rfl, cw_3⟩
theorem fp_X1_76 : FP RX1 76 3 3 .int false := ⟨(RX3, TX3, 6), tyX3, rfl, by decide, mg 88 (by decide +kernel) rfl, cw_3, tyX3_ok, nmX3, rfl, by decide +kernel, fun h => by cases h⟩
theorem fl_X1_79 : FL RX1 79 3 4 := ⟨(RX3, TX3, 6), rfl, by decide, mg 91 (by decide +kernel) rfl, cw_3⟩
theorem vl_X1_82 : VL RX1 82 1 yX1_holdsNone cX1_holdsNone 1 (some FieldType.boolean) 0 := ⟨⟨mg 350 (by decide +kernel) rfl, mg 353 (by decide +kernel) rfl, mg 24 (by decide +kernel) rfl, by decide, by decide, by decide +kernel⟩, mg 351 (by decide +kernel) rfl, mg 352 (by decide +kernel) rfl, (RX1, TX1, 14), rfl, rfl⟩
theorem vl_X1_86 : VL RX1 86 1 yX1_side cX1_side 2 (some (FieldType.object "DozeLink$Side")) 1 := ⟨⟨mg 369 (by decide +kernel) rfl, mg 372 (by decide +kernel) rfl, mg 24 (by decide +kernel) rfl, by decide, by decide, by decide +kernel⟩, mg 370 (by decide +kernel) rfl, mg 371 (by decide +kernel) rfl, (RX1, TX1, 14), rfl, rfl⟩
theorem vl_X1_90 : VL RX1 90 3 yX3_append cX3_append 2 (some FieldType.boolean) 1 := ⟨⟨mg 373 (by decide +kernel) rfl, mg 376 (by decide +kernel) rfl, mg 25 (by decide +kernel) rfl, by decide, by decide, by decide +kernel⟩, mg 374 (by decide +kernel) rfl, mg 375 (by decide +kernel) rfl, (RX3, TX3, 6), rfl, rfl⟩
theorem vl_X1_94 : VL RX1 94 1 yX1_receive cX1_receive 3 (some FieldType.boolean) 2 := ⟨⟨mg 457 (by decide +kernel) rfl, mg 368 (by decide +kernel) rfl, mg 24 (by decide +kernel) rfl, by decide, by decide, by decide +kernel⟩, mg 366 (by decide +kernel) rfl, mg 367 (by decide +kernel) rfl, (RX1, TX1, 14), rfl, rfl⟩
theorem fl_X1_98 : FL RX1 98 3 1 := ⟨(RX3, TX3, 6), rfl, by decide, mg 81 (by decide +kernel) rfl, cw_3⟩
theorem fp_X1_98 : FP RX1 98 3 1 .int false := ⟨(RX3, TX3, 6), tyX3, rfl, by decide, mg 81 (by decide +kernel) rfl, cw_3, tyX3_ok, nmX3, rfl, by decide +kernel, fun h => by cases h⟩
theorem fl_X1_101 : FL RX1 101 3 2 := ⟨(RX3, TX3, 6), rfl, by decide, mg 85 (by decide +kernel) rfl, cw_3⟩
theorem fp_X1_101 : FP RX1 101 3 2 .int false := ⟨(RX3, TX3, 6), tyX3, rfl, by decide, mg 85 (by decide +kernel) rfl, cw_3, tyX3_ok, nmX3, rfl, by decide +kernel, fun h => by cases h⟩
theorem vl_X1_104 : VL RX1 104 1 yX1_tick cX1_tick 1 none 0 := ⟨⟨mg 327 (by decide +kernel) rfl, mg 330 (by decide +kernel) rfl, mg 24 (by decide +kernel) rfl, by decide, by decide, by decide +kernel⟩, mg 328 (by decide +kernel) rfl, mg 329 (by decide +kernel) rfl, (RX1, TX1, 14), rfl, rfl⟩
theorem vl_X1_107 : VL RX1 107 1 yX1_isAtRest cX1_isAtRest 1 (some FieldType.boolean) 0 := ⟨⟨mg 411 (by decide +kernel) rfl, mg 388 (by decide +kernel) rfl, mg 24 (by decide +kernel) rfl, by decide, by decide, by decide +kernel⟩, mg 386 (by decide +kernel) rfl, mg 387 (by decide +kernel) rfl, (RX1, TX1, 14), rfl, rfl⟩
theorem vl_X1_110 : VL RX1 110 1 yX1_power cX1_power 1 (some FieldType.int) 0 := ⟨⟨mg 331 (by decide +kernel) rfl, mg 334 (by decide +kernel) rfl, mg 24 (by decide +kernel) rfl, by decide, by decide, by decide +kernel⟩, mg 332 (by decide +kernel) rfl, mg 333 (by decide +kernel) rfl, (RX1, TX1, 14), rfl, rfl⟩
theorem vl_X1_113 : VL RX1 113 1 yX1_send cX1_send 5 none 2 := ⟨⟨mg 335 (by decide +kernel) rfl, mg 338 (by decide +kernel) rfl, mg 24 (by decide +kernel) rfl, by decide, by decide, by decide +kernel⟩, mg 336 (by decide +kernel) rfl, mg 337 (by decide +kernel) rfl, (RX1, TX1, 14), rfl, rfl⟩
theorem vl_X1_117 : VL RX1 117 3 yX3_isDue cX3_isDue 4 (some FieldType.boolean) 1 := ⟨⟨mg 354 (by decide +kernel) rfl, mg 357 (by decide +kernel) rfl, mg 25 (by decide +kernel) rfl, by decide, by decide, by decide +kernel⟩, mg 355 (by decide +kernel) rfl, mg 356 (by decide +kernel) rfl, (RX3, TX3, 6), rfl, rfl⟩
theorem vl_X1_120 : VL RX1 120 3 yX3_letterAt cX3_letterAt 2 (some FieldType.int) 1 := ⟨⟨mg 339 (by decide +kernel) rfl, mg 342 (by decide +kernel) rfl, mg 25 (by decide +kernel) rfl, by decide, by decide, by decide +kernel⟩, mg 340 (by decide +kernel) rfl, mg 341 (by decide +kernel) rfl, (RX3, TX3, 6), rfl, rfl⟩
theorem vl_X1_124 : VL RX1 124 3 yX3_dropFirst cX3_dropFirst 2 none 0 := ⟨⟨mg 343 (by decide +kernel) rfl, mg 346 (by decide +kernel) rfl, mg 25 (by decide +kernel) rfl, by decide, by decide, by decide +kernel⟩, mg 344 (by decide +kernel) rfl, mg 345 (by decide +kernel) rfl, (RX3, TX3, 6), rfl, rfl⟩
theorem nl_X1_127 : NL RX1 127 yX7_isEnd cX7_isEnd 1 (some FieldType.boolean) 1 := ⟨⟨RX7, fun s h => h.2.1⟩, mg 400 (by decide +kernel) rfl, mg 21 (by decide +kernel) rfl, ⟨by decide, by decide, by decide +kernel⟩, mg 399 (by decide +kernel) rfl⟩
theorem vl_X1_130 : VL RX1 130 1 yX1_admitsTicks cX1_admitsTicks 2 (some FieldType.boolean) 1 := ⟨⟨mg 488 (by decide +kernel) rfl, mg 491 (by decide +kernel) rfl, mg 24 (by decide +kernel) rfl, by decide, by decide, by decide +kernel⟩, mg 489 (by decide +kernel) rfl, mg 490 (by decide +kernel) rfl, (RX1, TX1, 14), rfl, rfl⟩
theorem vl_X1_133 : VL RX1 133 1 yX1_admitsCount cX1_admitsCount 3 (some FieldType.boolean) 2 := ⟨⟨mg 494 (by decide +kernel) rfl, mg 497 (by decide +kernel) rfl, mg 24 (by decide +kernel) rfl, by decide, by decide, by decide +kernel⟩, mg 495 (by decide +kernel) rfl, mg 496 (by decide +kernel) rfl, (RX1, TX1, 14), rfl, rfl⟩
theorem nl_X1_136 : NL RX1 136 yX7_isWithin cX7_isWithin 3 (some FieldType.boolean) 3 := ⟨⟨RX7, fun s h => h.2.2.1⟩, mg 265 (by decide +kernel) rfl, mg 21 (by decide +kernel) rfl, ⟨by decide, by decide, by decide +kernel⟩, mg 264 (by decide +kernel) rfl⟩
theorem vl_X1_140 : VL RX1 140 1 yX1_elapse cX1_elapse 3 none 1 := ⟨⟨mg 493 (by decide +kernel) rfl, mg 326 (by decide +kernel) rfl, mg 24 (by decide +kernel) rfl, by decide, by decide, by decide +kernel⟩, mg 324 (by decide +kernel) rfl, mg 325 (by decide +kernel) rfl, (RX1, TX1, 14), rfl, rfl⟩
theorem nl_X1_144 : NL RX1 144 yX7_isFigure cX7_isFigure 1 (some FieldType.boolean) 1 := ⟨⟨RX7, fun s h => h.2.2.2⟩, mg 291 (by decide +kernel) rfl, mg 21 (by decide +kernel) rfl, ⟨by decide, by decide, by decide +kernel⟩, mg 290 (by decide +kernel) rfl⟩
theorem fl_X2_12 : FL RX2 12 2 0 := ⟨(RX2, TX2, 3), rfl, by decide, mg 166 (by decide +kernel) rfl, cw_2⟩
theorem fl_X2_18 : FL RX2 18 2 1 := ⟨(RX2, TX2, 3), rfl, by decide, mg 168 (by decide +kernel) rfl, cw_2⟩
theorem fl_X2_22 : FL RX2 22 2 2 := ⟨(RX2, TX2, 3), rfl, by decide, mg 169 (by decide +kernel) rfl, cw_2⟩
theorem fp_X2_22 : FP RX2 22 2 2 .int false := ⟨(RX2, TX2, 3), tyX2, rfl, by decide, mg 169 (by decide +kernel) rfl, cw_2, tyX2_ok, nmX2, rfl, by decide +kernel, fun h => by cases h⟩
theorem vl_X2_26 : VL RX2 26 6 yX6_figureAt cX6_figureAt 2 (some FieldType.int) 1 := ⟨⟨mg 300 (by decide +kernel) rfl, mg 303 (by decide +kernel) rfl, mg 22 (by decide +kernel) rfl, by decide, by decide, by decide +kernel⟩, mg 301 (by decide +kernel) rfl, mg 302 (by decide +kernel) rfl, (RX6, TX6, 2), rfl, rfl⟩
theorem fp_X2_32 : FP RX2 32 1 3 .int false := ⟨(RX1, TX1, 14), tyX1, rfl, by decide, mg 116 (by decide +kernel) rfl, cw_1, tyX1_ok, nmX1, rfl, by decide +kernel, fun h => by cases h⟩
theorem fp_X2_35 : FP RX2 35 1 4 .int false := ⟨(RX1, TX1, 14), tyX1, rfl, by decide, mg 119 (by decide +kernel) rfl, cw_1, tyX1_ok, nmX1, rfl, by decide +kernel, fun h => by cases h⟩
theorem fl_X2_38 : FL RX2 38 1 0 := ⟨(RX1, TX1, 14), rfl, by decide, mg 108 (by decide +kernel) rfl, cw_1⟩
theorem sl_X2_42 : SL RX2 42 yX2_readSide cX2_readSide 3 none 3 := ⟨⟨mg 304 (by decide +kernel) rfl, mg 306 (by decide +kernel) rfl, mg 23 (by decide +kernel) rfl, by decide, by decide, by decide +kernel⟩, mg 305 (by decide +kernel) rfl⟩
theorem fl_X2_46 : FL RX2 46 1 1 := ⟨(RX1, TX1, 14), rfl, by decide, mg 111 (by decide +kernel) rfl, cw_1⟩
theorem fl_X2_49 : FL RX2 49 3 0 := ⟨(RX3, TX3, 6), rfl, by decide, mg 75 (by decide +kernel) rfl, cw_3⟩
theorem fp_X2_49 : FP RX2 49 3 0 .int false := ⟨(RX3, TX3, 6), tyX3, rfl, by decide, mg 75 (by decide +kernel) rfl, cw_3, tyX3_ok, nmX3, rfl, by decide +kernel, fun h => by cases h⟩
theorem fp_X2_54 : FP RX2 54 3 3 .int false := ⟨(RX3, TX3, 6), tyX3, rfl, by decide, mg 87 (by decide +kernel) rfl, cw_3, tyX3_ok, nmX3, rfl, by decide +kernel, fun h => by cases h⟩
theorem fl_X2_57 : FL RX2 57 6 1 := ⟨(RX6, TX6, 2), rfl, by decide, mg 49 (by decide +kernel) rfl, cw_6⟩
theorem vl_X2_58 : VL RX2 58 6 yX6_signAt cX6_signAt 2 (some FieldType.int) 1 := ⟨⟨mg 307 (by decide +kernel) rfl, mg 285 (by decide +kernel) rfl, mg 22 (by decide +kernel) rfl, by decide, by decide, by decide +kernel⟩, mg 283 (by decide +kernel) rfl, mg 284 (by decide +kernel) rfl, (RX6, TX6, 2), rfl, rfl⟩
theorem fp_X2_61 : FP RX2 61 3 1 .int false := ⟨(RX3, TX3, 6), tyX3, rfl, by decide, mg 79 (by decide +kernel) rfl, cw_3, tyX3_ok, nmX3, rfl, by decide +kernel, fun h => by cases h⟩
theorem fp_X2_64 : FP RX2 64 3 2 .int false := ⟨(RX3, TX3, 6), tyX3, rfl, by decide, mg 83 (by decide +kernel) rfl, cw_3, tyX3_ok, nmX3, rfl, by decide +kernel, fun h => by cases h⟩
theorem sl_X2_67 : SL RX2 67 yX2_isLetter cX2_isLetter 1 (some FieldType.boolean) 1 := ⟨⟨mg 320 (by decide +kernel) rfl, mg 322 (by decide +kernel) rfl, mg 23 (by decide +kernel) rfl, by decide, by decide, by decide +kernel⟩, mg 321 (by decide +kernel) rfl⟩
theorem vl_X2_71 : VL RX2 71 1 yX1_elapse cX1_elapse 3 none 1 := ⟨⟨mg 323 (by decide +kernel) rfl, mg 326 (by decide +kernel) rfl, mg 24 (by decide +kernel) rfl, by decide, by decide, by decide +kernel⟩, mg 324 (by decide +kernel) rfl, mg 325 (by decide +kernel) rfl, (RX1, TX1, 14), rfl, rfl⟩
theorem sl_X2_75 : SL RX2 75 yX2_bring cX2_bring 2 none 2 := ⟨⟨mg 362 (by decide +kernel) rfl, mg 364 (by decide +kernel) rfl, mg 23 (by decide +kernel) rfl, by decide, by decide, by decide +kernel⟩, mg 363 (by decide +kernel) rfl⟩
theorem vl_X2_79 : VL RX2 79 1 yX1_receive cX1_receive 3 (some FieldType.boolean) 2 := ⟨⟨mg 365 (by decide +kernel) rfl, mg 368 (by decide +kernel) rfl, mg 24 (by decide +kernel) rfl, by decide, by decide, by decide +kernel⟩, mg 366 (by decide +kernel) rfl, mg 367 (by decide +kernel) rfl, (RX1, TX1, 14), rfl, rfl⟩
theorem fl_X2_83 : FL RX2 83 1 13 := ⟨(RX1, TX1, 14), rfl, by decide, mg 135 (by decide +kernel) rfl, cw_1⟩
theorem fp_X2_83 : FP RX2 83 1 13 .int false := ⟨(RX1, TX1, 14), tyX1, rfl, by decide, mg 135 (by decide +kernel) rfl, cw_1, tyX1_ok, nmX1, rfl, by decide +kernel, fun h => by cases h⟩
theorem fl_X2_86 : FL RX2 86 1 8 := ⟨(RX1, TX1, 14), rfl, by decide, mg 127 (by decide +kernel) rfl, cw_1⟩
theorem mt_X2_89 : Cond.methodLink RX2 89 Lib.Math.min.name ∈ lw_g := mg 527 (by decide +kernel) rfl
theorem fl_X3_9 : FL RX3 9 3 0 := ⟨(RX3, TX3, 6), rfl, by decide, mg 74 (by decide +kernel) rfl, cw_3⟩
theorem fp_X3_9 : FP RX3 9 3 0 .int false := ⟨(RX3, TX3, 6), tyX3, rfl, by decide, mg 74 (by decide +kernel) rfl, cw_3, tyX3_ok, nmX3, rfl, by decide +kernel, fun h => by cases h⟩
theorem fl_X3_15 : FL RX3 15 3 1 := ⟨(RX3, TX3, 6), rfl, by decide, mg 78 (by decide +kernel) rfl, cw_3⟩
theorem fp_X3_15 : FP RX3 15 3 1 .int false := ⟨(RX3, TX3, 6), tyX3, rfl, by decide, mg 78 (by decide +kernel) rfl, cw_3, tyX3_ok, nmX3, rfl, by decide +kernel, fun h => by cases h⟩
theorem fl_X3_18 : FL RX3 18 3 2 := ⟨(RX3, TX3, 6), rfl, by decide, mg 82 (by decide +kernel) rfl, cw_3⟩
theorem fp_X3_18 : FP RX3 18 3 2 .int false := ⟨(RX3, TX3, 6), tyX3, rfl, by decide, mg 82 (by decide +kernel) rfl, cw_3, tyX3_ok, nmX3, rfl, by decide +kernel, fun h => by cases h⟩
theorem fl_X3_21 : FL RX3 21 3 3 := ⟨(RX3, TX3, 6), rfl, by decide, mg 86 (by decide +kernel) rfl, cw_3⟩
theorem fp_X3_21 : FP RX3 21 3 3 .int false := ⟨(RX3, TX3, 6), tyX3, rfl, by decide, mg 86 (by decide +kernel) rfl, cw_3, tyX3_ok, nmX3, rfl, by decide +kernel, fun h => by cases h⟩
theorem fl_X3_24 : FL RX3 24 3 4 := ⟨(RX3, TX3, 6), rfl, by decide, mg 90 (by decide +kernel) rfl, cw_3⟩
theorem fp_X3_24 : FP RX3 24 3 4 .int false := ⟨(RX3, TX3, 6), tyX3, rfl, by decide, mg 90 (by decide +kernel) rfl, cw_3, tyX3_ok, nmX3, rfl, by decide +kernel, fun h => by cases h⟩
theorem fl_X3_27 : FL RX3 27 3 5 := ⟨(RX3, TX3, 6), rfl, by decide, mg 93 (by decide +kernel) rfl, cw_3⟩
theorem fl_X4_9 : FL RX4 9 4 0 := ⟨(RX4, TX4, 3), rfl, by decide, mg 203 (by decide +kernel) rfl, cw_4⟩
theorem fl_X4_15 : FL RX4 15 4 1 := ⟨(RX4, TX4, 3), rfl, by decide, mg 204 (by decide +kernel) rfl, cw_4⟩
theorem fl_X4_18 : FL RX4 18 4 2 := ⟨(RX4, TX4, 3), rfl, by decide, mg 205 (by decide +kernel) rfl, cw_4⟩
theorem fp_X4_18 : FP RX4 18 4 2 .int false := ⟨(RX4, TX4, 3), tyX4, rfl, by decide, mg 205 (by decide +kernel) rfl, cw_4, tyX4_ok, nmX4, rfl, by decide +kernel, fun h => by cases h⟩
theorem fp_X5_16 : FP RX5 16 5 1 .boolean false := ⟨(RX5, TX5, 2), tyX5, rfl, by decide, mg 224 (by decide +kernel) rfl, cw_5, tyX5_ok, nmX5, rfl, by decide +kernel, fun h => by cases h⟩
theorem fl_X6_9 : FL RX6 9 6 0 := ⟨(RX6, TX6, 2), rfl, by decide, mg 46 (by decide +kernel) rfl, cw_6⟩
theorem fl_X6_15 : FL RX6 15 6 1 := ⟨(RX6, TX6, 2), rfl, by decide, mg 47 (by decide +kernel) rfl, cw_6⟩
theorem fp_X6_15 : FP RX6 15 6 1 .int false := ⟨(RX6, TX6, 2), tyX6, rfl, by decide, mg 47 (by decide +kernel) rfl, cw_6, tyX6_ok, nmX6, rfl, by decide +kernel, fun h => by cases h⟩
theorem vl_X6_19 : VL RX6 19 6 yX6_signAt cX6_signAt 2 (some FieldType.int) 1 := ⟨⟨mg 282 (by decide +kernel) rfl, mg 285 (by decide +kernel) rfl, mg 22 (by decide +kernel) rfl, by decide, by decide, by decide +kernel⟩, mg 283 (by decide +kernel) rfl, mg 284 (by decide +kernel) rfl, (RX6, TX6, 2), rfl, rfl⟩
theorem sl_X6_23 : SL RX6 23 yX6_mayStand cX6_mayStand 2 (some FieldType.boolean) 2 := ⟨⟨mg 286 (by decide +kernel) rfl, mg 288 (by decide +kernel) rfl, mg 22 (by decide +kernel) rfl, by decide, by decide, by decide +kernel⟩, mg 287 (by decide +kernel) rfl⟩
theorem nl_X6_27 : NL RX6 27 yX7_isFigure cX7_isFigure 1 (some FieldType.boolean) 1 := ⟨⟨RX7, fun s h => h.1⟩, mg 291 (by decide +kernel) rfl, mg 21 (by decide +kernel) rfl, ⟨by decide, by decide, by decide +kernel⟩, mg 290 (by decide +kernel) rfl⟩
theorem fl_X8_7 : FL RX8 7 8 1 := ⟨(RX8, TX8, 22), rfl, by decide, mg 607 (by decide +kernel) rfl, cw_8⟩
theorem fl_X8_13 : FL RX8 13 8 4 := ⟨(RX8, TX8, 22), rfl, by decide, mg 610 (by decide +kernel) rfl, cw_8⟩
theorem fl_X8_16 : FL RX8 16 8 5 := ⟨(RX8, TX8, 22), rfl, by decide, mg 611 (by decide +kernel) rfl, cw_8⟩
theorem fl_X8_19 : FL RX8 19 8 7 := ⟨(RX8, TX8, 22), rfl, by decide, mg 613 (by decide +kernel) rfl, cw_8⟩
theorem fl_X8_22 : FL RX8 22 8 8 := ⟨(RX8, TX8, 22), rfl, by decide, mg 614 (by decide +kernel) rfl, cw_8⟩
theorem fl_X8_25 : FL RX8 25 8 9 := ⟨(RX8, TX8, 22), rfl, by decide, mg 615 (by decide +kernel) rfl, cw_8⟩
theorem fl_X8_28 : FL RX8 28 8 11 := ⟨(RX8, TX8, 22), rfl, by decide, mg 617 (by decide +kernel) rfl, cw_8⟩
theorem fl_X8_31 : FL RX8 31 8 12 := ⟨(RX8, TX8, 22), rfl, by decide, mg 618 (by decide +kernel) rfl, cw_8⟩
theorem fl_X8_34 : FL RX8 34 8 14 := ⟨(RX8, TX8, 22), rfl, by decide, mg 620 (by decide +kernel) rfl, cw_8⟩
theorem fl_X8_37 : FL RX8 37 8 15 := ⟨(RX8, TX8, 22), rfl, by decide, mg 621 (by decide +kernel) rfl, cw_8⟩
theorem fl_X8_41 : FL RX8 41 8 17 := ⟨(RX8, TX8, 22), rfl, by decide, mg 623 (by decide +kernel) rfl, cw_8⟩
theorem fl_X8_44 : FL RX8 44 8 18 := ⟨(RX8, TX8, 22), rfl, by decide, mg 624 (by decide +kernel) rfl, cw_8⟩
theorem fl_X8_47 : FL RX8 47 8 20 := ⟨(RX8, TX8, 22), rfl, by decide, mg 626 (by decide +kernel) rfl, cw_8⟩
theorem fl_X8_50 : FL RX8 50 8 21 := ⟨(RX8, TX8, 22), rfl, by decide, mg 627 (by decide +kernel) rfl, cw_8⟩
theorem fp_X8_50 : FP RX8 50 8 21 .int false := ⟨(RX8, TX8, 22), tyX8, rfl, by decide, mg 627 (by decide +kernel) rfl, cw_8, tyX8_ok, nmX8, rfl, by decide +kernel, fun h => by cases h⟩
theorem sl_X8_54 : SL RX8 54 yX8_layFirst cX8_layFirst 3 none 1 := ⟨⟨mg 603 (by decide +kernel) rfl, mg 605 (by decide +kernel) rfl, mg 29 (by decide +kernel) rfl, by decide, by decide, by decide +kernel⟩, mg 604 (by decide +kernel) rfl⟩
theorem fp_X8_58 : FP RX8 58 8 0 .int false := ⟨(RX8, TX8, 22), tyX8, rfl, by decide, mg 606 (by decide +kernel) rfl, cw_8, tyX8_ok, nmX8, rfl, by decide +kernel, fun h => by cases h⟩
theorem sl_X8_61 : SL RX8 61 yX8_in cX8_in 6 (some FieldType.boolean) 3 := ⟨⟨mg 679 (by decide +kernel) rfl, mg 681 (by decide +kernel) rfl, mg 29 (by decide +kernel) rfl, by decide, by decide, by decide +kernel⟩, mg 680 (by decide +kernel) rfl⟩
theorem sl_X8_65 : SL RX8 65 yX8_at cX8_at 1 (some FieldType.int) 1 := ⟨⟨mg 699 (by decide +kernel) rfl, mg 701 (by decide +kernel) rfl, mg 29 (by decide +kernel) rfl, by decide, by decide, by decide +kernel⟩, mg 700 (by decide +kernel) rfl⟩
theorem sl_X8_69 : SL RX8 69 yX8_has cX8_has 2 (some FieldType.boolean) 2 := ⟨⟨mg 725 (by decide +kernel) rfl, mg 727 (by decide +kernel) rfl, mg 29 (by decide +kernel) rfl, by decide, by decide, by decide +kernel⟩, mg 726 (by decide +kernel) rfl⟩
theorem sl_X8_73 : SL RX8 73 yX8_sendOn cX8_sendOn 5 none 2 := ⟨⟨mg 719 (by decide +kernel) rfl, mg 721 (by decide +kernel) rfl, mg 29 (by decide +kernel) rfl, by decide, by decide, by decide +kernel⟩, mg 720 (by decide +kernel) rfl⟩
theorem sl_X8_77 : SL RX8 77 yX8_isEmpty cX8_isEmpty 1 (some FieldType.boolean) 1 := ⟨⟨mg 722 (by decide +kernel) rfl, mg 724 (by decide +kernel) rfl, mg 29 (by decide +kernel) rfl, by decide, by decide, by decide +kernel⟩, mg 723 (by decide +kernel) rfl⟩
theorem vl_X8_81 : VL RX8 81 8 yX8_isDue cX8_isDue 7 (some FieldType.boolean) 2 := ⟨⟨mg 728 (by decide +kernel) rfl, mg 731 (by decide +kernel) rfl, mg 29 (by decide +kernel) rfl, by decide, by decide, by decide +kernel⟩, mg 730 (by decide +kernel) rfl, mg 9 (by decide +kernel) rfl, (RX8, TX8, 22), rfl, rfl⟩
theorem sl_X8_85 : SL RX8 85 yX8_wakeTime cX8_wakeTime 3 (some FieldType.int) 1 := ⟨⟨mg 732 (by decide +kernel) rfl, mg 734 (by decide +kernel) rfl, mg 29 (by decide +kernel) rfl, by decide, by decide, by decide +kernel⟩, mg 733 (by decide +kernel) rfl⟩
theorem sl_X8_89 : SL RX8 89 yX8_lay cX8_lay 3 none 2 := ⟨⟨mg 708 (by decide +kernel) rfl, mg 710 (by decide +kernel) rfl, mg 29 (by decide +kernel) rfl, by decide, by decide, by decide +kernel⟩, mg 709 (by decide +kernel) rfl⟩
theorem sl_X8_93 : SL RX8 93 yX8_isQuiet cX8_isQuiet 1 (some FieldType.boolean) 1 := ⟨⟨mg 752 (by decide +kernel) rfl, mg 754 (by decide +kernel) rfl, mg 29 (by decide +kernel) rfl, by decide, by decide, by decide +kernel⟩, mg 753 (by decide +kernel) rfl⟩
theorem vl_X8_96 : VL RX8 96 8 yX8_tick cX8_tick 3 none 1 := ⟨⟨mg 715 (by decide +kernel) rfl, mg 718 (by decide +kernel) rfl, mg 29 (by decide +kernel) rfl, by decide, by decide, by decide +kernel⟩, mg 717 (by decide +kernel) rfl, mg 8 (by decide +kernel) rfl, (RX8, TX8, 22), rfl, rfl⟩
theorem kl_X8_99 : Cond.constantLong RX8 99 (255 : Int64) ∈ lw_g := mg 678 (by decide +kernel) rfl
theorem fl_X8_101 : FL RX8 101 8 2 := ⟨(RX8, TX8, 22), rfl, by decide, mg 608 (by decide +kernel) rfl, cw_8⟩
theorem fp_X8_101 : FP RX8 101 8 2 .int false := ⟨(RX8, TX8, 22), tyX8, rfl, by decide, mg 608 (by decide +kernel) rfl, cw_8, tyX8_ok, nmX8, rfl, by decide +kernel, fun h => by cases h⟩
theorem fl_X8_104 : FL RX8 104 8 3 := ⟨(RX8, TX8, 22), rfl, by decide, mg 609 (by decide +kernel) rfl, cw_8⟩
theorem fp_X8_104 : FP RX8 104 8 3 .int false := ⟨(RX8, TX8, 22), tyX8, rfl, by decide, mg 609 (by decide +kernel) rfl, cw_8, tyX8_ok, nmX8, rfl, by decide +kernel, fun h => by cases h⟩
theorem kl_X8_107 : Cond.constantLong RX8 107 (9 : Int64) ∈ lw_g := mg 698 (by decide +kernel) rfl
theorem fl_X8_109 : FL RX8 109 8 6 := ⟨(RX8, TX8, 22), rfl, by decide, mg 612 (by decide +kernel) rfl, cw_8⟩
theorem fp_X8_109 : FP RX8 109 8 6 .int false := ⟨(RX8, TX8, 22), tyX8, rfl, by decide, mg 612 (by decide +kernel) rfl, cw_8, tyX8_ok, nmX8, rfl, by decide +kernel, fun h => by cases h⟩
theorem vl_X8_112 : VL RX8 112 8 yX8_figure cX8_figure 3 (some FieldType.int) 1 := ⟨⟨mg 694 (by decide +kernel) rfl, mg 697 (by decide +kernel) rfl, mg 29 (by decide +kernel) rfl, by decide, by decide, by decide +kernel⟩, mg 696 (by decide +kernel) rfl, mg 6 (by decide +kernel) rfl, (RX8, TX8, 22), rfl, rfl⟩
theorem kl_X8_115 : Cond.constantLong RX8 115 (97 : Int64) ∈ lw_g := mg 702 (by decide +kernel) rfl
theorem kl_X8_117 : Cond.constantLong RX8 117 (98 : Int64) ∈ lw_g := mg 703 (by decide +kernel) rfl
theorem vl_X8_119 : VL RX8 119 8 yX8_readLink cX8_readLink 3 (some FieldType.int) 0 := ⟨⟨mg 690 (by decide +kernel) rfl, mg 693 (by decide +kernel) rfl, mg 29 (by decide +kernel) rfl, by decide, by decide, by decide +kernel⟩, mg 692 (by decide +kernel) rfl, mg 5 (by decide +kernel) rfl, (RX8, TX8, 22), rfl, rfl⟩
theorem sl_X8_123 : SL RX8 123 yX8_isFull cX8_isFull 2 (some FieldType.boolean) 2 := ⟨⟨mg 735 (by decide +kernel) rfl, mg 737 (by decide +kernel) rfl, mg 29 (by decide +kernel) rfl, by decide, by decide, by decide +kernel⟩, mg 736 (by decide +kernel) rfl⟩
theorem sl_X8_126 : SL RX8 126 yX8_comeOn cX8_comeOn 4 none 3 := ⟨⟨mg 738 (by decide +kernel) rfl, mg 740 (by decide +kernel) rfl, mg 29 (by decide +kernel) rfl, by decide, by decide, by decide +kernel⟩, mg 739 (by decide +kernel) rfl⟩
theorem fl_X8_130 : FL RX8 130 8 10 := ⟨(RX8, TX8, 22), rfl, by decide, mg 616 (by decide +kernel) rfl, cw_8⟩
theorem fp_X8_130 : FP RX8 130 8 10 .int false := ⟨(RX8, TX8, 22), tyX8, rfl, by decide, mg 616 (by decide +kernel) rfl, cw_8, tyX8_ok, nmX8, rfl, by decide +kernel, fun h => by cases h⟩
theorem vl_X8_133 : VL RX8 133 8 yX8_doEvent cX8_doEvent 4 none 2 := ⟨⟨mg 711 (by decide +kernel) rfl, mg 714 (by decide +kernel) rfl, mg 29 (by decide +kernel) rfl, by decide, by decide, by decide +kernel⟩, mg 713 (by decide +kernel) rfl, mg 7 (by decide +kernel) rfl, (RX8, TX8, 22), rfl, rfl⟩
theorem fl_X8_136 : FL RX8 136 8 13 := ⟨(RX8, TX8, 22), rfl, by decide, mg 619 (by decide +kernel) rfl, cw_8⟩
theorem fp_X8_136 : FP RX8 136 8 13 .int false := ⟨(RX8, TX8, 22), tyX8, rfl, by decide, mg 619 (by decide +kernel) rfl, cw_8, tyX8_ok, nmX8, rfl, by decide +kernel, fun h => by cases h⟩
theorem sl_X8_139 : SL RX8 139 yX8_told cX8_told 2 (some FieldType.int) 2 := ⟨⟨mg 745 (by decide +kernel) rfl, mg 747 (by decide +kernel) rfl, mg 29 (by decide +kernel) rfl, by decide, by decide, by decide +kernel⟩, mg 746 (by decide +kernel) rfl⟩
theorem vl_X8_143 : VL RX8 143 8 yX8_quiet cX8_quiet 3 (some FieldType.int) 1 := ⟨⟨mg 748 (by decide +kernel) rfl, mg 751 (by decide +kernel) rfl, mg 29 (by decide +kernel) rfl, by decide, by decide, by decide +kernel⟩, mg 750 (by decide +kernel) rfl, mg 10 (by decide +kernel) rfl, (RX8, TX8, 22), rfl, rfl⟩
theorem vl_X8_146 : VL RX8 146 8 yX8_pricePlay cX8_pricePlay 1 (some FieldType.int) 0 := ⟨⟨mg 767 (by decide +kernel) rfl, mg 770 (by decide +kernel) rfl, mg 29 (by decide +kernel) rfl, by decide, by decide, by decide +kernel⟩, mg 769 (by decide +kernel) rfl, mg 12 (by decide +kernel) rfl, (RX8, TX8, 22), rfl, rfl⟩
theorem sl_X8_149 : SL RX8 149 yX8_noEnd cX8_noEnd 1 (some FieldType.boolean) 1 := ⟨⟨mg 759 (by decide +kernel) rfl, mg 761 (by decide +kernel) rfl, mg 29 (by decide +kernel) rfl, by decide, by decide, by decide +kernel⟩, mg 760 (by decide +kernel) rfl⟩
theorem kl_X8_153 : Cond.constantLong RX8 153 (4 : Int64) ∈ lw_g := mg 762 (by decide +kernel) rfl
theorem vl_X8_155 : VL RX8 155 8 yX8_best cX8_best 7 (some FieldType.int) 1 := ⟨⟨mg 763 (by decide +kernel) rfl, mg 766 (by decide +kernel) rfl, mg 29 (by decide +kernel) rfl, by decide, by decide, by decide +kernel⟩, mg 765 (by decide +kernel) rfl, mg 11 (by decide +kernel) rfl, (RX8, TX8, 22), rfl, rfl⟩
theorem vl_X8_158 : VL RX8 158 8 yX8_note cX8_note 2 none 0 := ⟨⟨mg 783 (by decide +kernel) rfl, mg 786 (by decide +kernel) rfl, mg 29 (by decide +kernel) rfl, by decide, by decide, by decide +kernel⟩, mg 785 (by decide +kernel) rfl, mg 14 (by decide +kernel) rfl, (RX8, TX8, 22), rfl, rfl⟩
theorem kl_X8_161 : Cond.constantLong RX8 161 (20 : Int64) ∈ lw_g := mg 791 (by decide +kernel) rfl
theorem kl_X8_163 : Cond.constantLong RX8 163 (2 : Int64) ∈ lw_g := mg 796 (by decide +kernel) rfl
theorem kl_X8_165 : Cond.constantLong RX8 165 (99 : Int64) ∈ lw_g := mg 805 (by decide +kernel) rfl
theorem vl_X8_167 : VL RX8 167 8 yX8_goOver cX8_goOver 6 none 2 := ⟨⟨mg 771 (by decide +kernel) rfl, mg 774 (by decide +kernel) rfl, mg 29 (by decide +kernel) rfl, by decide, by decide, by decide +kernel⟩, mg 773 (by decide +kernel) rfl, mg 13 (by decide +kernel) rfl, (RX8, TX8, 22), rfl, rfl⟩
theorem vl_X8_171 : VL RX8 171 8 yX8_letters cX8_letters 3 (some FieldType.int) 0 := ⟨⟨mg 810 (by decide +kernel) rfl, mg 813 (by decide +kernel) rfl, mg 29 (by decide +kernel) rfl, by decide, by decide, by decide +kernel⟩, mg 812 (by decide +kernel) rfl, mg 15 (by decide +kernel) rfl, (RX8, TX8, 22), rfl, rfl⟩
theorem kl_X8_174 : Cond.constantLong RX8 174 (1000 : Int64) ∈ lw_g := mg 818 (by decide +kernel) rfl
theorem sl_X8_176 : SL RX8 176 yX8_longPower cX8_longPower 6 (some FieldType.long) 2 := ⟨⟨mg 819 (by decide +kernel) rfl, mg 821 (by decide +kernel) rfl, mg 29 (by decide +kernel) rfl, by decide, by decide, by decide +kernel⟩, mg 820 (by decide +kernel) rfl⟩
theorem vl_X8_180 : VL RX8 180 8 yX8_does cX8_does 7 (some FieldType.boolean) 3 := ⟨⟨mg 822 (by decide +kernel) rfl, mg 825 (by decide +kernel) rfl, mg 29 (by decide +kernel) rfl, by decide, by decide, by decide +kernel⟩, mg 824 (by decide +kernel) rfl, mg 16 (by decide +kernel) rfl, (RX8, TX8, 22), rfl, rfl⟩
theorem kl_X8_184 : Cond.constantLong RX8 184 (3 : Int64) ∈ lw_g := mg 830 (by decide +kernel) rfl
theorem fl_X8_186 : FL RX8 186 8 16 := ⟨(RX8, TX8, 22), rfl, by decide, mg 622 (by decide +kernel) rfl, cw_8⟩
theorem fp_X8_186 : FP RX8 186 8 16 .int false := ⟨(RX8, TX8, 22), tyX8, rfl, by decide, mg 622 (by decide +kernel) rfl, cw_8, tyX8_ok, nmX8, rfl, by decide +kernel, fun h => by cases h⟩
theorem vl_X8_189 : VL RX8 189 8 yX8_tickNoted cX8_tickNoted 1 none 0 := ⟨⟨mg 843 (by decide +kernel) rfl, mg 846 (by decide +kernel) rfl, mg 29 (by decide +kernel) rfl, by decide, by decide, by decide +kernel⟩, mg 845 (by decide +kernel) rfl, mg 18 (by decide +kernel) rfl, (RX8, TX8, 22), rfl, rfl⟩
theorem vl_X8_192 : VL RX8 192 8 yX8_layWas cX8_layWas 4 none 1 := ⟨⟨mg 839 (by decide +kernel) rfl, mg 842 (by decide +kernel) rfl, mg 29 (by decide +kernel) rfl, by decide, by decide, by decide +kernel⟩, mg 841 (by decide +kernel) rfl, mg 17 (by decide +kernel) rfl, (RX8, TX8, 22), rfl, rfl⟩
theorem sl_X8_196 : SL RX8 196 yX8_divisor cX8_divisor 5 (some FieldType.int) 2 := ⟨⟨mg 864 (by decide +kernel) rfl, mg 866 (by decide +kernel) rfl, mg 29 (by decide +kernel) rfl, by decide, by decide, by decide +kernel⟩, mg 865 (by decide +kernel) rfl⟩
theorem sl_X8_200 : SL RX8 200 yX8_ones cX8_ones 3 (some FieldType.int) 1 := ⟨⟨mg 851 (by decide +kernel) rfl, mg 853 (by decide +kernel) rfl, mg 29 (by decide +kernel) rfl, by decide, by decide, by decide +kernel⟩, mg 852 (by decide +kernel) rfl⟩
theorem sl_X8_203 : SL RX8 203 yX8_factorial cX8_factorial 3 (some FieldType.int) 1 := ⟨⟨mg 854 (by decide +kernel) rfl, mg 856 (by decide +kernel) rfl, mg 29 (by decide +kernel) rfl, by decide, by decide, by decide +kernel⟩, mg 855 (by decide +kernel) rfl⟩
theorem vl_X8_206 : VL RX8 206 8 yX8_energyBy cX8_energyBy 3 (some FieldType.int) 2 := ⟨⟨mg 857 (by decide +kernel) rfl, mg 860 (by decide +kernel) rfl, mg 29 (by decide +kernel) rfl, by decide, by decide, by decide +kernel⟩, mg 859 (by decide +kernel) rfl, mg 19 (by decide +kernel) rfl, (RX8, TX8, 22), rfl, rfl⟩
theorem sl_X8_209 : SL RX8 209 yX8_fraction cX8_fraction 4 (some FieldType.int) 3 := ⟨⟨mg 861 (by decide +kernel) rfl, mg 863 (by decide +kernel) rfl, mg 29 (by decide +kernel) rfl, by decide, by decide, by decide +kernel⟩, mg 862 (by decide +kernel) rfl⟩
theorem kl_X8_213 : Cond.constantLong RX8 213 (6 : Int64) ∈ lw_g := mg 871 (by decide +kernel) rfl
theorem kl_X8_215 : Cond.constantLong RX8 215 (9999 : Int64) ∈ lw_g := mg 872 (by decide +kernel) rfl
theorem kl_X8_217 : Cond.constantLong RX8 217 (10 : Int64) ∈ lw_g := mg 873 (by decide +kernel) rfl
theorem sl_X8_219 : SL RX8 219 yX8_power cX8_power 4 (some FieldType.int) 2 := ⟨⟨mg 874 (by decide +kernel) rfl, mg 876 (by decide +kernel) rfl, mg 29 (by decide +kernel) rfl, by decide, by decide, by decide +kernel⟩, mg 875 (by decide +kernel) rfl⟩
theorem fl_X8_222 : FL RX8 222 8 19 := ⟨(RX8, TX8, 22), rfl, by decide, mg 625 (by decide +kernel) rfl, cw_8⟩
theorem fp_X8_222 : FP RX8 222 8 19 .long false := ⟨(RX8, TX8, 22), tyX8, rfl, by decide, mg 625 (by decide +kernel) rfl, cw_8, tyX8_ok, nmX8, rfl, by decide +kernel, fun h => by cases h⟩
theorem kl_X8_226 : Cond.constantLong RX8 226 (60 : Int64) ∈ lw_g := mg 885 (by decide +kernel) rfl
theorem kl_X8_228 : Cond.constantLong RX8 228 (6364136223846793005 : Int64) ∈ lw_g := mg 886 (by decide +kernel) rfl
theorem kl_X8_230 : Cond.constantLong RX8 230 (1442695040888963407 : Int64) ∈ lw_g := mg 887 (by decide +kernel) rfl
theorem ki_J6_265 : Cond.constant RJ6 265 (1431655765 : Int32) ∈ lw_g := mg 548 (by decide +kernel) rfl
theorem ki_J6_266 : Cond.constant RJ6 266 (858993459 : Int32) ∈ lw_g := mg 549 (by decide +kernel) rfl
theorem ki_J6_267 : Cond.constant RJ6 267 (252645135 : Int32) ∈ lw_g := mg 550 (by decide +kernel) rfl
