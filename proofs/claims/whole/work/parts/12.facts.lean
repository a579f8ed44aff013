theorem f_WD_83 : am_isF "WheelDisc" 83 9 12 := ⟨_, rfl, by decide, am_mem 325 (by decide +kernel) rfl⟩
theorem kd_0 : am_kind 0 = 9 := by decide +kernel
theorem v_WD_95 : am_isV "WheelDisc" 95 y_WD_refuse 1 := ⟨am_mem 368 (by decide +kernel) rfl, am_mem 370 (by decide +kernel) rfl, am_mem 1 (by decide +kernel) rfl, am_mem 62 (by decide +kernel) rfl, by decide, by decide, by decide +kernel⟩
theorem cn_0 : am_cn 0 = "WheelDisc" := by decide +kernel
theorem f_WD_10 : am_isF "WheelDisc" 10 9 0 := ⟨_, rfl, by decide, am_mem 313 (by decide +kernel) rfl⟩
theorem lk_0_0 : am_link 0 0 = 1 := by decide +kernel
theorem f_Rim_13 : am_isF "WheelDisc$Rim" 13 5 1 := ⟨_, rfl, by decide, am_mem 94 (by decide +kernel) rfl⟩
theorem kd_1 : am_kind 1 = 5 := by decide +kernel
theorem f_Rim_17 : am_isF "WheelDisc$Rim" 17 5 2 := ⟨_, rfl, by decide, am_mem 95 (by decide +kernel) rfl⟩
theorem f_Rim_9 : am_isF "WheelDisc$Rim" 9 5 0 := ⟨_, rfl, by decide, am_mem 92 (by decide +kernel) rfl⟩
theorem lk_1_0 : am_link 1 0 = 2 := by decide +kernel
theorem ce_2 : am_cell 2 = (12, 64) := by decide +kernel
theorem s_Rim_20 : am_isS "WheelDisc$Rim" 20 y_Arr_fillJ 2 := ⟨Or.inl (am_mem 361 (by decide +kernel) rfl), am_mem 362 (by decide +kernel) rfl, am_mem 73 (by decide +kernel) rfl, by decide, by decide, by decide +kernel⟩
theorem v_WD_87 : am_isV "WheelDisc" 87 y_Rim_become 2 := ⟨am_mem 357 (by decide +kernel) rfl, am_mem 358 (by decide +kernel) rfl, am_mem 359 (by decide +kernel) rfl, am_mem 63 (by decide +kernel) rfl, by decide, by decide, by decide +kernel⟩
theorem cn_1 : am_cn 1 = "WheelDisc$Rim" := by decide +kernel
theorem v_WD_91 : am_isV "WheelDisc" 91 y_WD_accept 1 := ⟨am_mem 364 (by decide +kernel) rfl, am_mem 366 (by decide +kernel) rfl, am_mem 0 (by decide +kernel) rfl, am_mem 62 (by decide +kernel) rfl, by decide, by decide, by decide +kernel⟩
theorem v_WD_98 : am_isV "WheelDisc" 98 y_Rim_hasRow 0 := ⟨am_mem 376 (by decide +kernel) rfl, am_mem 377 (by decide +kernel) rfl, am_mem 378 (by decide +kernel) rfl, am_mem 63 (by decide +kernel) rfl, by decide, by decide, by decide +kernel⟩
theorem v_WD_102 : am_isV "WheelDisc" 102 y_WD_deny 1 := ⟨am_mem 380 (by decide +kernel) rfl, am_mem 382 (by decide +kernel) rfl, am_mem 2 (by decide +kernel) rfl, am_mem 62 (by decide +kernel) rfl, by decide, by decide, by decide +kernel⟩
theorem f_WD_106 : am_isF "WheelDisc" 106 5 2 := ⟨_, rfl, by decide, am_mem 96 (by decide +kernel) rfl⟩
theorem f_WD_109 : am_isF "WheelDisc" 109 5 0 := ⟨_, rfl, by decide, am_mem 93 (by decide +kernel) rfl⟩
theorem v_WD_112 : am_isV "WheelDisc" 112 y_WD_grant 1 := ⟨am_mem 384 (by decide +kernel) rfl, am_mem 386 (by decide +kernel) rfl, am_mem 3 (by decide +kernel) rfl, am_mem 62 (by decide +kernel) rfl, by decide, by decide, by decide +kernel⟩
theorem f_WD_26 : am_isF "WheelDisc" 26 9 2 := ⟨_, rfl, by decide, am_mem 315 (by decide +kernel) rfl⟩
theorem lk_0_2 : am_link 0 2 = 7 := by decide +kernel
theorem f_WD_19 : am_isF "WheelDisc" 19 9 1 := ⟨_, rfl, by decide, am_mem 314 (by decide +kernel) rfl⟩
theorem lk_0_1 : am_link 0 1 = 3 := by decide +kernel
theorem f_Hist_11 : am_isF "WheelDisc$History" 11 3 0 := ⟨_, rfl, by decide, am_mem 148 (by decide +kernel) rfl⟩
theorem kd_7 : am_kind 7 = 3 := by decide +kernel
theorem lk_7_0 : am_link 7 0 = 8 := by decide +kernel
theorem f_Hist_15 : am_isF "WheelDisc$History" 15 3 1 := ⟨_, rfl, by decide, am_mem 149 (by decide +kernel) rfl⟩
theorem f_Disc_22 : am_isF "WheelDisc$Disc" 22 0 3 := ⟨_, rfl, by decide, am_mem 116 (by decide +kernel) rfl⟩
theorem f_Disc_26 : am_isF "WheelDisc$Disc" 26 0 4 := ⟨_, rfl, by decide, am_mem 119 (by decide +kernel) rfl⟩
theorem f_Disc_29 : am_isF "WheelDisc$Disc" 29 0 5 := ⟨_, rfl, by decide, am_mem 122 (by decide +kernel) rfl⟩
theorem f_Disc_11 : am_isF "WheelDisc$Disc" 11 0 0 := ⟨_, rfl, by decide, am_mem 111 (by decide +kernel) rfl⟩
theorem a_Disc_38 : am_isA "WheelDisc$Disc" 38 := ⟨am_mem 404 (by decide +kernel) rfl, am_mem 406 (by decide +kernel) rfl, am_mem 405 (by decide +kernel) rfl, am_mem 74 (by decide +kernel) rfl⟩
theorem f_Disc_15 : am_isF "WheelDisc$Disc" 15 0 1 := ⟨_, rfl, by decide, am_mem 112 (by decide +kernel) rfl⟩
theorem f_Disc_19 : am_isF "WheelDisc$Disc" 19 0 2 := ⟨_, rfl, by decide, am_mem 114 (by decide +kernel) rfl⟩
theorem v_Hist_23 : am_isV "WheelDisc$History" 23 y_Disc_become 1 := ⟨am_mem 400 (by decide +kernel) rfl, am_mem 401 (by decide +kernel) rfl, am_mem 402 (by decide +kernel) rfl, am_mem 64 (by decide +kernel) rfl, by decide, by decide, by decide +kernel⟩
theorem s_Hist_27 : am_isS "WheelDisc$History" 27 y_WD_stepRound 3 := ⟨Or.inr ⟨"WheelDisc", am_memN 407 (by decide +kernel) rfl⟩, am_mem 408 (by decide +kernel) rfl, am_mem 62 (by decide +kernel) rfl, by decide, by decide, by decide +kernel⟩
theorem f_Hist_19 : am_isF "WheelDisc$History" 19 3 2 := ⟨_, rfl, by decide, am_mem 150 (by decide +kernel) rfl⟩
theorem v_WD_308 : am_isV "WheelDisc" 308 y_Hist_remember 1 := ⟨am_mem 396 (by decide +kernel) rfl, am_mem 397 (by decide +kernel) rfl, am_mem 398 (by decide +kernel) rfl, am_mem 65 (by decide +kernel) rfl, by decide, by decide, by decide +kernel⟩
theorem cn_7 : am_cn 7 = "WheelDisc$History" := by decide +kernel
theorem f_WD_33 : am_isF "WheelDisc" 33 9 3 := ⟨_, rfl, by decide, am_mem 316 (by decide +kernel) rfl⟩
theorem lk_0_3 : am_link 0 3 = 9 := by decide +kernel
theorem f_WD_311 : am_isF "WheelDisc" 311 7 4 := ⟨_, rfl, by decide, am_mem 186 (by decide +kernel) rfl⟩
theorem kd_9 : am_kind 9 = 7 := by decide +kernel
theorem f_WD_40 : am_isF "WheelDisc" 40 9 4 := ⟨_, rfl, by decide, am_mem 317 (by decide +kernel) rfl⟩
theorem lk_0_4 : am_link 0 4 = 13 := by decide +kernel
theorem f_WD_314 : am_isF "WheelDisc" 314 2 5 := ⟨_, rfl, by decide, am_mem 211 (by decide +kernel) rfl⟩
theorem kd_13 : am_kind 13 = 2 := by decide +kernel
theorem f_WD_57 : am_isF "WheelDisc" 57 9 7 := ⟨_, rfl, by decide, am_mem 320 (by decide +kernel) rfl⟩
theorem lk_0_7 : am_link 0 7 = 22 := by decide +kernel
theorem f_Drive_32 : am_isF "WheelDisc$Drive" 32 1 6 := ⟨_, rfl, by decide, am_mem 276 (by decide +kernel) rfl⟩
theorem kd_22 : am_kind 22 = 1 := by decide +kernel
theorem f_Drive_35 : am_isF "WheelDisc$Drive" 35 1 7 := ⟨_, rfl, by decide, am_mem 277 (by decide +kernel) rfl⟩
theorem v_WD_315 : am_isV "WheelDisc" 315 y_Drive_unfollow 0 := ⟨am_mem 414 (by decide +kernel) rfl, am_mem 415 (by decide +kernel) rfl, am_mem 416 (by decide +kernel) rfl, am_mem 70 (by decide +kernel) rfl, by decide, by decide, by decide +kernel⟩
theorem cn_22 : am_cn 22 = "WheelDisc$Drive" := by decide +kernel
theorem v_WD_184 : am_isV "WheelDisc" 184 y_WD_outdate 0 := ⟨am_mem 410 (by decide +kernel) rfl, am_mem 412 (by decide +kernel) rfl, am_mem 5 (by decide +kernel) rfl, am_mem 62 (by decide +kernel) rfl, by decide, by decide, by decide +kernel⟩
theorem v_WD_116 : am_isV "WheelDisc" 116 y_WD_beginChange 0 := ⟨am_mem 392 (by decide +kernel) rfl, am_mem 394 (by decide +kernel) rfl, am_mem 4 (by decide +kernel) rfl, am_mem 62 (by decide +kernel) rfl, by decide, by decide, by decide +kernel⟩
theorem kd_3 : am_kind 3 = 0 := by decide +kernel
theorem lk_3_0 : am_link 3 0 = 4 := by decide +kernel
theorem ce_4 : am_cell 4 = (12, 80) := by decide +kernel
theorem s_Disc_32 : am_isS "WheelDisc$Disc" 32 y_Arr_fillJ 2 := ⟨Or.inl (am_mem 422 (by decide +kernel) rfl), am_mem 362 (by decide +kernel) rfl, am_mem 73 (by decide +kernel) rfl, by decide, by decide, by decide +kernel⟩
theorem v_WD_119 : am_isV "WheelDisc" 119 y_Disc_empty 1 := ⟨am_mem 418 (by decide +kernel) rfl, am_mem 419 (by decide +kernel) rfl, am_mem 420 (by decide +kernel) rfl, am_mem 64 (by decide +kernel) rfl, by decide, by decide, by decide +kernel⟩
theorem cn_3 : am_cn 3 = "WheelDisc$Disc" := by decide +kernel
theorem v_WD_123 : am_isV "WheelDisc" 123 y_Rim_isThere 0 := ⟨am_mem 427 (by decide +kernel) rfl, am_mem 428 (by decide +kernel) rfl, am_mem 429 (by decide +kernel) rfl, am_mem 63 (by decide +kernel) rfl, by decide, by decide, by decide +kernel⟩
theorem f_WD_126 : am_isF "WheelDisc" 126 0 4 := ⟨_, rfl, by decide, am_mem 121 (by decide +kernel) rfl⟩
theorem v_WD_129 : am_isV "WheelDisc" 129 y_Disc_addDarkTrack 0 := ⟨am_mem 431 (by decide +kernel) rfl, am_mem 432 (by decide +kernel) rfl, am_mem 433 (by decide +kernel) rfl, am_mem 64 (by decide +kernel) rfl, by decide, by decide, by decide +kernel⟩
theorem f_WD_133 : am_isF "WheelDisc" 133 0 3 := ⟨_, rfl, by decide, am_mem 118 (by decide +kernel) rfl⟩
theorem v_Rim_26 : am_isV "WheelDisc$Rim" 26 y_Rim_hasRow 0 := ⟨am_mem 439 (by decide +kernel) rfl, am_mem 377 (by decide +kernel) rfl, am_mem 378 (by decide +kernel) rfl, am_mem 63 (by decide +kernel) rfl, by decide, by decide, by decide +kernel⟩
theorem v_WD_136 : am_isV "WheelDisc" 136 y_Rim_isLight 1 := ⟨am_mem 435 (by decide +kernel) rfl, am_mem 436 (by decide +kernel) rfl, am_mem 437 (by decide +kernel) rfl, am_mem 63 (by decide +kernel) rfl, by decide, by decide, by decide +kernel⟩
theorem k_Disc_48 : Cond.constantLong "WheelDisc$Disc" 48 (-1) ∈ am_T := am_mem 444 (by decide +kernel) rfl
theorem v_WD_139 : am_isV "WheelDisc" 139 y_Disc_setLight 3 := ⟨am_mem 440 (by decide +kernel) rfl, am_mem 441 (by decide +kernel) rfl, am_mem 442 (by decide +kernel) rfl, am_mem 64 (by decide +kernel) rfl, by decide, by decide, by decide +kernel⟩
theorem v_WD_143 : am_isV "WheelDisc" 143 y_Disc_hasTrack 1 := ⟨am_mem 449 (by decide +kernel) rfl, am_mem 450 (by decide +kernel) rfl, am_mem 451 (by decide +kernel) rfl, am_mem 64 (by decide +kernel) rfl, by decide, by decide, by decide +kernel⟩
theorem v_WD_146 : am_isV "WheelDisc" 146 y_Disc_hasSector 1 := ⟨am_mem 453 (by decide +kernel) rfl, am_mem 454 (by decide +kernel) rfl, am_mem 455 (by decide +kernel) rfl, am_mem 64 (by decide +kernel) rfl, by decide, by decide, by decide +kernel⟩
theorem s_Disc_44 : am_isS "WheelDisc$Disc" 44 y_WD_isSet 3 := ⟨Or.inr ⟨"WheelDisc", am_memN 461 (by decide +kernel) rfl⟩, am_mem 462 (by decide +kernel) rfl, am_mem 62 (by decide +kernel) rfl, by decide, by decide, by decide +kernel⟩
theorem v_WD_149 : am_isV "WheelDisc" 149 y_Disc_isLight 2 := ⟨am_mem 457 (by decide +kernel) rfl, am_mem 458 (by decide +kernel) rfl, am_mem 459 (by decide +kernel) rfl, am_mem 64 (by decide +kernel) rfl, by decide, by decide, by decide +kernel⟩
theorem f_WD_152 : am_isF "WheelDisc" 152 0 5 := ⟨_, rfl, by decide, am_mem 124 (by decide +kernel) rfl⟩
theorem lk_3_1 : am_link 3 1 = 5 := by decide +kernel
theorem ce_5 : am_cell 5 = (11, 10) := by decide +kernel
theorem lk_3_2 : am_link 3 2 = 6 := by decide +kernel
theorem ce_6 : am_cell 6 = (11, 10) := by decide +kernel
theorem v_WD_155 : am_isV "WheelDisc" 155 y_Disc_addReader 2 := ⟨am_mem 468 (by decide +kernel) rfl, am_mem 469 (by decide +kernel) rfl, am_mem 470 (by decide +kernel) rfl, am_mem 64 (by decide +kernel) rfl, by decide, by decide, by decide +kernel⟩
theorem v_WD_159 : am_isV "WheelDisc" 159 y_Disc_hasReader 1 := ⟨am_mem 476 (by decide +kernel) rfl, am_mem 477 (by decide +kernel) rfl, am_mem 478 (by decide +kernel) rfl, am_mem 64 (by decide +kernel) rfl, by decide, by decide, by decide +kernel⟩
theorem v_WD_162 : am_isV "WheelDisc" 162 y_Disc_removeReader 1 := ⟨am_mem 480 (by decide +kernel) rfl, am_mem 481 (by decide +kernel) rfl, am_mem 482 (by decide +kernel) rfl, am_mem 64 (by decide +kernel) rfl, by decide, by decide, by decide +kernel⟩
theorem s_Disc_50 : am_isS "WheelDisc$Disc" 50 y_Math_floorMod 2 := ⟨Or.inl (am_mem 492 (by decide +kernel) rfl), am_mem 493 (by decide +kernel) rfl, am_mem 75 (by decide +kernel) rfl, by decide, by decide, by decide +kernel⟩
theorem v_WD_165 : am_isV "WheelDisc" 165 y_Disc_standRound 1 := ⟨am_mem 488 (by decide +kernel) rfl, am_mem 489 (by decide +kernel) rfl, am_mem 490 (by decide +kernel) rfl, am_mem 64 (by decide +kernel) rfl, by decide, by decide, by decide +kernel⟩
theorem f_WD_75 : am_isF "WheelDisc" 75 9 10 := ⟨_, rfl, by decide, am_mem 323 (by decide +kernel) rfl⟩
theorem lk_0_10 : am_link 0 10 = 32 := by decide +kernel
theorem ce_32 : am_cell 32 = (12, 8) := by decide +kernel
theorem v_Disc_60 : am_isV "WheelDisc$Disc" 60 y_Disc_setLight 3 := ⟨am_mem 503 (by decide +kernel) rfl, am_mem 441 (by decide +kernel) rfl, am_mem 442 (by decide +kernel) rfl, am_mem 64 (by decide +kernel) rfl, by decide, by decide, by decide +kernel⟩
theorem s_Disc_64 : am_isS "WheelDisc$Disc" 64 y_WD_stepRound 3 := ⟨Or.inr ⟨"WheelDisc", am_memN 504 (by decide +kernel) rfl⟩, am_mem 408 (by decide +kernel) rfl, am_mem 62 (by decide +kernel) rfl, by decide, by decide, by decide +kernel⟩
theorem v_Disc_56 : am_isV "WheelDisc$Disc" 56 y_Disc_layTracksAnew 3 := ⟨am_mem 499 (by decide +kernel) rfl, am_mem 501 (by decide +kernel) rfl, am_mem 6 (by decide +kernel) rfl, am_mem 64 (by decide +kernel) rfl, by decide, by decide, by decide +kernel⟩
theorem v_WD_168 : am_isV "WheelDisc" 168 y_Disc_turnBy 2 := ⟨am_mem 495 (by decide +kernel) rfl, am_mem 496 (by decide +kernel) rfl, am_mem 497 (by decide +kernel) rfl, am_mem 64 (by decide +kernel) rfl, by decide, by decide, by decide +kernel⟩
theorem v_WD_172 : am_isV "WheelDisc" 172 y_Disc_mirrorAll 1 := ⟨am_mem 509 (by decide +kernel) rfl, am_mem 510 (by decide +kernel) rfl, am_mem 511 (by decide +kernel) rfl, am_mem 64 (by decide +kernel) rfl, by decide, by decide, by decide +kernel⟩
theorem v_WD_176 : am_isV "WheelDisc" 176 y_Disc_swapReaders 2 := ⟨am_mem 517 (by decide +kernel) rfl, am_mem 518 (by decide +kernel) rfl, am_mem 519 (by decide +kernel) rfl, am_mem 64 (by decide +kernel) rfl, by decide, by decide, by decide +kernel⟩
theorem f_WD_179 : am_isF "WheelDisc" 179 3 2 := ⟨_, rfl, by decide, am_mem 151 (by decide +kernel) rfl⟩
theorem v_WD_180 : am_isV "WheelDisc" 180 y_Hist_takeBack 1 := ⟨am_mem 525 (by decide +kernel) rfl, am_mem 526 (by decide +kernel) rfl, am_mem 527 (by decide +kernel) rfl, am_mem 65 (by decide +kernel) rfl, by decide, by decide, by decide +kernel⟩
theorem f_View_29 : am_isF "WheelDisc$View" 29 7 4 := ⟨_, rfl, by decide, am_mem 185 (by decide +kernel) rfl⟩
theorem f_View_33 : am_isF "WheelDisc$View" 33 0 3 := ⟨_, rfl, by decide, am_mem 117 (by decide +kernel) rfl⟩
theorem f_View_22 : am_isF "WheelDisc$View" 22 7 2 := ⟨_, rfl, by decide, am_mem 180 (by decide +kernel) rfl⟩
theorem f_View_36 : am_isF "WheelDisc$View" 36 0 5 := ⟨_, rfl, by decide, am_mem 123 (by decide +kernel) rfl⟩
theorem f_View_26 : am_isF "WheelDisc$View" 26 7 3 := ⟨_, rfl, by decide, am_mem 183 (by decide +kernel) rfl⟩
theorem f_View_9 : am_isF "WheelDisc$View" 9 7 0 := ⟨_, rfl, by decide, am_mem 175 (by decide +kernel) rfl⟩
theorem lk_9_0 : am_link 9 0 = 10 := by decide +kernel
theorem v_Disc_68 : am_isV "WheelDisc$Disc" 68 y_Disc_isLight 2 := ⟨am_mem 545 (by decide +kernel) rfl, am_mem 458 (by decide +kernel) rfl, am_mem 459 (by decide +kernel) rfl, am_mem 64 (by decide +kernel) rfl, by decide, by decide, by decide +kernel⟩
theorem v_View_37 : am_isV "WheelDisc$View" 37 y_Disc_wordOf 1 := ⟨am_mem 541 (by decide +kernel) rfl, am_mem 542 (by decide +kernel) rfl, am_mem 543 (by decide +kernel) rfl, am_mem 64 (by decide +kernel) rfl, by decide, by decide, by decide +kernel⟩
theorem ce_10 : am_cell 10 = (11, 512) := by decide +kernel
theorem v_WD_318 : am_isV "WheelDisc" 318 y_View_look 1 := ⟨am_mem 537 (by decide +kernel) rfl, am_mem 538 (by decide +kernel) rfl, am_mem 539 (by decide +kernel) rfl, am_mem 66 (by decide +kernel) rfl, by decide, by decide, by decide +kernel⟩
theorem cn_9 : am_cn 9 = "WheelDisc$View" := by decide +kernel
theorem v_WD_187 : am_isV "WheelDisc" 187 y_WD_lookedAt 0 := ⟨am_mem 533 (by decide +kernel) rfl, am_mem 535 (by decide +kernel) rfl, am_mem 7 (by decide +kernel) rfl, am_mem 62 (by decide +kernel) rfl, by decide, by decide, by decide +kernel⟩
theorem v_View_41 : am_isV "WheelDisc$View" 41 y_View_allReaders 0 := ⟨am_mem 550 (by decide +kernel) rfl, am_mem 552 (by decide +kernel) rfl, am_mem 8 (by decide +kernel) rfl, am_mem 66 (by decide +kernel) rfl, by decide, by decide, by decide +kernel⟩
theorem f_View_18 : am_isF "WheelDisc$View" 18 7 1 := ⟨_, rfl, by decide, am_mem 179 (by decide +kernel) rfl⟩
theorem lk_9_1 : am_link 9 1 = 11 := by decide +kernel
theorem f_Marks_9 : am_isF "WheelDisc$Marks" 9 4 0 := ⟨_, rfl, by decide, am_mem 171 (by decide +kernel) rfl⟩
theorem kd_11 : am_kind 11 = 4 := by decide +kernel
theorem lk_11_0 : am_link 11 0 = 12 := by decide +kernel
theorem ce_12 : am_cell 12 = (12, 16) := by decide +kernel
theorem s_Marks_15 : am_isS "WheelDisc$Marks" 15 y_Arr_fillJ 2 := ⟨Or.inl (am_mem 562 (by decide +kernel) rfl), am_mem 362 (by decide +kernel) rfl, am_mem 73 (by decide +kernel) rfl, by decide, by decide, by decide +kernel⟩
theorem v_View_59 : am_isV "WheelDisc$View" 59 y_Marks_wipe 0 := ⟨am_mem 558 (by decide +kernel) rfl, am_mem 559 (by decide +kernel) rfl, am_mem 560 (by decide +kernel) rfl, am_mem 67 (by decide +kernel) rfl, by decide, by decide, by decide +kernel⟩
theorem cn_11 : am_cn 11 = "WheelDisc$Marks" := by decide +kernel
theorem s_Marks_21 : am_isS "WheelDisc$Marks" 21 y_WD_isSet 3 := ⟨Or.inr ⟨"WheelDisc", am_memN 567 (by decide +kernel) rfl⟩, am_mem 462 (by decide +kernel) rfl, am_mem 62 (by decide +kernel) rfl, by decide, by decide, by decide +kernel⟩
theorem v_View_62 : am_isV "WheelDisc$View" 62 y_Marks_has 1 := ⟨am_mem 563 (by decide +kernel) rfl, am_mem 564 (by decide +kernel) rfl, am_mem 565 (by decide +kernel) rfl, am_mem 67 (by decide +kernel) rfl, by decide, by decide, by decide +kernel⟩
theorem v_View_65 : am_isV "WheelDisc$View" 65 y_Marks_add 1 := ⟨am_mem 568 (by decide +kernel) rfl, am_mem 569 (by decide +kernel) rfl, am_mem 570 (by decide +kernel) rfl, am_mem 67 (by decide +kernel) rfl, by decide, by decide, by decide +kernel⟩
theorem v_View_45 : am_isV "WheelDisc$View" 45 y_View_allUnlike 1 := ⟨am_mem 554 (by decide +kernel) rfl, am_mem 556 (by decide +kernel) rfl, am_mem 9 (by decide +kernel) rfl, am_mem 66 (by decide +kernel) rfl, by decide, by decide, by decide +kernel⟩
theorem s_View_77 : am_isS "WheelDisc$View" 77 y_WD_stepRound 3 := ⟨Or.inr ⟨"WheelDisc", am_memN 580 (by decide +kernel) rfl⟩, am_mem 408 (by decide +kernel) rfl, am_mem 62 (by decide +kernel) rfl, by decide, by decide, by decide +kernel⟩
theorem v_View_69 : am_isV "WheelDisc$View" 69 y_View_unlikeBehind 1 := ⟨am_mem 576 (by decide +kernel) rfl, am_mem 578 (by decide +kernel) rfl, am_mem 11 (by decide +kernel) rfl, am_mem 66 (by decide +kernel) rfl, by decide, by decide, by decide +kernel⟩
theorem k_Int_265 : Cond.constant "java/lang/Integer" 265 (nI 1431655765) ∈ am_T := am_mem 584 (by decide +kernel) rfl
theorem k_Int_266 : Cond.constant "java/lang/Integer" 266 (nI 858993459) ∈ am_T := am_mem 585 (by decide +kernel) rfl
theorem k_Int_267 : Cond.constant "java/lang/Integer" 267 (nI 252645135) ∈ am_T := am_mem 586 (by decide +kernel) rfl
theorem s_View_72 : am_isS "WheelDisc$View" 72 y_Int_bitCount 1 := ⟨Or.inl (am_mem 581 (by decide +kernel) rfl), am_mem 582 (by decide +kernel) rfl, am_mem 76 (by decide +kernel) rfl, by decide, by decide, by decide +kernel⟩
theorem v_View_49 : am_isV "WheelDisc$View" 49 y_View_stepsAreSingle 0 := ⟨am_mem 572 (by decide +kernel) rfl, am_mem 574 (by decide +kernel) rfl, am_mem 10 (by decide +kernel) rfl, am_mem 66 (by decide +kernel) rfl, by decide, by decide, by decide +kernel⟩
theorem f_View_53 : am_isF "WheelDisc$View" 53 0 4 := ⟨_, rfl, by decide, am_mem 120 (by decide +kernel) rfl⟩
theorem v_View_56 : am_isV "WheelDisc$View" 56 y_Disc_placesFollowOneAnother 0 := ⟨am_mem 587 (by decide +kernel) rfl, am_mem 588 (by decide +kernel) rfl, am_mem 589 (by decide +kernel) rfl, am_mem 64 (by decide +kernel) rfl, by decide, by decide, by decide +kernel⟩
theorem v_WD_191 : am_isV "WheelDisc" 191 y_View_kindOf 1 := ⟨am_mem 546 (by decide +kernel) rfl, am_mem 547 (by decide +kernel) rfl, am_mem 548 (by decide +kernel) rfl, am_mem 66 (by decide +kernel) rfl, by decide, by decide, by decide +kernel⟩
theorem f_WD_195 : am_isF "WheelDisc" 195 1 5 := ⟨_, rfl, by decide, am_mem 275 (by decide +kernel) rfl⟩
theorem f_WD_64 : am_isF "WheelDisc" 64 9 8 := ⟨_, rfl, by decide, am_mem 321 (by decide +kernel) rfl⟩
theorem lk_0_8 : am_link 0 8 = 28 := by decide +kernel
theorem f_WD_196 : am_isF "WheelDisc" 196 8 1 := ⟨_, rfl, by decide, am_mem 305 (by decide +kernel) rfl⟩
theorem kd_28 : am_kind 28 = 8 := by decide +kernel
theorem f_WD_197 : am_isF "WheelDisc" 197 7 0 := ⟨_, rfl, by decide, am_mem 178 (by decide +kernel) rfl⟩
theorem f_WD_201 : am_isF "WheelDisc" 201 0 1 := ⟨_, rfl, by decide, am_mem 113 (by decide +kernel) rfl⟩
theorem f_WD_204 : am_isF "WheelDisc" 204 0 2 := ⟨_, rfl, by decide, am_mem 115 (by decide +kernel) rfl⟩
theorem v_View_81 : am_isV "WheelDisc$View" 81 y_View_changesBehind 2 := ⟨am_mem 603 (by decide +kernel) rfl, am_mem 605 (by decide +kernel) rfl, am_mem 12 (by decide +kernel) rfl, am_mem 66 (by decide +kernel) rfl, by decide, by decide, by decide +kernel⟩
theorem v_WD_207 : am_isV "WheelDisc" 207 y_View_changesOf 1 := ⟨am_mem 599 (by decide +kernel) rfl, am_mem 600 (by decide +kernel) rfl, am_mem 601 (by decide +kernel) rfl, am_mem 66 (by decide +kernel) rfl, by decide, by decide, by decide +kernel⟩
theorem s_View_85 : am_isS "WheelDisc$View" 85 y_Math_min 2 := ⟨Or.inl (am_mem 611 (by decide +kernel) rfl), am_mem 612 (by decide +kernel) rfl, am_mem 75 (by decide +kernel) rfl, by decide, by decide, by decide +kernel⟩
theorem v_WD_210 : am_isV "WheelDisc" 210 y_View_shortestStretchOf 1 := ⟨am_mem 607 (by decide +kernel) rfl, am_mem 608 (by decide +kernel) rfl, am_mem 609 (by decide +kernel) rfl, am_mem 66 (by decide +kernel) rfl, by decide, by decide, by decide +kernel⟩
theorem v_WD_213 : am_isV "WheelDisc" 213 y_View_standsWith 1 := ⟨am_mem 618 (by decide +kernel) rfl, am_mem 619 (by decide +kernel) rfl, am_mem 620 (by decide +kernel) rfl, am_mem 66 (by decide +kernel) rfl, by decide, by decide, by decide +kernel⟩
theorem v_WD_216 : am_isV "WheelDisc" 216 y_View_standWith 2 := ⟨am_mem 626 (by decide +kernel) rfl, am_mem 627 (by decide +kernel) rfl, am_mem 628 (by decide +kernel) rfl, am_mem 66 (by decide +kernel) rfl, by decide, by decide, by decide +kernel⟩
theorem v_WD_219 : am_isV "WheelDisc" 219 y_View_waysBehind 1 := ⟨am_mem 634 (by decide +kernel) rfl, am_mem 635 (by decide +kernel) rfl, am_mem 636 (by decide +kernel) rfl, am_mem 66 (by decide +kernel) rfl, by decide, by decide, by decide +kernel⟩
theorem v_WD_222 : am_isV "WheelDisc" 222 y_View_wayBehind 2 := ⟨am_mem 642 (by decide +kernel) rfl, am_mem 643 (by decide +kernel) rfl, am_mem 644 (by decide +kernel) rfl, am_mem 66 (by decide +kernel) rfl, by decide, by decide, by decide +kernel⟩
theorem v_View_91 : am_isV "WheelDisc$View" 91 y_View_twoAreMarkedApartBy 1 := ⟨am_mem 654 (by decide +kernel) rfl, am_mem 656 (by decide +kernel) rfl, am_mem 13 (by decide +kernel) rfl, am_mem 66 (by decide +kernel) rfl, by decide, by decide, by decide +kernel⟩
theorem v_WD_225 : am_isV "WheelDisc" 225 y_View_leastUnlike 0 := ⟨am_mem 650 (by decide +kernel) rfl, am_mem 651 (by decide +kernel) rfl, am_mem 652 (by decide +kernel) rfl, am_mem 66 (by decide +kernel) rfl, by decide, by decide, by decide +kernel⟩
theorem v_WD_228 : am_isV "WheelDisc" 228 y_View_sparedAlone 0 := ⟨am_mem 662 (by decide +kernel) rfl, am_mem 663 (by decide +kernel) rfl, am_mem 664 (by decide +kernel) rfl, am_mem 66 (by decide +kernel) rfl, by decide, by decide, by decide +kernel⟩
theorem v_WD_231 : am_isV "WheelDisc" 231 y_View_sparedTogether 0 := ⟨am_mem 670 (by decide +kernel) rfl, am_mem 671 (by decide +kernel) rfl, am_mem 672 (by decide +kernel) rfl, am_mem 66 (by decide +kernel) rfl, by decide, by decide, by decide +kernel⟩
theorem f_Form_29 : am_isF "WheelDisc$Form" 29 2 5 := ⟨_, rfl, by decide, am_mem 210 (by decide +kernel) rfl⟩
theorem f_Form_39 : am_isF "WheelDisc$Form" 39 7 2 := ⟨_, rfl, by decide, am_mem 181 (by decide +kernel) rfl⟩
theorem f_Form_22 : am_isF "WheelDisc$Form" 22 2 3 := ⟨_, rfl, by decide, am_mem 208 (by decide +kernel) rfl⟩
theorem f_Form_42 : am_isF "WheelDisc$Form" 42 7 3 := ⟨_, rfl, by decide, am_mem 184 (by decide +kernel) rfl⟩
theorem f_Form_26 : am_isF "WheelDisc$Form" 26 2 4 := ⟨_, rfl, by decide, am_mem 209 (by decide +kernel) rfl⟩
theorem f_Form_9 : am_isF "WheelDisc$Form" 9 2 0 := ⟨_, rfl, by decide, am_mem 204 (by decide +kernel) rfl⟩
theorem lk_13_0 : am_link 13 0 = 14 := by decide +kernel
theorem ce_14 : am_cell 14 = (11, 512) := by decide +kernel
theorem s_Form_43 : am_isS "WheelDisc$Form" 43 y_Arr_fillI 2 := ⟨Or.inl (am_mem 686 (by decide +kernel) rfl), am_mem 687 (by decide +kernel) rfl, am_mem 73 (by decide +kernel) rfl, by decide, by decide, by decide +kernel⟩
theorem f_Form_49 : am_isF "WheelDisc$Form" 49 7 0 := ⟨_, rfl, by decide, am_mem 176 (by decide +kernel) rfl⟩
theorem f_Form_15 : am_isF "WheelDisc$Form" 15 2 1 := ⟨_, rfl, by decide, am_mem 206 (by decide +kernel) rfl⟩
theorem lk_13_1 : am_link 13 1 = 15 := by decide +kernel
theorem ce_15 : am_cell 15 = (11, 10) := by decide +kernel
theorem f_Form_18 : am_isF "WheelDisc$Form" 18 2 2 := ⟨_, rfl, by decide, am_mem 207 (by decide +kernel) rfl⟩
theorem lk_13_2 : am_link 13 2 = 16 := by decide +kernel
theorem ce_16 : am_cell 16 = (13, 10) := by decide +kernel
theorem v_Form_59 : am_isV "WheelDisc$Form" 59 y_Form_beginOrder 0 := ⟨am_mem 697 (by decide +kernel) rfl, am_mem 699 (by decide +kernel) rfl, am_mem 17 (by decide +kernel) rfl, am_mem 68 (by decide +kernel) rfl, by decide, by decide, by decide +kernel⟩
theorem cn_13 : am_cn 13 = "WheelDisc$Form" := by decide +kernel
theorem s_Form_70 : am_isS "WheelDisc$Form" 70 y_WD_stepRound 3 := ⟨Or.inr ⟨"WheelDisc", am_memN 713 (by decide +kernel) rfl⟩, am_mem 408 (by decide +kernel) rfl, am_mem 62 (by decide +kernel) rfl, by decide, by decide, by decide +kernel⟩
theorem v_Form_74 : am_isV "WheelDisc$Form" 74 y_Form_bitOf 2 := ⟨am_mem 705 (by decide +kernel) rfl, am_mem 707 (by decide +kernel) rfl, am_mem 19 (by decide +kernel) rfl, am_mem 68 (by decide +kernel) rfl, by decide, by decide, by decide +kernel⟩
theorem v_Form_62 : am_isV "WheelDisc$Form" 62 y_Form_refineOrder 1 := ⟨am_mem 701 (by decide +kernel) rfl, am_mem 703 (by decide +kernel) rfl, am_mem 18 (by decide +kernel) rfl, am_mem 68 (by decide +kernel) rfl, by decide, by decide, by decide +kernel⟩
theorem v_Form_66 : am_isV "WheelDisc$Form" 66 y_Form_inOrder 1 := ⟨am_mem 709 (by decide +kernel) rfl, am_mem 711 (by decide +kernel) rfl, am_mem 20 (by decide +kernel) rfl, am_mem 68 (by decide +kernel) rfl, by decide, by decide, by decide +kernel⟩
theorem v_Form_55 : am_isV "WheelDisc$Form" 55 y_Form_isLeastAgain 3 := ⟨am_mem 693 (by decide +kernel) rfl, am_mem 695 (by decide +kernel) rfl, am_mem 16 (by decide +kernel) rfl, am_mem 68 (by decide +kernel) rfl, by decide, by decide, by decide +kernel⟩
theorem v_Form_52 : am_isV "WheelDisc$Form" 52 y_Form_tryAllStarts 2 := ⟨am_mem 689 (by decide +kernel) rfl, am_mem 691 (by decide +kernel) rfl, am_mem 15 (by decide +kernel) rfl, am_mem 68 (by decide +kernel) rfl, by decide, by decide, by decide +kernel⟩
theorem v_WD_321 : am_isV "WheelDisc" 321 y_Form_find 1 := ⟨am_mem 682 (by decide +kernel) rfl, am_mem 683 (by decide +kernel) rfl, am_mem 684 (by decide +kernel) rfl, am_mem 68 (by decide +kernel) rfl, by decide, by decide, by decide +kernel⟩
theorem v_WD_234 : am_isV "WheelDisc" 234 y_WD_formed 0 := ⟨am_mem 678 (by decide +kernel) rfl, am_mem 680 (by decide +kernel) rfl, am_mem 14 (by decide +kernel) rfl, am_mem 62 (by decide +kernel) rfl, by decide, by decide, by decide +kernel⟩
theorem f_WD_238 : am_isF "WheelDisc" 238 2 0 := ⟨_, rfl, by decide, am_mem 205 (by decide +kernel) rfl⟩
theorem f_WD_44 : am_isF "WheelDisc" 44 9 5 := ⟨_, rfl, by decide, am_mem 318 (by decide +kernel) rfl⟩
theorem lk_0_5 : am_link 0 5 = 17 := by decide +kernel
theorem kd_17 : am_kind 17 = 2 := by decide +kernel
theorem lk_17_0 : am_link 17 0 = 18 := by decide +kernel
theorem a_Form_33 : am_isA "WheelDisc$Form" 33 := ⟨am_mem 722 (by decide +kernel) rfl, am_mem 406 (by decide +kernel) rfl, am_mem 405 (by decide +kernel) rfl, am_mem 74 (by decide +kernel) rfl⟩
theorem ce_18 : am_cell 18 = (11, 512) := by decide +kernel
theorem v_WD_241 : am_isV "WheelDisc" 241 y_Form_become 1 := ⟨am_mem 718 (by decide +kernel) rfl, am_mem 719 (by decide +kernel) rfl, am_mem 720 (by decide +kernel) rfl, am_mem 68 (by decide +kernel) rfl, by decide, by decide, by decide +kernel⟩
theorem cn_17 : am_cn 17 = "WheelDisc$Form" := by decide +kernel
theorem f_WD_79 : am_isF "WheelDisc" 79 9 11 := ⟨_, rfl, by decide, am_mem 324 (by decide +kernel) rfl⟩
theorem v_WD_244 : am_isV "WheelDisc" 244 y_Form_isLike 1 := ⟨am_mem 727 (by decide +kernel) rfl, am_mem 728 (by decide +kernel) rfl, am_mem 729 (by decide +kernel) rfl, am_mem 68 (by decide +kernel) rfl, by decide, by decide, by decide +kernel⟩
theorem v_Maker_9 : am_isV "WheelDisc$Maker" 9 y_Disc_empty 1 := ⟨am_mem 738 (by decide +kernel) rfl, am_mem 419 (by decide +kernel) rfl, am_mem 420 (by decide +kernel) rfl, am_mem 64 (by decide +kernel) rfl, by decide, by decide, by decide +kernel⟩
theorem v_Maker_15 : am_isV "WheelDisc$Maker" 15 y_Disc_addDarkTrack 0 := ⟨am_mem 739 (by decide +kernel) rfl, am_mem 432 (by decide +kernel) rfl, am_mem 433 (by decide +kernel) rfl, am_mem 64 (by decide +kernel) rfl, by decide, by decide, by decide +kernel⟩
theorem v_Maker_19 : am_isV "WheelDisc$Maker" 19 y_Disc_addReader 2 := ⟨am_mem 740 (by decide +kernel) rfl, am_mem 469 (by decide +kernel) rfl, am_mem 470 (by decide +kernel) rfl, am_mem 64 (by decide +kernel) rfl, by decide, by decide, by decide +kernel⟩
theorem v_Maker_23 : am_isV "WheelDisc$Maker" 23 y_Disc_setLight 3 := ⟨am_mem 741 (by decide +kernel) rfl, am_mem 441 (by decide +kernel) rfl, am_mem 442 (by decide +kernel) rfl, am_mem 64 (by decide +kernel) rfl, by decide, by decide, by decide +kernel⟩
theorem s_WD_248 : am_isS "WheelDisc" 248 y_Maker_makeGray 3 := ⟨Or.inl (am_mem 735 (by decide +kernel) rfl), am_mem 736 (by decide +kernel) rfl, am_mem 77 (by decide +kernel) rfl, by decide, by decide, by decide +kernel⟩
theorem f_WD_71 : am_isF "WheelDisc" 71 9 9 := ⟨_, rfl, by decide, am_mem 322 (by decide +kernel) rfl⟩
theorem lk_0_9 : am_link 0 9 = 30 := by decide +kernel
theorem kd_30 : am_kind 30 = 4 := by decide +kernel
theorem lk_30_0 : am_link 30 0 = 31 := by decide +kernel
theorem ce_31 : am_cell 31 = (12, 16) := by decide +kernel
theorem v_Maker_27 : am_isV "WheelDisc$Maker" 27 y_Marks_wipe 0 := ⟨am_mem 749 (by decide +kernel) rfl, am_mem 559 (by decide +kernel) rfl, am_mem 560 (by decide +kernel) rfl, am_mem 67 (by decide +kernel) rfl, by decide, by decide, by decide +kernel⟩
theorem cn_30 : am_cn 30 = "WheelDisc$Marks" := by decide +kernel
theorem v_Maker_32 : am_isV "WheelDisc$Maker" 32 y_Marks_has 1 := ⟨am_mem 750 (by decide +kernel) rfl, am_mem 564 (by decide +kernel) rfl, am_mem 565 (by decide +kernel) rfl, am_mem 67 (by decide +kernel) rfl, by decide, by decide, by decide +kernel⟩
theorem v_Maker_36 : am_isV "WheelDisc$Maker" 36 y_Marks_add 1 := ⟨am_mem 751 (by decide +kernel) rfl, am_mem 569 (by decide +kernel) rfl, am_mem 570 (by decide +kernel) rfl, am_mem 67 (by decide +kernel) rfl, by decide, by decide, by decide +kernel⟩
theorem s_WD_254 : am_isS "WheelDisc" 254 y_Maker_makeChain 4 := ⟨Or.inl (am_mem 746 (by decide +kernel) rfl), am_mem 747 (by decide +kernel) rfl, am_mem 77 (by decide +kernel) rfl, by decide, by decide, by decide +kernel⟩
theorem s_WD_258 : am_isS "WheelDisc" 258 y_Search_fits 2 := ⟨Or.inl (am_mem 756 (by decide +kernel) rfl), am_mem 757 (by decide +kernel) rfl, am_mem 69 (by decide +kernel) rfl, by decide, by decide, by decide +kernel⟩
theorem k_Search_40 : Cond.constant "WheelDisc$Search" 40 (nI 2000000) ∈ am_T := am_mem 762 (by decide +kernel) rfl
theorem s_WD_261 : am_isS "WheelDisc" 261 y_Search_isStepCount 1 := ⟨Or.inl (am_mem 759 (by decide +kernel) rfl), am_mem 760 (by decide +kernel) rfl, am_mem 69 (by decide +kernel) rfl, by decide, by decide, by decide +kernel⟩
theorem f_WD_50 : am_isF "WheelDisc" 50 9 6 := ⟨_, rfl, by decide, am_mem 319 (by decide +kernel) rfl⟩
theorem lk_0_6 : am_link 0 6 = 21 := by decide +kernel
theorem k_Search_41 : Cond.constant "WheelDisc$Search" 41 (nI 4000000) ∈ am_T := am_mem 767 (by decide +kernel) rfl
theorem f_Search_33 : am_isF "WheelDisc$Search" 33 6 7 := ⟨_, rfl, by decide, am_mem 239 (by decide +kernel) rfl⟩
theorem kd_21 : am_kind 21 = 6 := by decide +kernel
theorem v_WD_264 : am_isV "WheelDisc" 264 y_Search_affords 1 := ⟨am_mem 763 (by decide +kernel) rfl, am_mem 764 (by decide +kernel) rfl, am_mem 765 (by decide +kernel) rfl, am_mem 69 (by decide +kernel) rfl, by decide, by decide, by decide +kernel⟩
theorem cn_21 : am_cn 21 = "WheelDisc$Search" := by decide +kernel
theorem s_Search_42 : am_isS "WheelDisc$Search" 42 y_Search_fits 2 := ⟨Or.inl (am_mem 772 (by decide +kernel) rfl), am_mem 757 (by decide +kernel) rfl, am_mem 69 (by decide +kernel) rfl, by decide, by decide, by decide +kernel⟩
theorem f_Search_9 : am_isF "WheelDisc$Search" 9 6 0 := ⟨_, rfl, by decide, am_mem 232 (by decide +kernel) rfl⟩
theorem f_Search_15 : am_isF "WheelDisc$Search" 15 6 1 := ⟨_, rfl, by decide, am_mem 233 (by decide +kernel) rfl⟩
theorem f_Search_18 : am_isF "WheelDisc$Search" 18 6 2 := ⟨_, rfl, by decide, am_mem 234 (by decide +kernel) rfl⟩
theorem f_Search_21 : am_isF "WheelDisc$Search" 21 6 3 := ⟨_, rfl, by decide, am_mem 235 (by decide +kernel) rfl⟩
theorem f_Search_24 : am_isF "WheelDisc$Search" 24 6 4 := ⟨_, rfl, by decide, am_mem 236 (by decide +kernel) rfl⟩
theorem f_Search_27 : am_isF "WheelDisc$Search" 27 6 5 := ⟨_, rfl, by decide, am_mem 237 (by decide +kernel) rfl⟩
theorem f_Search_36 : am_isF "WheelDisc$Search" 36 6 8 := ⟨_, rfl, by decide, am_mem 240 (by decide +kernel) rfl⟩
theorem v_WD_267 : am_isV "WheelDisc" 267 y_Search_begin 2 := ⟨am_mem 768 (by decide +kernel) rfl, am_mem 769 (by decide +kernel) rfl, am_mem 770 (by decide +kernel) rfl, am_mem 69 (by decide +kernel) rfl, by decide, by decide, by decide +kernel⟩
theorem s_Search_46 : am_isS "WheelDisc$Search" 46 y_Math_min 2 := ⟨Or.inl (am_mem 781 (by decide +kernel) rfl), am_mem 612 (by decide +kernel) rfl, am_mem 75 (by decide +kernel) rfl, by decide, by decide, by decide +kernel⟩
theorem v_Search_60 : am_isV "WheelDisc$Search" 60 y_Search_lightsAtEnd 1 := ⟨am_mem 786 (by decide +kernel) rfl, am_mem 788 (by decide +kernel) rfl, am_mem 23 (by decide +kernel) rfl, am_mem 69 (by decide +kernel) rfl, by decide, by decide, by decide +kernel⟩
theorem v_Search_63 : am_isV "WheelDisc$Search" 63 y_Search_repeated 2 := ⟨am_mem 790 (by decide +kernel) rfl, am_mem 792 (by decide +kernel) rfl, am_mem 24 (by decide +kernel) rfl, am_mem 69 (by decide +kernel) rfl, by decide, by decide, by decide +kernel⟩
theorem v_Search_52 : am_isV "WheelDisc$Search" 52 y_Search_leastTurnedBehind 1 := ⟨am_mem 782 (by decide +kernel) rfl, am_mem 784 (by decide +kernel) rfl, am_mem 22 (by decide +kernel) rfl, am_mem 69 (by decide +kernel) rfl, by decide, by decide, by decide +kernel⟩
theorem v_Search_74 : am_isV "WheelDisc$Search" 74 y_Search_lightOf 2 := ⟨am_mem 802 (by decide +kernel) rfl, am_mem 804 (by decide +kernel) rfl, am_mem 27 (by decide +kernel) rfl, am_mem 69 (by decide +kernel) rfl, by decide, by decide, by decide +kernel⟩
theorem v_Search_66 : am_isV "WheelDisc$Search" 66 y_Search_wordOf 2 := ⟨am_mem 798 (by decide +kernel) rfl, am_mem 800 (by decide +kernel) rfl, am_mem 26 (by decide +kernel) rfl, am_mem 69 (by decide +kernel) rfl, by decide, by decide, by decide +kernel⟩
theorem s_Search_69 : am_isS "WheelDisc$Search" 69 y_Int_bitCount 1 := ⟨Or.inl (am_mem 806 (by decide +kernel) rfl), am_mem 582 (by decide +kernel) rfl, am_mem 76 (by decide +kernel) rfl, by decide, by decide, by decide +kernel⟩
theorem v_Search_56 : am_isV "WheelDisc$Search" 56 y_Search_isSingle 1 := ⟨am_mem 794 (by decide +kernel) rfl, am_mem 796 (by decide +kernel) rfl, am_mem 25 (by decide +kernel) rfl, am_mem 69 (by decide +kernel) rfl, by decide, by decide, by decide +kernel⟩
theorem f_Search_30 : am_isF "WheelDisc$Search" 30 6 6 := ⟨_, rfl, by decide, am_mem 238 (by decide +kernel) rfl⟩
theorem v_WD_328 : am_isV "WheelDisc" 328 y_Search_advance 1 := ⟨am_mem 777 (by decide +kernel) rfl, am_mem 778 (by decide +kernel) rfl, am_mem 779 (by decide +kernel) rfl, am_mem 69 (by decide +kernel) rfl, by decide, by decide, by decide +kernel⟩
theorem v_Search_77 : am_isV "WheelDisc$Search" 77 y_Disc_empty 1 := ⟨am_mem 811 (by decide +kernel) rfl, am_mem 419 (by decide +kernel) rfl, am_mem 420 (by decide +kernel) rfl, am_mem 64 (by decide +kernel) rfl, by decide, by decide, by decide +kernel⟩
theorem v_Search_83 : am_isV "WheelDisc$Search" 83 y_Disc_addDarkTrack 0 := ⟨am_mem 812 (by decide +kernel) rfl, am_mem 432 (by decide +kernel) rfl, am_mem 433 (by decide +kernel) rfl, am_mem 64 (by decide +kernel) rfl, by decide, by decide, by decide +kernel⟩
theorem v_Search_87 : am_isV "WheelDisc$Search" 87 y_Disc_setLight 3 := ⟨am_mem 813 (by decide +kernel) rfl, am_mem 441 (by decide +kernel) rfl, am_mem 442 (by decide +kernel) rfl, am_mem 64 (by decide +kernel) rfl, by decide, by decide, by decide +kernel⟩
theorem v_Search_91 : am_isV "WheelDisc$Search" 91 y_Disc_addReader 2 := ⟨am_mem 814 (by decide +kernel) rfl, am_mem 469 (by decide +kernel) rfl, am_mem 470 (by decide +kernel) rfl, am_mem 64 (by decide +kernel) rfl, by decide, by decide, by decide +kernel⟩
theorem v_WD_331 : am_isV "WheelDisc" 331 y_Search_layFound 1 := ⟨am_mem 807 (by decide +kernel) rfl, am_mem 808 (by decide +kernel) rfl, am_mem 809 (by decide +kernel) rfl, am_mem 69 (by decide +kernel) rfl, by decide, by decide, by decide +kernel⟩
theorem v_WD_270 : am_isV "WheelDisc" 270 y_WD_searchOn 1 := ⟨am_mem 773 (by decide +kernel) rfl, am_mem 775 (by decide +kernel) rfl, am_mem 21 (by decide +kernel) rfl, am_mem 62 (by decide +kernel) rfl, by decide, by decide, by decide +kernel⟩
theorem f_WD_273 : am_isF "WheelDisc" 273 6 8 := ⟨_, rfl, by decide, am_mem 241 (by decide +kernel) rfl⟩
theorem f_Drive_11 : am_isF "WheelDisc$Drive" 11 1 0 := ⟨_, rfl, by decide, am_mem 267 (by decide +kernel) rfl⟩
theorem lk_22_0 : am_link 22 0 = 23 := by decide +kernel
theorem f_Drive_28 : am_isF "WheelDisc$Drive" 28 1 5 := ⟨_, rfl, by decide, am_mem 274 (by decide +kernel) rfl⟩
theorem ce_23 : am_cell 23 = (11, 2000) := by decide +kernel
theorem v_WD_276 : am_isV "WheelDisc" 276 y_Drive_add 1 := ⟨am_mem 823 (by decide +kernel) rfl, am_mem 824 (by decide +kernel) rfl, am_mem 825 (by decide +kernel) rfl, am_mem 70 (by decide +kernel) rfl, by decide, by decide, by decide +kernel⟩
theorem v_Drive_38 : am_isV "WheelDisc$Drive" 38 y_Drive_unfollow 0 := ⟨am_mem 835 (by decide +kernel) rfl, am_mem 415 (by decide +kernel) rfl, am_mem 416 (by decide +kernel) rfl, am_mem 70 (by decide +kernel) rfl, by decide, by decide, by decide +kernel⟩
theorem v_WD_279 : am_isV "WheelDisc" 279 y_Drive_empty 0 := ⟨am_mem 831 (by decide +kernel) rfl, am_mem 832 (by decide +kernel) rfl, am_mem 833 (by decide +kernel) rfl, am_mem 70 (by decide +kernel) rfl, by decide, by decide, by decide +kernel⟩
theorem f_Drive_45 : am_isF "WheelDisc$Drive" 45 7 2 := ⟨_, rfl, by decide, am_mem 182 (by decide +kernel) rfl⟩
theorem f_Drive_21 : am_isF "WheelDisc$Drive" 21 1 3 := ⟨_, rfl, by decide, am_mem 272 (by decide +kernel) rfl⟩
theorem lk_22_3 : am_link 22 3 = 26 := by decide +kernel
theorem f_Drive_25 : am_isF "WheelDisc$Drive" 25 1 4 := ⟨_, rfl, by decide, am_mem 273 (by decide +kernel) rfl⟩
theorem lk_22_4 : am_link 22 4 = 27 := by decide +kernel
theorem ce_27 : am_cell 27 = (13, 512) := by decide +kernel
theorem ce_26 : am_cell 26 = (13, 512) := by decide +kernel
theorem v_Drive_55 : am_isV "WheelDisc$Drive" 55 y_Drive_takeNext 1 := ⟨am_mem 857 (by decide +kernel) rfl, am_mem 859 (by decide +kernel) rfl, am_mem 31 (by decide +kernel) rfl, am_mem 70 (by decide +kernel) rfl, by decide, by decide, by decide +kernel⟩
theorem f_Drive_15 : am_isF "WheelDisc$Drive" 15 1 1 := ⟨_, rfl, by decide, am_mem 268 (by decide +kernel) rfl⟩
theorem lk_22_1 : am_link 22 1 = 24 := by decide +kernel
theorem ce_24 : am_cell 24 = (11, 2000) := by decide +kernel
theorem f_Drive_18 : am_isF "WheelDisc$Drive" 18 1 2 := ⟨_, rfl, by decide, am_mem 270 (by decide +kernel) rfl⟩
theorem lk_22_2 : am_link 22 2 = 25 := by decide +kernel
theorem ce_25 : am_cell 25 = (11, 2000) := by decide +kernel
theorem f_Drive_50 : am_isF "WheelDisc$Drive" 50 7 0 := ⟨_, rfl, by decide, am_mem 177 (by decide +kernel) rfl⟩
theorem s_Drive_59 : am_isS "WheelDisc$Drive" 59 y_WD_stepRound 3 := ⟨Or.inr ⟨"WheelDisc", am_memN 856 (by decide +kernel) rfl⟩, am_mem 408 (by decide +kernel) rfl, am_mem 62 (by decide +kernel) rfl, by decide, by decide, by decide +kernel⟩
theorem v_Drive_51 : am_isV "WheelDisc$Drive" 51 y_Drive_isNearReached 2 := ⟨am_mem 852 (by decide +kernel) rfl, am_mem 854 (by decide +kernel) rfl, am_mem 30 (by decide +kernel) rfl, am_mem 70 (by decide +kernel) rfl, by decide, by decide, by decide +kernel⟩
theorem v_Drive_41 : am_isV "WheelDisc$Drive" 41 y_Drive_followWord 2 := ⟨am_mem 848 (by decide +kernel) rfl, am_mem 850 (by decide +kernel) rfl, am_mem 29 (by decide +kernel) rfl, am_mem 70 (by decide +kernel) rfl, by decide, by decide, by decide +kernel⟩
theorem v_WD_325 : am_isV "WheelDisc" 325 y_Drive_follow 1 := ⟨am_mem 844 (by decide +kernel) rfl, am_mem 845 (by decide +kernel) rfl, am_mem 846 (by decide +kernel) rfl, am_mem 70 (by decide +kernel) rfl, by decide, by decide, by decide +kernel⟩
theorem v_WD_281 : am_isV "WheelDisc" 281 y_WD_followedDrive 0 := ⟨am_mem 840 (by decide +kernel) rfl, am_mem 842 (by decide +kernel) rfl, am_mem 28 (by decide +kernel) rfl, am_mem 62 (by decide +kernel) rfl, by decide, by decide, by decide +kernel⟩
theorem f_WD_285 : am_isF "WheelDisc" 285 1 7 := ⟨_, rfl, by decide, am_mem 278 (by decide +kernel) rfl⟩
theorem v_WD_288 : am_isV "WheelDisc" 288 y_Drive_has 1 := ⟨am_mem 865 (by decide +kernel) rfl, am_mem 866 (by decide +kernel) rfl, am_mem 867 (by decide +kernel) rfl, am_mem 70 (by decide +kernel) rfl, by decide, by decide, by decide +kernel⟩
theorem f_WD_291 : am_isF "WheelDisc" 291 1 1 := ⟨_, rfl, by decide, am_mem 269 (by decide +kernel) rfl⟩
theorem f_WD_294 : am_isF "WheelDisc" 294 1 2 := ⟨_, rfl, by decide, am_mem 271 (by decide +kernel) rfl⟩
theorem s_Drive_63 : am_isS "WheelDisc$Drive" 63 y_Int_bitCount 1 := ⟨Or.inl (am_mem 881 (by decide +kernel) rfl), am_mem 582 (by decide +kernel) rfl, am_mem 76 (by decide +kernel) rfl, by decide, by decide, by decide +kernel⟩
theorem s_Drive_72 : am_isS "WheelDisc$Drive" 72 y_Math_abs 1 := ⟨Or.inl (am_mem 885 (by decide +kernel) rfl), am_mem 886 (by decide +kernel) rfl, am_mem 75 (by decide +kernel) rfl, by decide, by decide, by decide +kernel⟩
theorem s_Drive_77 : am_isS "WheelDisc$Drive" 77 y_Math_min 2 := ⟨Or.inl (am_mem 888 (by decide +kernel) rfl), am_mem 612 (by decide +kernel) rfl, am_mem 75 (by decide +kernel) rfl, by decide, by decide, by decide +kernel⟩
theorem s_Drive_69 : am_isS "WheelDisc$Drive" 69 y_Drive_wayRound 3 := ⟨Or.inl (am_mem 882 (by decide +kernel) rfl), am_mem 883 (by decide +kernel) rfl, am_mem 70 (by decide +kernel) rfl, by decide, by decide, by decide +kernel⟩
theorem v_WD_297 : am_isV "WheelDisc" 297 y_Drive_mendedStand 1 := ⟨am_mem 877 (by decide +kernel) rfl, am_mem 878 (by decide +kernel) rfl, am_mem 879 (by decide +kernel) rfl, am_mem 70 (by decide +kernel) rfl, by decide, by decide, by decide +kernel⟩
theorem f_WL_11 : am_isF "WheelDisc$WordList" 11 8 0 := ⟨_, rfl, by decide, am_mem 302 (by decide +kernel) rfl⟩
theorem lk_28_0 : am_link 28 0 = 29 := by decide +kernel
theorem f_WL_15 : am_isF "WheelDisc$WordList" 15 8 1 := ⟨_, rfl, by decide, am_mem 304 (by decide +kernel) rfl⟩
theorem ce_29 : am_cell 29 = (11, 512) := by decide +kernel
theorem v_WD_301 : am_isV "WheelDisc" 301 y_WL_add 1 := ⟨am_mem 893 (by decide +kernel) rfl, am_mem 894 (by decide +kernel) rfl, am_mem 895 (by decide +kernel) rfl, am_mem 71 (by decide +kernel) rfl, by decide, by decide, by decide +kernel⟩
theorem cn_28 : am_cn 28 = "WheelDisc$WordList" := by decide +kernel
theorem v_WD_302 : am_isV "WheelDisc" 302 y_WL_has 1 := ⟨am_mem 901 (by decide +kernel) rfl, am_mem 902 (by decide +kernel) rfl, am_mem 903 (by decide +kernel) rfl, am_mem 71 (by decide +kernel) rfl, by decide, by decide, by decide +kernel⟩
theorem f_WD_303 : am_isF "WheelDisc" 303 8 0 := ⟨_, rfl, by decide, am_mem 303 (by decide +kernel) rfl⟩
theorem v_WL_19 : am_isV "WheelDisc$WordList" 19 y_WL_isLikeOneAhead 1 := ⟨am_mem 913 (by decide +kernel) rfl, am_mem 915 (by decide +kernel) rfl, am_mem 32 (by decide +kernel) rfl, am_mem 71 (by decide +kernel) rfl, by decide, by decide, by decide +kernel⟩
theorem s_WL_26 : am_isS "WheelDisc$WordList" 26 y_WD_stepRound 3 := ⟨Or.inr ⟨"WheelDisc", am_memN 921 (by decide +kernel) rfl⟩, am_mem 408 (by decide +kernel) rfl, am_mem 62 (by decide +kernel) rfl, by decide, by decide, by decide +kernel⟩
theorem s_WL_30 : am_isS "WheelDisc$WordList" 30 y_Int_bitCount 1 := ⟨Or.inl (am_mem 922 (by decide +kernel) rfl), am_mem 582 (by decide +kernel) rfl, am_mem 76 (by decide +kernel) rfl, by decide, by decide, by decide +kernel⟩
theorem v_WL_23 : am_isV "WheelDisc$WordList" 23 y_WL_isSingleStep 1 := ⟨am_mem 917 (by decide +kernel) rfl, am_mem 919 (by decide +kernel) rfl, am_mem 33 (by decide +kernel) rfl, am_mem 71 (by decide +kernel) rfl, by decide, by decide, by decide +kernel⟩
theorem v_WD_304 : am_isV "WheelDisc" 304 y_WL_firstWrong 1 := ⟨am_mem 909 (by decide +kernel) rfl, am_mem 910 (by decide +kernel) rfl, am_mem 911 (by decide +kernel) rfl, am_mem 71 (by decide +kernel) rfl, by decide, by decide, by decide +kernel⟩
theorem f_Mod_62 : am_isF "WheelDiscModel" 62 10 18 := ⟨_, rfl, by decide, am_mem 956 (by decide +kernel) rfl⟩
theorem kd_153 : am_kind 153 = 10 := by decide +kernel
theorem v_Mod_75 : am_isV "WheelDiscModel" 75 y_Mod_no 1 := ⟨am_mem 1036 (by decide +kernel) rfl, am_mem 1038 (by decide +kernel) rfl, am_mem 34 (by decide +kernel) rfl, am_mem 72 (by decide +kernel) rfl, by decide, by decide, by decide +kernel⟩
theorem cn_153 : am_cn 153 = "WheelDiscModel" := by decide +kernel
theorem f_Mod_24 : am_isF "WheelDiscModel" 24 10 7 := ⟨_, rfl, by decide, am_mem 945 (by decide +kernel) rfl⟩
theorem f_Mod_79 : am_isF "WheelDiscModel" 79 10 8 := ⟨_, rfl, by decide, am_mem 946 (by decide +kernel) rfl⟩
theorem f_Mod_28 : am_isF "WheelDiscModel" 28 10 9 := ⟨_, rfl, by decide, am_mem 947 (by decide +kernel) rfl⟩
theorem lk_153_9 : am_link 153 9 = 158 := by decide +kernel
theorem ce_158 : am_cell 158 = (12, 64) := by decide +kernel
theorem f_Mod_65 : am_isF "WheelDiscModel" 65 10 4 := ⟨_, rfl, by decide, am_mem 942 (by decide +kernel) rfl⟩
theorem f_Mod_68 : am_isF "WheelDiscModel" 68 10 5 := ⟨_, rfl, by decide, am_mem 943 (by decide +kernel) rfl⟩
theorem f_Mod_9 : am_isF "WheelDiscModel" 9 10 0 := ⟨_, rfl, by decide, am_mem 938 (by decide +kernel) rfl⟩
theorem lk_153_0 : am_link 153 0 = 154 := by decide +kernel
theorem ce_154 : am_cell 154 = (11, 96) := by decide +kernel
theorem f_Mod_13 : am_isF "WheelDiscModel" 13 10 1 := ⟨_, rfl, by decide, am_mem 939 (by decide +kernel) rfl⟩
theorem lk_153_1 : am_link 153 1 = 155 := by decide +kernel
theorem ce_155 : am_cell 155 = (11, 320) := by decide +kernel
theorem f_Mod_16 : am_isF "WheelDiscModel" 16 10 2 := ⟨_, rfl, by decide, am_mem 940 (by decide +kernel) rfl⟩
theorem lk_153_2 : am_link 153 2 = 156 := by decide +kernel
theorem ce_156 : am_cell 156 = (11, 320) := by decide +kernel
theorem f_Mod_20 : am_isF "WheelDiscModel" 20 10 3 := ⟨_, rfl, by decide, am_mem 941 (by decide +kernel) rfl⟩
theorem lk_153_3 : am_link 153 3 = 157 := by decide +kernel
theorem ce_157 : am_cell 157 = (13, 163840) := by decide +kernel
theorem v_Mod_71 : am_isV "WheelDiscModel" 71 y_Mod_copy 2 := ⟨am_mem 1052 (by decide +kernel) rfl, am_mem 1054 (by decide +kernel) rfl, am_mem 36 (by decide +kernel) rfl, am_mem 72 (by decide +kernel) rfl, by decide, by decide, by decide +kernel⟩
theorem v_Mod_82 : am_isV "WheelDiscModel" 82 y_Mod_change 0 := ⟨am_mem 1048 (by decide +kernel) rfl, am_mem 1050 (by decide +kernel) rfl, am_mem 35 (by decide +kernel) rfl, am_mem 72 (by decide +kernel) rfl, by decide, by decide, by decide +kernel⟩
theorem v_Mod_85 : am_isV "WheelDiscModel" 85 y_Mod_begin 1 := ⟨am_mem 1056 (by decide +kernel) rfl, am_mem 1058 (by decide +kernel) rfl, am_mem 37 (by decide +kernel) rfl, am_mem 72 (by decide +kernel) rfl, by decide, by decide, by decide +kernel⟩
theorem v_Mod_89 : am_isV "WheelDiscModel" 89 y_Mod_wide 0 := ⟨am_mem 1064 (by decide +kernel) rfl, am_mem 1066 (by decide +kernel) rfl, am_mem 38 (by decide +kernel) rfl, am_mem 72 (by decide +kernel) rfl, by decide, by decide, by decide +kernel⟩
theorem v_Mod_93 : am_isV "WheelDiscModel" 93 y_Mod_n 0 := ⟨am_mem 1068 (by decide +kernel) rfl, am_mem 1070 (by decide +kernel) rfl, am_mem 39 (by decide +kernel) rfl, am_mem 72 (by decide +kernel) rfl, by decide, by decide, by decide +kernel⟩
theorem v_Mod_96 : am_isV "WheelDiscModel" 96 y_Mod_readers 0 := ⟨am_mem 1080 (by decide +kernel) rfl, am_mem 1082 (by decide +kernel) rfl, am_mem 40 (by decide +kernel) rfl, am_mem 72 (by decide +kernel) rfl, by decide, by decide, by decide +kernel⟩
theorem f_Mod_50 : am_isF "WheelDiscModel" 50 10 23 := ⟨_, rfl, by decide, am_mem 961 (by decide +kernel) rfl⟩
theorem lk_153_23 : am_link 153 23 = 165 := by decide +kernel
theorem ce_165 : am_cell 165 = (13, 512) := by decide +kernel
theorem v_Mod_99 : am_isV "WheelDiscModel" 99 y_Mod_turnBy 1 := ⟨am_mem 1092 (by decide +kernel) rfl, am_mem 1094 (by decide +kernel) rfl, am_mem 41 (by decide +kernel) rfl, am_mem 72 (by decide +kernel) rfl, by decide, by decide, by decide +kernel⟩
theorem f_Mod_38 : am_isF "WheelDiscModel" 38 10 19 := ⟨_, rfl, by decide, am_mem 957 (by decide +kernel) rfl⟩
theorem lk_153_19 : am_link 153 19 = 161 := by decide +kernel
theorem v_Mod_102 : am_isV "WheelDiscModel" 102 y_Mod_sees 2 := ⟨am_mem 1124 (by decide +kernel) rfl, am_mem 1126 (by decide +kernel) rfl, am_mem 45 (by decide +kernel) rfl, am_mem 72 (by decide +kernel) rfl, by decide, by decide, by decide +kernel⟩
theorem v_Mod_106 : am_isV "WheelDiscModel" 106 y_Mod_wordAt 1 := ⟨am_mem 1120 (by decide +kernel) rfl, am_mem 1122 (by decide +kernel) rfl, am_mem 44 (by decide +kernel) rfl, am_mem 72 (by decide +kernel) rfl, by decide, by decide, by decide +kernel⟩
theorem ce_161 : am_cell 161 = (11, 512) := by decide +kernel
theorem v_Mod_109 : am_isV "WheelDiscModel" 109 y_Mod_read 0 := ⟨am_mem 1116 (by decide +kernel) rfl, am_mem 1118 (by decide +kernel) rfl, am_mem 43 (by decide +kernel) rfl, am_mem 72 (by decide +kernel) rfl, by decide, by decide, by decide +kernel⟩
theorem v_Mod_112 : am_isV "WheelDiscModel" 112 y_Mod_all 0 := ⟨am_mem 1128 (by decide +kernel) rfl, am_mem 1130 (by decide +kernel) rfl, am_mem 46 (by decide +kernel) rfl, am_mem 72 (by decide +kernel) rfl, by decide, by decide, by decide +kernel⟩
theorem v_Mod_115 : am_isV "WheelDiscModel" 115 y_Mod_isTrue 1 := ⟨am_mem 1132 (by decide +kernel) rfl, am_mem 1134 (by decide +kernel) rfl, am_mem 47 (by decide +kernel) rfl, am_mem 72 (by decide +kernel) rfl, by decide, by decide, by decide +kernel⟩
theorem s_Mod_119 : am_isS "WheelDiscModel" 119 y_Int_bitCount 1 := ⟨Or.inl (am_mem 1136 (by decide +kernel) rfl), am_mem 582 (by decide +kernel) rfl, am_mem 76 (by decide +kernel) rfl, by decide, by decide, by decide +kernel⟩
theorem v_Mod_124 : am_isV "WheelDiscModel" 124 y_Mod_kind 0 := ⟨am_mem 1112 (by decide +kernel) rfl, am_mem 1114 (by decide +kernel) rfl, am_mem 42 (by decide +kernel) rfl, am_mem 72 (by decide +kernel) rfl, by decide, by decide, by decide +kernel⟩
theorem f_Mod_127 : am_isF "WheelDiscModel" 127 10 11 := ⟨_, rfl, by decide, am_mem 949 (by decide +kernel) rfl⟩
theorem f_Mod_130 : am_isF "WheelDiscModel" 130 10 13 := ⟨_, rfl, by decide, am_mem 951 (by decide +kernel) rfl⟩
theorem v_Mod_133 : am_isV "WheelDiscModel" 133 y_Mod_isStand 1 := ⟨am_mem 1141 (by decide +kernel) rfl, am_mem 1143 (by decide +kernel) rfl, am_mem 48 (by decide +kernel) rfl, am_mem 72 (by decide +kernel) rfl, by decide, by decide, by decide +kernel⟩
theorem f_Mod_136 : am_isF "WheelDiscModel" 136 10 25 := ⟨_, rfl, by decide, am_mem 963 (by decide +kernel) rfl⟩
theorem f_Mod_140 : am_isF "WheelDiscModel" 140 10 26 := ⟨_, rfl, by decide, am_mem 964 (by decide +kernel) rfl⟩
theorem f_Mod_47 : am_isF "WheelDiscModel" 47 10 22 := ⟨_, rfl, by decide, am_mem 960 (by decide +kernel) rfl⟩
theorem lk_153_22 : am_link 153 22 = 164 := by decide +kernel
theorem ce_164 : am_cell 164 = (11, 10) := by decide +kernel
theorem v_Mod_143 : am_isV "WheelDiscModel" 143 y_Mod_standOf 1 := ⟨am_mem 1193 (by decide +kernel) rfl, am_mem 1195 (by decide +kernel) rfl, am_mem 52 (by decide +kernel) rfl, am_mem 72 (by decide +kernel) rfl, by decide, by decide, by decide +kernel⟩
theorem v_Mod_146 : am_isV "WheelDiscModel" 146 y_Mod_isAhead 2 := ⟨am_mem 1189 (by decide +kernel) rfl, am_mem 1191 (by decide +kernel) rfl, am_mem 51 (by decide +kernel) rfl, am_mem 72 (by decide +kernel) rfl, by decide, by decide, by decide +kernel⟩
theorem f_Mod_44 : am_isF "WheelDiscModel" 44 10 21 := ⟨_, rfl, by decide, am_mem 959 (by decide +kernel) rfl⟩
theorem lk_153_21 : am_link 153 21 = 163 := by decide +kernel
theorem ce_163 : am_cell 163 = (11, 512) := by decide +kernel
theorem v_Mod_149 : am_isV "WheelDiscModel" 149 y_Mod_rowOf 0 := ⟨am_mem 1185 (by decide +kernel) rfl, am_mem 1187 (by decide +kernel) rfl, am_mem 50 (by decide +kernel) rfl, am_mem 72 (by decide +kernel) rfl, by decide, by decide, by decide +kernel⟩
theorem f_Mod_41 : am_isF "WheelDiscModel" 41 10 20 := ⟨_, rfl, by decide, am_mem 958 (by decide +kernel) rfl⟩
theorem lk_153_20 : am_link 153 20 = 162 := by decide +kernel
theorem ce_162 : am_cell 162 = (11, 512) := by decide +kernel
theorem v_Mod_152 : am_isV "WheelDiscModel" 152 y_Mod_form0 0 := ⟨am_mem 1181 (by decide +kernel) rfl, am_mem 1183 (by decide +kernel) rfl, am_mem 49 (by decide +kernel) rfl, am_mem 72 (by decide +kernel) rfl, by decide, by decide, by decide +kernel⟩
theorem f_Mod_155 : am_isF "WheelDiscModel" 155 10 6 := ⟨_, rfl, by decide, am_mem 944 (by decide +kernel) rfl⟩
theorem f_Mod_56 : am_isF "WheelDiscModel" 56 10 27 := ⟨_, rfl, by decide, am_mem 965 (by decide +kernel) rfl⟩
theorem lk_153_27 : am_link 153 27 = 167 := by decide +kernel
theorem ce_167 : am_cell 167 = (11, 512) := by decide +kernel
theorem v_Mod_158 : am_isV "WheelDiscModel" 158 y_Mod_keptForm 0 := ⟨am_mem 1201 (by decide +kernel) rfl, am_mem 1203 (by decide +kernel) rfl, am_mem 53 (by decide +kernel) rfl, am_mem 72 (by decide +kernel) rfl, by decide, by decide, by decide +kernel⟩
theorem f_Mod_59 : am_isF "WheelDiscModel" 59 10 28 := ⟨_, rfl, by decide, am_mem 966 (by decide +kernel) rfl⟩
theorem lk_153_28 : am_link 153 28 = 168 := by decide +kernel
theorem ce_168 : am_cell 168 = (11, 16) := by decide +kernel
theorem f_Mod_161 : am_isF "WheelDiscModel" 161 10 29 := ⟨_, rfl, by decide, am_mem 967 (by decide +kernel) rfl⟩
theorem v_Mod_164 : am_isV "WheelDiscModel" 164 y_Mod_string 3 := ⟨am_mem 1217 (by decide +kernel) rfl, am_mem 1219 (by decide +kernel) rfl, am_mem 54 (by decide +kernel) rfl, am_mem 72 (by decide +kernel) rfl, by decide, by decide, by decide +kernel⟩
theorem k_Mod_190 : Cond.constant "WheelDiscModel" 190 (nI 2000000) ∈ am_T := am_mem 1225 (by decide +kernel) rfl
theorem f_Mod_181 : am_isF "WheelDiscModel" 181 10 17 := ⟨_, rfl, by decide, am_mem 955 (by decide +kernel) rfl⟩
theorem k_Mod_191 : Cond.constant "WheelDiscModel" 191 (nI 4000000) ∈ am_T := am_mem 1226 (by decide +kernel) rfl
theorem f_Mod_168 : am_isF "WheelDiscModel" 168 10 14 := ⟨_, rfl, by decide, am_mem 952 (by decide +kernel) rfl⟩
theorem f_Mod_171 : am_isF "WheelDiscModel" 171 10 15 := ⟨_, rfl, by decide, am_mem 953 (by decide +kernel) rfl⟩
theorem f_Mod_184 : am_isF "WheelDiscModel" 184 10 16 := ⟨_, rfl, by decide, am_mem 954 (by decide +kernel) rfl⟩
theorem v_Mod_174 : am_isV "WheelDiscModel" 174 y_Mod_bitOf 2 := ⟨am_mem 1239 (by decide +kernel) rfl, am_mem 1241 (by decide +kernel) rfl, am_mem 58 (by decide +kernel) rfl, am_mem 72 (by decide +kernel) rfl, by decide, by decide, by decide +kernel⟩
theorem v_Mod_177 : am_isV "WheelDiscModel" 177 y_Mod_searchWord 2 := ⟨am_mem 1235 (by decide +kernel) rfl, am_mem 1237 (by decide +kernel) rfl, am_mem 57 (by decide +kernel) rfl, am_mem 72 (by decide +kernel) rfl, by decide, by decide, by decide +kernel⟩
theorem v_Mod_187 : am_isV "WheelDiscModel" 187 y_Mod_isFound 1 := ⟨am_mem 1231 (by decide +kernel) rfl, am_mem 1233 (by decide +kernel) rfl, am_mem 56 (by decide +kernel) rfl, am_mem 72 (by decide +kernel) rfl, by decide, by decide, by decide +kernel⟩
theorem v_Mod_192 : am_isV "WheelDiscModel" 192 y_Mod_search 1 := ⟨am_mem 1227 (by decide +kernel) rfl, am_mem 1229 (by decide +kernel) rfl, am_mem 55 (by decide +kernel) rfl, am_mem 72 (by decide +kernel) rfl, by decide, by decide, by decide +kernel⟩
theorem f_Mod_32 : am_isF "WheelDiscModel" 32 10 10 := ⟨_, rfl, by decide, am_mem 948 (by decide +kernel) rfl⟩
theorem lk_153_10 : am_link 153 10 = 159 := by decide +kernel
theorem ce_159 : am_cell 159 = (11, 2000) := by decide +kernel
theorem f_Mod_195 : am_isF "WheelDiscModel" 195 10 30 := ⟨_, rfl, by decide, am_mem 968 (by decide +kernel) rfl⟩
theorem f_Mod_53 : am_isF "WheelDiscModel" 53 10 24 := ⟨_, rfl, by decide, am_mem 962 (by decide +kernel) rfl⟩
theorem lk_153_24 : am_link 153 24 = 166 := by decide +kernel
theorem ce_166 : am_cell 166 = (13, 512) := by decide +kernel
theorem v_Mod_198 : am_isV "WheelDiscModel" 198 y_Mod_follow 1 := ⟨am_mem 1259 (by decide +kernel) rfl, am_mem 1261 (by decide +kernel) rfl, am_mem 59 (by decide +kernel) rfl, am_mem 72 (by decide +kernel) rfl, by decide, by decide, by decide +kernel⟩
theorem v_Mod_201 : am_isV "WheelDiscModel" 201 y_Mod_leastStand 0 := ⟨am_mem 1271 (by decide +kernel) rfl, am_mem 1273 (by decide +kernel) rfl, am_mem 60 (by decide +kernel) rfl, am_mem 72 (by decide +kernel) rfl, by decide, by decide, by decide +kernel⟩
theorem f_Mod_35 : am_isF "WheelDiscModel" 35 10 12 := ⟨_, rfl, by decide, am_mem 950 (by decide +kernel) rfl⟩
theorem lk_153_12 : am_link 153 12 = 160 := by decide +kernel
theorem ce_160 : am_cell 160 = (11, 512) := by decide +kernel
