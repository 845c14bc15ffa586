theorem w_c_X0_begin : Cond.code yX0_begin cX0_begin 2 none ∈ p_T := p_in 565 (by decide +kernel) rfl
theorem w_i_X0_begin : Cond.instanceMethod yX0_begin ∈ p_T := p_in 564 (by decide +kernel) rfl
theorem w_e_X0_begin : Cond.selects RX0 yX0_begin yX0_begin ∈ p_T := p_in 27 (by decide +kernel) rfl
theorem w_I_RX0 : Cond.initialized RX0 ∈ p_T := p_in 77 (by decide +kernel) rfl
theorem w_m_RX0_25 : Cond.methodLink RX0 25 yX0_begin ∈ p_T := p_in 562 (by decide +kernel) rfl
theorem w_f_RX0_28 : Cond.fieldLinkNest RX0 28 "PokerEvening$Room" "claimCount" "I" "PokerEvening" ∈ p_N := p_inN 148 (by decide +kernel) rfl
theorem w_f_RX0_12 : Cond.fieldLink RX0 12 "PokerEvening$Evening" "iron" "LPokerEvening$Iron;" ∈ p_T := p_in 205 (by decide +kernel) rfl
theorem w_f_RX0_34 : Cond.fieldLinkNest RX0 34 "PokerEvening$Iron" "gone" "I" "PokerEvening" ∈ p_N := p_inN 193 (by decide +kernel) rfl
theorem w_c_X1_take : Cond.code yX1_take cX1_take 5 (some .int) ∈ p_T := p_in 574 (by decide +kernel) rfl
theorem w_i_X1_take : Cond.instanceMethod yX1_take ∈ p_T := p_in 573 (by decide +kernel) rfl
theorem w_e_X1_take : Cond.selects RX1 yX1_take yX1_take ∈ p_T := p_in 29 (by decide +kernel) rfl
theorem w_I_RX1 : Cond.initialized RX1 ∈ p_T := p_in 78 (by decide +kernel) rfl
theorem w_m_RX0_37 : Cond.methodLinkNest RX0 37 yX1_take "PokerEvening" ∈ p_N := p_inN 571 (by decide +kernel) rfl
theorem w_f_RX0_18 : Cond.fieldLink RX0 18 "PokerEvening$Evening" "hotOf" "[I" ∈ p_T := p_in 207 (by decide +kernel) rfl
theorem w_c_X7_put : Cond.code yX7_put cX7_put 3 none ∈ p_T := p_in 339 (by decide +kernel) rfl
theorem w_s_X7_put : Cond.static yX7_put ∈ p_T := p_in 338 (by decide +kernel) rfl
theorem w_I_RX7 : Cond.initialized RX7 ∈ p_T := p_in 74 (by decide +kernel) rfl
theorem w_m_RX0_41 : Cond.methodLinkNest RX0 41 yX7_put "PokerEvening" ∈ p_N := p_inN 570 (by decide +kernel) rfl
theorem w_f_RX0_45 : Cond.fieldLink RX0 45 "PokerEvening$Evening" "most" "I" ∈ p_T := p_in 212 (by decide +kernel) rfl
theorem w_m_RX0_48 : Cond.methodLink RX0 48 Lib.Math.max.name ∈ p_T := p_in 581 (by decide +kernel) rfl
theorem w_s_mmax : Cond.static Lib.Math.max.name ∈ p_T := p_in 271 (by decide +kernel) rfl
theorem w_I_Math : Cond.initialized "java/lang/Math" ∈ p_T := p_in 82 (by decide +kernel) rfl
theorem w_c_mmax : Cond.code Lib.Math.max.name Lib.Math.max.code 2 (some .int) ∈ p_T := p_in 272 (by decide +kernel) rfl
theorem w_f_RX0_22 : Cond.fieldLink RX0 22 "PokerEvening$Evening" "dropOf" "[I" ∈ p_T := p_in 209 (by decide +kernel) rfl
theorem w_f_RX0_54 : Cond.fieldLinkNest RX0 54 "PokerEvening$Room" "tellerOf" "[I" "PokerEvening" ∈ p_N := p_inN 133 (by decide +kernel) rfl
theorem w_c_X7_at : Cond.code yX7_at cX7_at 2 (some .int) ∈ p_T := p_in 362 (by decide +kernel) rfl
theorem w_s_X7_at : Cond.static yX7_at ∈ p_T := p_in 361 (by decide +kernel) rfl
theorem w_m_RX0_57 : Cond.methodLinkNest RX0 57 yX7_at "PokerEvening" ∈ p_N := p_inN 582 (by decide +kernel) rfl
theorem w_c_X1_cool : Cond.code yX1_cool cX1_cool 1 none ∈ p_T := p_in 569 (by decide +kernel) rfl
theorem w_i_X1_cool : Cond.instanceMethod yX1_cool ∈ p_T := p_in 568 (by decide +kernel) rfl
theorem w_e_X1_cool : Cond.selects RX1 yX1_cool yX1_cool ∈ p_T := p_in 28 (by decide +kernel) rfl
theorem w_m_RX0_61 : Cond.methodLinkNest RX0 61 yX1_cool "PokerEvening" ∈ p_N := p_inN 566 (by decide +kernel) rfl
theorem w_f_RX1_9 : Cond.fieldLink RX1 9 "PokerEvening$Iron" "heat" "I" ∈ p_T := p_in 187 (by decide +kernel) rfl
theorem w_f_RX1_15 : Cond.fieldLink RX1 15 "PokerEvening$Iron" "holder" "I" ∈ p_T := p_in 188 (by decide +kernel) rfl
theorem w_f_RX1_18 : Cond.fieldLink RX1 18 "PokerEvening$Iron" "told" "I" ∈ p_T := p_in 189 (by decide +kernel) rfl
theorem w_f_RX1_21 : Cond.fieldLink RX1 21 "PokerEvening$Iron" "gone" "I" ∈ p_T := p_in 192 (by decide +kernel) rfl
theorem w_f_RX1_24 : Cond.fieldLinkNest RX1 24 "PokerEvening$Room" "tellerOf" "[I" "PokerEvening" ∈ p_N := p_inN 134 (by decide +kernel) rfl
theorem w_m_RX1_30 : Cond.methodLinkNest RX1 30 yX7_at "PokerEvening" ∈ p_N := p_inN 575 (by decide +kernel) rfl
theorem w_c_X7_bit : Cond.code yX7_bit cX7_bit 2 (some .int) ∈ p_T := p_in 479 (by decide +kernel) rfl
theorem w_s_X7_bit : Cond.static yX7_bit ∈ p_T := p_in 478 (by decide +kernel) rfl
theorem w_m_RX1_34 : Cond.methodLinkNest RX1 34 yX7_bit "PokerEvening" ∈ p_N := p_inN 576 (by decide +kernel) rfl
theorem w_f_RX1_38 : Cond.fieldLinkNest RX1 38 "PokerEvening$Room" "kindOf" "[I" "PokerEvening" ∈ p_N := p_inN 127 (by decide +kernel) rfl
theorem w_c_X2_isFalse : Cond.code yX2_isFalse cX2_isFalse 2 (some .boolean) ∈ p_T := p_in 491 (by decide +kernel) rfl
theorem w_i_X2_isFalse : Cond.instanceMethod yX2_isFalse ∈ p_T := p_in 490 (by decide +kernel) rfl
theorem w_e_X2_isFalse : Cond.selects RX2 yX2_isFalse yX2_isFalse ∈ p_T := p_in 18 (by decide +kernel) rfl
theorem w_I_RX2 : Cond.initialized RX2 ∈ p_T := p_in 76 (by decide +kernel) rfl
theorem w_m_RX1_41 : Cond.methodLinkNest RX1 41 yX2_isFalse "PokerEvening" ∈ p_N := p_inN 577 (by decide +kernel) rfl
theorem w_f_RX1_45 : Cond.fieldLinkNest RX1 45 "PokerEvening$Room" "weightOf" "[I" "PokerEvening" ∈ p_N := p_inN 142 (by decide +kernel) rfl
theorem w_c_X1_heating : Cond.code yX1_heating cX1_heating 4 (some .int) ∈ p_T := p_in 580 (by decide +kernel) rfl
theorem w_s_X1_heating : Cond.static yX1_heating ∈ p_T := p_in 579 (by decide +kernel) rfl
theorem w_m_RX1_48 : Cond.methodLink RX1 48 yX1_heating ∈ p_T := p_in 578 (by decide +kernel) rfl
theorem w_f_RX1_52 : Cond.fieldLinkNest RX1 52 "PokerEvening$Room" "gripOf" "[I" "PokerEvening" ∈ p_N := p_inN 130 (by decide +kernel) rfl
theorem w_f_RX2_30 : Cond.fieldLink RX2 30 "PokerEvening$Room" "tellerCount" "I" ∈ p_T := p_in 144 (by decide +kernel) rfl
theorem w_f_RX2_34 : Cond.fieldLink RX2 34 "PokerEvening$Room" "factCount" "I" ∈ p_T := p_in 146 (by decide +kernel) rfl
theorem w_f_RX2_37 : Cond.fieldLink RX2 37 "PokerEvening$Room" "claimCount" "I" ∈ p_T := p_in 149 (by decide +kernel) rfl
theorem w_f_RX2_40 : Cond.fieldLink RX2 40 "PokerEvening$Room" "truth" "I" ∈ p_T := p_in 152 (by decide +kernel) rfl
theorem w_f_RX2_9 : Cond.fieldLink RX2 9 "PokerEvening$Room" "kindOf" "[I" ∈ p_T := p_in 126 (by decide +kernel) rfl
theorem w_c_X7_copyRow : Cond.code yX7_copyRow cX7_copyRow 2 none ∈ p_T := p_in 451 (by decide +kernel) rfl
theorem w_s_X7_copyRow : Cond.static yX7_copyRow ∈ p_T := p_in 450 (by decide +kernel) rfl
theorem w_m_RX2_43 : Cond.methodLinkNest RX2 43 yX7_copyRow "PokerEvening" ∈ p_N := p_inN 449 (by decide +kernel) rfl
theorem w_f_RX2_15 : Cond.fieldLink RX2 15 "PokerEvening$Room" "gripOf" "[I" ∈ p_T := p_in 129 (by decide +kernel) rfl
theorem w_f_RX2_18 : Cond.fieldLink RX2 18 "PokerEvening$Room" "tellerOf" "[I" ∈ p_T := p_in 132 (by decide +kernel) rfl
theorem w_f_RX2_21 : Cond.fieldLink RX2 21 "PokerEvening$Room" "factOf" "[I" ∈ p_T := p_in 137 (by decide +kernel) rfl
theorem w_f_RX2_24 : Cond.fieldLink RX2 24 "PokerEvening$Room" "valueOf" "[I" ∈ p_T := p_in 139 (by decide +kernel) rfl
theorem w_f_RX2_27 : Cond.fieldLink RX2 27 "PokerEvening$Room" "weightOf" "[I" ∈ p_T := p_in 141 (by decide +kernel) rfl
theorem w_c_X2_isTeller : Cond.code yX2_isTeller cX2_isTeller 2 (some .boolean) ∈ p_T := p_in 393 (by decide +kernel) rfl
theorem w_i_X2_isTeller : Cond.instanceMethod yX2_isTeller ∈ p_T := p_in 392 (by decide +kernel) rfl
theorem w_e_X2_isTeller : Cond.selects RX2 yX2_isTeller yX2_isTeller ∈ p_T := p_in 11 (by decide +kernel) rfl
theorem w_m_RX2_47 : Cond.methodLink RX2 47 yX2_isTeller ∈ p_T := p_in 390 (by decide +kernel) rfl
theorem w_c_X2_isFact : Cond.code yX2_isFact cX2_isFact 2 (some .boolean) ∈ p_T := p_in 397 (by decide +kernel) rfl
theorem w_i_X2_isFact : Cond.instanceMethod yX2_isFact ∈ p_T := p_in 396 (by decide +kernel) rfl
theorem w_e_X2_isFact : Cond.selects RX2 yX2_isFact yX2_isFact ∈ p_T := p_in 12 (by decide +kernel) rfl
theorem w_m_RX2_51 : Cond.methodLink RX2 51 yX2_isFact ∈ p_T := p_in 394 (by decide +kernel) rfl
theorem w_c_X7_within : Cond.code yX7_within cX7_within 3 (some .boolean) ∈ p_T := p_in 376 (by decide +kernel) rfl
theorem w_s_X7_within : Cond.static yX7_within ∈ p_T := p_in 375 (by decide +kernel) rfl
theorem w_m_RX2_54 : Cond.methodLinkNest RX2 54 yX7_within "PokerEvening" ∈ p_N := p_inN 374 (by decide +kernel) rfl
theorem w_m_RX2_58 : Cond.methodLinkNest RX2 58 yX7_put "PokerEvening" ∈ p_N := p_inN 377 (by decide +kernel) rfl
theorem w_c_X2_allowsClaim : Cond.code yX2_allowsClaim cX2_allowsClaim 5 (some .boolean) ∈ p_T := p_in 389 (by decide +kernel) rfl
theorem w_i_X2_allowsClaim : Cond.instanceMethod yX2_allowsClaim ∈ p_T := p_in 388 (by decide +kernel) rfl
theorem w_e_X2_allowsClaim : Cond.selects RX2 yX2_allowsClaim yX2_allowsClaim ∈ p_T := p_in 10 (by decide +kernel) rfl
theorem w_m_RX2_62 : Cond.methodLink RX2 62 yX2_allowsClaim ∈ p_T := p_in 386 (by decide +kernel) rfl
theorem w_c_X7_slide : Cond.code yX7_slide cX7_slide 5 none ∈ p_T := p_in 535 (by decide +kernel) rfl
theorem w_s_X7_slide : Cond.static yX7_slide ∈ p_T := p_in 534 (by decide +kernel) rfl
theorem w_m_RX2_66 : Cond.methodLinkNest RX2 66 yX7_slide "PokerEvening" ∈ p_N := p_inN 533 (by decide +kernel) rfl
theorem w_c_X2_moveClaim : Cond.code yX2_moveClaim cX2_moveClaim 3 none ∈ p_T := p_in 532 (by decide +kernel) rfl
theorem w_i_X2_moveClaim : Cond.instanceMethod yX2_moveClaim ∈ p_T := p_in 531 (by decide +kernel) rfl
theorem w_e_X2_moveClaim : Cond.selects RX2 yX2_moveClaim yX2_moveClaim ∈ p_T := p_in 24 (by decide +kernel) rfl
theorem w_m_RX2_69 : Cond.methodLink RX2 69 yX2_moveClaim ∈ p_T := p_in 529 (by decide +kernel) rfl
theorem w_m_RX2_73 : Cond.methodLinkNest RX2 73 yX7_at "PokerEvening" ∈ p_N := p_inN 492 (by decide +kernel) rfl
theorem w_m_RX2_77 : Cond.methodLinkNest RX2 77 yX7_bit "PokerEvening" ∈ p_N := p_inN 493 (by decide +kernel) rfl
theorem w_m_RX2_81 : Cond.methodLink RX2 81 yX2_isFalse ∈ p_T := p_in 762 (by decide +kernel) rfl
theorem w_f_RX3_25 : Cond.fieldLink RX3 25 "PokerEvening$Search" "most" "I" ∈ p_T := p_in 236 (by decide +kernel) rfl
theorem w_c_X3_stageAt : Cond.code yX3_stageAt cX3_stageAt 2 (some (.object "PokerEvening$Iron")) ∈ p_T := p_in 606 (by decide +kernel) rfl
theorem w_i_X3_stageAt : Cond.instanceMethod yX3_stageAt ∈ p_T := p_in 605 (by decide +kernel) rfl
theorem w_e_X3_stageAt : Cond.selects RX3 yX3_stageAt yX3_stageAt ∈ p_T := p_in 31 (by decide +kernel) rfl
theorem w_I_RX3 : Cond.initialized RX3 ∈ p_T := p_in 79 (by decide +kernel) rfl
theorem w_m_RX3_29 : Cond.methodLink RX3 29 yX3_stageAt ∈ p_T := p_in 603 (by decide +kernel) rfl
theorem w_m_RX3_33 : Cond.methodLinkNest RX3 33 yX1_cool "PokerEvening" ∈ p_N := p_inN 607 (by decide +kernel) rfl
theorem w_c_X3_look : Cond.code yX3_look cX3_look 7 none ∈ p_T := p_in 611 (by decide +kernel) rfl
theorem w_i_X3_look : Cond.instanceMethod yX3_look ∈ p_T := p_in 610 (by decide +kernel) rfl
theorem w_e_X3_look : Cond.selects RX3 yX3_look yX3_look ∈ p_T := p_in 32 (by decide +kernel) rfl
theorem w_m_RX3_36 : Cond.methodLink RX3 36 yX3_look ∈ p_T := p_in 608 (by decide +kernel) rfl
theorem w_f_RX3_40 : Cond.fieldLinkNest RX3 40 "PokerEvening$Iron" "told" "I" "PokerEvening" ∈ p_N := p_inN 190 (by decide +kernel) rfl
theorem w_c_J6_bitCount : Cond.code yJ6_bitCount_0f7a4 cJ6_bitCount_0f7a4 1 (some .int) ∈ p_T := p_in 614 (by decide +kernel) rfl
theorem w_s_J6_bitCount : Cond.static yJ6_bitCount_0f7a4 ∈ p_T := p_in 613 (by decide +kernel) rfl
theorem w_I_RJ6 : Cond.initialized RJ6 ∈ p_T := p_in 89 (by decide +kernel) rfl
theorem w_m_RX3_43 : Cond.methodLink RX3 43 yJ6_bitCount_0f7a4 ∈ p_T := p_in 612 (by decide +kernel) rfl
theorem w_f_RX3_49 : Cond.fieldLinkNest RX3 49 "PokerEvening$Iron" "gone" "I" "PokerEvening" ∈ p_N := p_inN 194 (by decide +kernel) rfl
theorem w_c_X3_tellable : Cond.code yX3_tellable cX3_tellable 5 (some .int) ∈ p_T := p_in 620 (by decide +kernel) rfl
theorem w_s_X3_tellable : Cond.static yX3_tellable ∈ p_T := p_in 619 (by decide +kernel) rfl
theorem w_m_RX3_52 : Cond.methodLink RX3 52 yX3_tellable ∈ p_T := p_in 618 (by decide +kernel) rfl
theorem w_f_RX3_56 : Cond.fieldLinkNest RX3 56 "PokerEvening$Room" "claimCount" "I" "PokerEvening" ∈ p_N := p_inN 150 (by decide +kernel) rfl
theorem w_f_RX3_17 : Cond.fieldLink RX3 17 "PokerEvening$Search" "path" "[I" ∈ p_T := p_in 233 (by decide +kernel) rfl
theorem w_f_RX3_21 : Cond.fieldLink RX3 21 "PokerEvening$Search" "best" "[I" ∈ p_T := p_in 234 (by decide +kernel) rfl
theorem w_m_RX3_61 : Cond.methodLinkNest RX3 61 yX7_copyRow "PokerEvening" ∈ p_N := p_inN 623 (by decide +kernel) rfl
theorem w_m_RX3_65 : Cond.methodLinkNest RX3 65 yX7_bit "PokerEvening" ∈ p_N := p_inN 621 (by decide +kernel) rfl
theorem w_m_RX3_69 : Cond.methodLinkNest RX3 69 yX7_put "PokerEvening" ∈ p_N := p_inN 624 (by decide +kernel) rfl
theorem w_c_X1_copyFrom : Cond.code yX1_copyFrom cX1_copyFrom 2 none ∈ p_T := p_in 628 (by decide +kernel) rfl
theorem w_i_X1_copyFrom : Cond.instanceMethod yX1_copyFrom ∈ p_T := p_in 627 (by decide +kernel) rfl
theorem w_e_X1_copyFrom : Cond.selects RX1 yX1_copyFrom yX1_copyFrom ∈ p_T := p_in 33 (by decide +kernel) rfl
theorem w_m_RX3_73 : Cond.methodLinkNest RX3 73 yX1_copyFrom "PokerEvening" ∈ p_N := p_inN 625 (by decide +kernel) rfl
theorem w_m_RX3_77 : Cond.methodLinkNest RX3 77 yX1_take "PokerEvening" ∈ p_N := p_inN 629 (by decide +kernel) rfl
theorem w_f_RX3_81 : Cond.fieldLinkNest RX3 81 "PokerEvening$Room" "tellerOf" "[I" "PokerEvening" ∈ p_N := p_inN 135 (by decide +kernel) rfl
theorem w_m_RX3_84 : Cond.methodLinkNest RX3 84 yX7_at "PokerEvening" ∈ p_N := p_inN 622 (by decide +kernel) rfl
theorem w_f_RX3_11 : Cond.fieldLink RX3 11 "PokerEvening$Search" "stages" "[LPokerEvening$Iron;" ∈ p_T := p_in 232 (by decide +kernel) rfl
theorem w_f_RX4_22 : Cond.fieldLink RX4 22 "PokerEvening$Shelf" "size" "I" ∈ p_T := p_in 277 (by decide +kernel) rfl
theorem w_f_RX4_15 : Cond.fieldLink RX4 15 "PokerEvening$Shelf" "rooms" "[LPokerEvening$Room;" ∈ p_T := p_in 276 (by decide +kernel) rfl
theorem w_c_X4_dropOldest : Cond.code yX4_dropOldest cX4_dropOldest 3 none ∈ p_T := p_in 505 (by decide +kernel) rfl
theorem w_i_X4_dropOldest : Cond.instanceMethod yX4_dropOldest ∈ p_T := p_in 504 (by decide +kernel) rfl
theorem w_e_X4_dropOldest : Cond.selects RX4 yX4_dropOldest yX4_dropOldest ∈ p_T := p_in 20 (by decide +kernel) rfl
theorem w_I_RX4 : Cond.initialized RX4 ∈ p_T := p_in 81 (by decide +kernel) rfl
theorem w_m_RX4_26 : Cond.methodLink RX4 26 yX4_dropOldest ∈ p_T := p_in 502 (by decide +kernel) rfl
theorem w_c_X4_roomAt : Cond.code yX4_roomAt cX4_roomAt 2 (some (.object "PokerEvening$Room")) ∈ p_T := p_in 509 (by decide +kernel) rfl
theorem w_i_X4_roomAt : Cond.instanceMethod yX4_roomAt ∈ p_T := p_in 508 (by decide +kernel) rfl
theorem w_e_X4_roomAt : Cond.selects RX4 yX4_roomAt yX4_roomAt ∈ p_T := p_in 21 (by decide +kernel) rfl
theorem w_m_RX4_29 : Cond.methodLink RX4 29 yX4_roomAt ∈ p_T := p_in 506 (by decide +kernel) rfl
theorem w_c_X2_copyFrom : Cond.code yX2_copyFrom cX2_copyFrom 2 none ∈ p_T := p_in 448 (by decide +kernel) rfl
theorem w_i_X2_copyFrom : Cond.instanceMethod yX2_copyFrom ∈ p_T := p_in 447 (by decide +kernel) rfl
theorem w_e_X2_copyFrom : Cond.selects RX2 yX2_copyFrom yX2_copyFrom ∈ p_T := p_in 14 (by decide +kernel) rfl
theorem w_m_RX4_33 : Cond.methodLinkNest RX4 33 yX2_copyFrom "PokerEvening" ∈ p_N := p_inN 510 (by decide +kernel) rfl
theorem w_f_RX5_18 : Cond.fieldLink RX5 18 "PokerEvening$Sights" "size" "I" ∈ p_T := p_in 255 (by decide +kernel) rfl
theorem w_f_RX5_9 : Cond.fieldLink RX5 9 "PokerEvening$Sights" "tellerOf" "[I" ∈ p_T := p_in 253 (by decide +kernel) rfl
theorem w_m_RX5_22 : Cond.methodLinkNest RX5 22 yX7_put "PokerEvening" ∈ p_N := p_inN 661 (by decide +kernel) rfl
theorem w_f_RX5_15 : Cond.fieldLink RX5 15 "PokerEvening$Sights" "dropOf" "[I" ∈ p_T := p_in 254 (by decide +kernel) rfl
theorem w_f_RX5_26 : Cond.fieldLinkNest RX5 26 "PokerEvening$Evening" "dropOf" "[I" "PokerEvening" ∈ p_N := p_inN 210 (by decide +kernel) rfl
theorem w_m_RX5_29 : Cond.methodLinkNest RX5 29 yX7_at "PokerEvening" ∈ p_N := p_inN 686 (by decide +kernel) rfl
theorem w_f_RX6_18 : Cond.fieldLink RX6 18 "PokerEvening$Text" "length" "I" ∈ p_T := p_in 107 (by decide +kernel) rfl
theorem w_f_RX6_9 : Cond.fieldLink RX6 9 "PokerEvening$Text" "letters" "[I" ∈ p_T := p_in 105 (by decide +kernel) rfl
theorem w_m_RX6_22 : Cond.methodLinkNest RX6 22 yX7_put "PokerEvening" ∈ p_N := p_inN 337 (by decide +kernel) rfl
theorem w_c_X2_clear : Cond.code yX2_clear cX2_clear 1 none ∈ p_T := p_in 347 (by decide +kernel) rfl
theorem w_i_X2_clear : Cond.instanceMethod yX2_clear ∈ p_T := p_in 346 (by decide +kernel) rfl
theorem w_e_X2_clear : Cond.selects RX2 yX2_clear yX2_clear ∈ p_T := p_in 2 (by decide +kernel) rfl
theorem w_m_RX6_26 : Cond.methodLinkNest RX6 26 yX2_clear "PokerEvening" ∈ p_N := p_inN 344 (by decide +kernel) rfl
theorem w_f_RX6_31 : Cond.fieldLink RX6 31 "PokerEvening$Text" "place" "I" ∈ p_T := p_in 109 (by decide +kernel) rfl
theorem w_c_X6_readItem : Cond.code yX6_readItem cX6_readItem 2 (some .boolean) ∈ p_T := p_in 351 (by decide +kernel) rfl
theorem w_i_X6_readItem : Cond.instanceMethod yX6_readItem ∈ p_T := p_in 350 (by decide +kernel) rfl
theorem w_e_X6_readItem : Cond.selects RX6 yX6_readItem yX6_readItem ∈ p_T := p_in 3 (by decide +kernel) rfl
theorem w_I_RX6 : Cond.initialized RX6 ∈ p_T := p_in 75 (by decide +kernel) rfl
theorem w_m_RX6_34 : Cond.methodLink RX6 34 yX6_readItem ∈ p_T := p_in 348 (by decide +kernel) rfl
theorem w_c_X6_take : Cond.code yX6_take cX6_take 2 (some .int) ∈ p_T := p_in 355 (by decide +kernel) rfl
theorem w_i_X6_take : Cond.instanceMethod yX6_take ∈ p_T := p_in 354 (by decide +kernel) rfl
theorem w_e_X6_take : Cond.selects RX6 yX6_take yX6_take ∈ p_T := p_in 4 (by decide +kernel) rfl
theorem w_m_RX6_38 : Cond.methodLink RX6 38 yX6_take ∈ p_T := p_in 352 (by decide +kernel) rfl
theorem w_c_X6_readNumbers : Cond.code yX6_readNumbers cX6_readNumbers 4 (some .boolean) ∈ p_T := p_in 366 (by decide +kernel) rfl
theorem w_i_X6_readNumbers : Cond.instanceMethod yX6_readNumbers ∈ p_T := p_in 365 (by decide +kernel) rfl
theorem w_e_X6_readNumbers : Cond.selects RX6 yX6_readNumbers yX6_readNumbers ∈ p_T := p_in 6 (by decide +kernel) rfl
theorem w_m_RX6_42 : Cond.methodLink RX6 42 yX6_readNumbers ∈ p_T := p_in 363 (by decide +kernel) rfl
theorem w_f_RX6_15 : Cond.fieldLink RX6 15 "PokerEvening$Text" "numbers" "[I" ∈ p_T := p_in 106 (by decide +kernel) rfl
theorem w_m_RX6_46 : Cond.methodLinkNest RX6 46 yX7_at "PokerEvening" ∈ p_N := p_inN 360 (by decide +kernel) rfl
theorem w_c_X2_addTeller : Cond.code yX2_addTeller cX2_addTeller 3 (some .boolean) ∈ p_T := p_in 373 (by decide +kernel) rfl
theorem w_i_X2_addTeller : Cond.instanceMethod yX2_addTeller ∈ p_T := p_in 372 (by decide +kernel) rfl
theorem w_e_X2_addTeller : Cond.selects RX2 yX2_addTeller yX2_addTeller ∈ p_T := p_in 7 (by decide +kernel) rfl
theorem w_m_RX6_50 : Cond.methodLinkNest RX6 50 yX2_addTeller "PokerEvening" ∈ p_N := p_inN 370 (by decide +kernel) rfl
theorem w_c_X2_addFact : Cond.code yX2_addFact cX2_addFact 2 (some .boolean) ∈ p_T := p_in 381 (by decide +kernel) rfl
theorem w_i_X2_addFact : Cond.instanceMethod yX2_addFact ∈ p_T := p_in 380 (by decide +kernel) rfl
theorem w_e_X2_addFact : Cond.selects RX2 yX2_addFact yX2_addFact ∈ p_T := p_in 8 (by decide +kernel) rfl
theorem w_m_RX6_54 : Cond.methodLinkNest RX6 54 yX2_addFact "PokerEvening" ∈ p_N := p_inN 378 (by decide +kernel) rfl
theorem w_c_X2_addClaim : Cond.code yX2_addClaim cX2_addClaim 5 (some .boolean) ∈ p_T := p_in 385 (by decide +kernel) rfl
theorem w_i_X2_addClaim : Cond.instanceMethod yX2_addClaim ∈ p_T := p_in 384 (by decide +kernel) rfl
theorem w_e_X2_addClaim : Cond.selects RX2 yX2_addClaim yX2_addClaim ∈ p_T := p_in 9 (by decide +kernel) rfl
theorem w_m_RX6_57 : Cond.methodLinkNest RX6 57 yX2_addClaim "PokerEvening" ∈ p_N := p_inN 382 (by decide +kernel) rfl
theorem w_c_X6_peek : Cond.code yX6_peek cX6_peek 1 (some .int) ∈ p_T := p_in 359 (by decide +kernel) rfl
theorem w_i_X6_peek : Cond.instanceMethod yX6_peek ∈ p_T := p_in 358 (by decide +kernel) rfl
theorem w_e_X6_peek : Cond.selects RX6 yX6_peek yX6_peek ∈ p_T := p_in 5 (by decide +kernel) rfl
theorem w_m_RX6_61 : Cond.methodLink RX6 61 yX6_peek ∈ p_T := p_in 356 (by decide +kernel) rfl
theorem w_c_X6_isFigure : Cond.code yX6_isFigure cX6_isFigure 1 (some .boolean) ∈ p_T := p_in 369 (by decide +kernel) rfl
theorem w_s_X6_isFigure : Cond.static yX6_isFigure ∈ p_T := p_in 368 (by decide +kernel) rfl
theorem w_m_RX6_64 : Cond.methodLink RX6 64 yX6_isFigure ∈ p_T := p_in 367 (by decide +kernel) rfl
theorem w_m_RX7_82 : Cond.methodLink RX7 82 yX7_within ∈ p_T := p_in 432 (by decide +kernel) rfl
theorem w_f_RX7_10 : Cond.fieldLink RX7 10 "PokerEvening" "text" "LPokerEvening$Text;" ∈ p_T := p_in 402 (by decide +kernel) rfl
theorem w_c_X6_append : Cond.code yX6_append cX6_append 2 (some .boolean) ∈ p_T := p_in 336 (by decide +kernel) rfl
theorem w_i_X6_append : Cond.instanceMethod yX6_append ∈ p_T := p_in 335 (by decide +kernel) rfl
theorem w_e_X6_append : Cond.selects RX6 yX6_append yX6_append ∈ p_T := p_in 0 (by decide +kernel) rfl
theorem w_m_RX7_71 : Cond.methodLinkNest RX7 71 yX6_append "PokerEvening" ∈ p_N := p_inN 333 (by decide +kernel) rfl
theorem w_f_RX7_86 : Cond.fieldLinkNest RX7 86 "PokerEvening$Text" "length" "I" "PokerEvening" ∈ p_N := p_inN 108 (by decide +kernel) rfl
theorem w_c_X6_clear : Cond.code yX6_clear cX6_clear 1 none ∈ p_T := p_in 401 (by decide +kernel) rfl
theorem w_i_X6_clear : Cond.instanceMethod yX6_clear ∈ p_T := p_in 400 (by decide +kernel) rfl
theorem w_e_X6_clear : Cond.selects RX6 yX6_clear yX6_clear ∈ p_T := p_in 13 (by decide +kernel) rfl
theorem w_m_RX7_79 : Cond.methodLinkNest RX7 79 yX6_clear "PokerEvening" ∈ p_N := p_inN 398 (by decide +kernel) rfl
theorem w_f_RX7_23 : Cond.fieldLink RX7 23 "PokerEvening" "trial" "LPokerEvening$Room;" ∈ p_T := p_in 404 (by decide +kernel) rfl
theorem w_c_X6_readInto : Cond.code yX6_readInto cX6_readInto 4 (some .int) ∈ p_T := p_in 343 (by decide +kernel) rfl
theorem w_i_X6_readInto : Cond.instanceMethod yX6_readInto ∈ p_T := p_in 342 (by decide +kernel) rfl
theorem w_e_X6_readInto : Cond.selects RX6 yX6_readInto yX6_readInto ∈ p_T := p_in 1 (by decide +kernel) rfl
theorem w_m_RX7_75 : Cond.methodLinkNest RX7 75 yX6_readInto "PokerEvening" ∈ p_N := p_inN 340 (by decide +kernel) rfl
theorem w_f_RX7_89 : Cond.fieldLinkNest RX7 89 "PokerEvening$Room" "tellerCount" "I" "PokerEvening" ∈ p_N := p_inN 145 (by decide +kernel) rfl
theorem w_f_RX7_92 : Cond.fieldLinkNest RX7 92 "PokerEvening$Room" "factCount" "I" "PokerEvening" ∈ p_N := p_inN 147 (by decide +kernel) rfl
theorem w_f_RX7_19 : Cond.fieldLink RX7 19 "PokerEvening" "room" "LPokerEvening$Room;" ∈ p_T := p_in 403 (by decide +kernel) rfl
theorem w_m_RX7_95 : Cond.methodLinkNest RX7 95 yX2_copyFrom "PokerEvening" ∈ p_N := p_inN 445 (by decide +kernel) rfl
theorem w_f_RX7_43 : Cond.fieldLink RX7 43 "PokerEvening" "sights" "LPokerEvening$Sights;" ∈ p_T := p_in 407 (by decide +kernel) rfl
theorem w_c_X5_clear : Cond.code yX5_clear cX5_clear 1 none ∈ p_T := p_in 461 (by decide +kernel) rfl
theorem w_i_X5_clear : Cond.instanceMethod yX5_clear ∈ p_T := p_in 460 (by decide +kernel) rfl
theorem w_e_X5_clear : Cond.selects RX5 yX5_clear yX5_clear ∈ p_T := p_in 15 (by decide +kernel) rfl
theorem w_I_RX5 : Cond.initialized RX5 ∈ p_T := p_in 80 (by decide +kernel) rfl
theorem w_m_RX7_99 : Cond.methodLinkNest RX7 99 yX5_clear "PokerEvening" ∈ p_N := p_inN 458 (by decide +kernel) rfl
theorem w_f_RX7_52 : Cond.fieldLink RX7 52 "PokerEvening" "past" "LPokerEvening$Shelf;" ∈ p_T := p_in 408 (by decide +kernel) rfl
theorem w_c_X4_clear : Cond.code yX4_clear cX4_clear 1 none ∈ p_T := p_in 465 (by decide +kernel) rfl
theorem w_i_X4_clear : Cond.instanceMethod yX4_clear ∈ p_T := p_in 464 (by decide +kernel) rfl
theorem w_e_X4_clear : Cond.selects RX4 yX4_clear yX4_clear ∈ p_T := p_in 16 (by decide +kernel) rfl
theorem w_m_RX7_100 : Cond.methodLinkNest RX7 100 yX4_clear "PokerEvening" ∈ p_N := p_inN 462 (by decide +kernel) rfl
theorem w_f_RX7_56 : Cond.fieldLink RX7 56 "PokerEvening" "kept" "LPokerEvening$Shelf;" ∈ p_T := p_in 409 (by decide +kernel) rfl
theorem w_m_RX7_101 : Cond.methodLinkNest RX7 101 yX2_isTeller "PokerEvening" ∈ p_N := p_inN 470 (by decide +kernel) rfl
theorem w_f_RX7_104 : Cond.fieldLinkNest RX7 104 "PokerEvening$Room" "kindOf" "[I" "PokerEvening" ∈ p_N := p_inN 128 (by decide +kernel) rfl
theorem w_m_RX7_108 : Cond.methodLink RX7 108 yX7_at ∈ p_T := p_in 471 (by decide +kernel) rfl
theorem w_f_RX7_112 : Cond.fieldLinkNest RX7 112 "PokerEvening$Room" "gripOf" "[I" "PokerEvening" ∈ p_N := p_inN 131 (by decide +kernel) rfl
theorem w_m_RX7_115 : Cond.methodLinkNest RX7 115 yX2_isFact "PokerEvening" ∈ p_N := p_inN 476 (by decide +kernel) rfl
theorem w_f_RX7_118 : Cond.fieldLinkNest RX7 118 "PokerEvening$Room" "truth" "I" "PokerEvening" ∈ p_N := p_inN 153 (by decide +kernel) rfl
theorem w_m_RX7_121 : Cond.methodLink RX7 121 yX7_bit ∈ p_T := p_in 477 (by decide +kernel) rfl
theorem w_c_X2_isClaim : Cond.code yX2_isClaim cX2_isClaim 2 (some .boolean) ∈ p_T := p_in 487 (by decide +kernel) rfl
theorem w_i_X2_isClaim : Cond.instanceMethod yX2_isClaim ∈ p_T := p_in 486 (by decide +kernel) rfl
theorem w_e_X2_isClaim : Cond.selects RX2 yX2_isClaim yX2_isClaim ∈ p_T := p_in 17 (by decide +kernel) rfl
theorem w_m_RX7_125 : Cond.methodLinkNest RX7 125 yX2_isClaim "PokerEvening" ∈ p_N := p_inN 484 (by decide +kernel) rfl
theorem w_f_RX7_128 : Cond.fieldLinkNest RX7 128 "PokerEvening$Room" "tellerOf" "[I" "PokerEvening" ∈ p_N := p_inN 136 (by decide +kernel) rfl
theorem w_f_RX7_131 : Cond.fieldLinkNest RX7 131 "PokerEvening$Room" "factOf" "[I" "PokerEvening" ∈ p_N := p_inN 138 (by decide +kernel) rfl
theorem w_f_RX7_134 : Cond.fieldLinkNest RX7 134 "PokerEvening$Room" "valueOf" "[I" "PokerEvening" ∈ p_N := p_inN 140 (by decide +kernel) rfl
theorem w_f_RX7_137 : Cond.fieldLinkNest RX7 137 "PokerEvening$Room" "weightOf" "[I" "PokerEvening" ∈ p_N := p_inN 143 (by decide +kernel) rfl
theorem w_m_RX7_140 : Cond.methodLinkNest RX7 140 yX2_isFalse "PokerEvening" ∈ p_N := p_inN 488 (by decide +kernel) rfl
theorem w_c_X4_push : Cond.code yX4_push cX4_push 3 none ∈ p_T := p_in 501 (by decide +kernel) rfl
theorem w_i_X4_push : Cond.instanceMethod yX4_push ∈ p_T := p_in 500 (by decide +kernel) rfl
theorem w_e_X4_push : Cond.selects RX4 yX4_push yX4_push ∈ p_T := p_in 19 (by decide +kernel) rfl
theorem w_m_RX7_143 : Cond.methodLinkNest RX7 143 yX4_push "PokerEvening" ∈ p_N := p_inN 498 (by decide +kernel) rfl
theorem w_c_X2_turnFact : Cond.code yX2_turnFact cX2_turnFact 2 none ∈ p_T := p_in 514 (by decide +kernel) rfl
theorem w_i_X2_turnFact : Cond.instanceMethod yX2_turnFact ∈ p_T := p_in 513 (by decide +kernel) rfl
theorem w_e_X2_turnFact : Cond.selects RX2 yX2_turnFact yX2_turnFact ∈ p_T := p_in 22 (by decide +kernel) rfl
theorem w_m_RX7_146 : Cond.methodLinkNest RX7 146 yX2_turnFact "PokerEvening" ∈ p_N := p_inN 511 (by decide +kernel) rfl
theorem w_m_RX7_149 : Cond.methodLinkNest RX7 149 yX2_allowsClaim "PokerEvening" ∈ p_N := p_inN 519 (by decide +kernel) rfl
theorem w_f_RX7_153 : Cond.fieldLinkNest RX7 153 "PokerEvening$Room" "claimCount" "I" "PokerEvening" ∈ p_N := p_inN 151 (by decide +kernel) rfl
theorem w_m_RX7_156 : Cond.methodLinkNest RX7 156 yX2_addClaim "PokerEvening" ∈ p_N := p_inN 520 (by decide +kernel) rfl
theorem w_c_X2_removeClaim : Cond.code yX2_removeClaim cX2_removeClaim 2 none ∈ p_T := p_in 528 (by decide +kernel) rfl
theorem w_i_X2_removeClaim : Cond.instanceMethod yX2_removeClaim ∈ p_T := p_in 527 (by decide +kernel) rfl
theorem w_e_X2_removeClaim : Cond.selects RX2 yX2_removeClaim yX2_removeClaim ∈ p_T := p_in 23 (by decide +kernel) rfl
theorem w_m_RX7_159 : Cond.methodLinkNest RX7 159 yX2_removeClaim "PokerEvening" ∈ p_N := p_inN 525 (by decide +kernel) rfl
theorem w_m_RX7_162 : Cond.methodLinkNest RX7 162 yX2_moveClaim "PokerEvening" ∈ p_N := p_inN 541 (by decide +kernel) rfl
theorem w_m_RX7_166 : Cond.methodLink RX7 166 yX7_put ∈ p_T := p_in 536 (by decide +kernel) rfl
theorem w_c_X4_popInto : Cond.code yX4_popInto cX4_popInto 3 (some .boolean) ∈ p_T := p_in 553 (by decide +kernel) rfl
theorem w_i_X4_popInto : Cond.instanceMethod yX4_popInto ∈ p_T := p_in 552 (by decide +kernel) rfl
theorem w_e_X4_popInto : Cond.selects RX4 yX4_popInto yX4_popInto ∈ p_T := p_in 25 (by decide +kernel) rfl
theorem w_m_RX7_170 : Cond.methodLinkNest RX7 170 yX4_popInto "PokerEvening" ∈ p_N := p_inN 550 (by decide +kernel) rfl
theorem w_f_RX7_174 : Cond.fieldLinkNest RX7 174 "PokerEvening$Shelf" "size" "I" "PokerEvening" ∈ p_N := p_inN 278 (by decide +kernel) rfl
theorem w_f_RX7_29 : Cond.fieldLink RX7 29 "PokerEvening" "evening" "LPokerEvening$Evening;" ∈ p_T := p_in 405 (by decide +kernel) rfl
theorem w_c_X0_hold : Cond.code yX0_hold cX0_hold 5 none ∈ p_T := p_in 561 (by decide +kernel) rfl
theorem w_i_X0_hold : Cond.instanceMethod yX0_hold ∈ p_T := p_in 560 (by decide +kernel) rfl
theorem w_e_X0_hold : Cond.selects RX0 yX0_hold yX0_hold ∈ p_T := p_in 26 (by decide +kernel) rfl
theorem w_m_RX7_177 : Cond.methodLinkNest RX7 177 yX0_hold "PokerEvening" ∈ p_N := p_inN 558 (by decide +kernel) rfl
theorem w_f_RX7_180 : Cond.fieldLinkNest RX7 180 "PokerEvening$Evening" "dropOf" "[I" "PokerEvening" ∈ p_N := p_inN 211 (by decide +kernel) rfl
theorem w_f_RX7_183 : Cond.fieldLinkNest RX7 183 "PokerEvening$Evening" "iron" "LPokerEvening$Iron;" "PokerEvening" ∈ p_N := p_inN 206 (by decide +kernel) rfl
theorem w_f_RX7_187 : Cond.fieldLinkNest RX7 187 "PokerEvening$Iron" "told" "I" "PokerEvening" ∈ p_N := p_inN 191 (by decide +kernel) rfl
theorem w_f_RX7_192 : Cond.fieldLinkNest RX7 192 "PokerEvening$Evening" "hotOf" "[I" "PokerEvening" ∈ p_N := p_inN 208 (by decide +kernel) rfl
theorem w_f_RX7_195 : Cond.fieldLinkNest RX7 195 "PokerEvening$Evening" "most" "I" "PokerEvening" ∈ p_N := p_inN 213 (by decide +kernel) rfl
theorem w_f_RX7_36 : Cond.fieldLink RX7 36 "PokerEvening" "search" "LPokerEvening$Search;" ∈ p_T := p_in 406 (by decide +kernel) rfl
theorem w_c_X3_run : Cond.code yX3_run cX3_run 3 none ∈ p_T := p_in 602 (by decide +kernel) rfl
theorem w_i_X3_run : Cond.instanceMethod yX3_run ∈ p_T := p_in 601 (by decide +kernel) rfl
theorem w_e_X3_run : Cond.selects RX3 yX3_run yX3_run ∈ p_T := p_in 30 (by decide +kernel) rfl
theorem w_m_RX7_198 : Cond.methodLinkNest RX7 198 yX3_run "PokerEvening" ∈ p_N := p_inN 599 (by decide +kernel) rfl
theorem w_f_RX7_201 : Cond.fieldLinkNest RX7 201 "PokerEvening$Search" "most" "I" "PokerEvening" ∈ p_N := p_inN 237 (by decide +kernel) rfl
theorem w_f_RX7_202 : Cond.fieldLinkNest RX7 202 "PokerEvening$Search" "best" "[I" "PokerEvening" ∈ p_N := p_inN 235 (by decide +kernel) rfl
theorem w_c_X7_fewestLeft : Cond.code yX7_fewestLeft cX7_fewestLeft 5 (some .int) ∈ p_T := p_in 637 (by decide +kernel) rfl
theorem w_i_X7_fewestLeft : Cond.instanceMethod yX7_fewestLeft ∈ p_T := p_in 636 (by decide +kernel) rfl
theorem w_e_X7_fewestLeft : Cond.selects RX7 yX7_fewestLeft yX7_fewestLeft ∈ p_T := p_in 34 (by decide +kernel) rfl
theorem w_m_RX7_205 : Cond.methodLink RX7 205 yX7_fewestLeft ∈ p_T := p_in 634 (by decide +kernel) rfl
theorem w_m_RX7_209 : Cond.methodLink RX7 209 yJ6_bitCount_0f7a4 ∈ p_T := p_in 638 (by decide +kernel) rfl
theorem w_c_X7_goneIfHeldBy : Cond.code yX7_goneIfHeldBy cX7_goneIfHeldBy 4 (some .int) ∈ p_T := p_in 652 (by decide +kernel) rfl
theorem w_i_X7_goneIfHeldBy : Cond.instanceMethod yX7_goneIfHeldBy ∈ p_T := p_in 651 (by decide +kernel) rfl
theorem w_e_X7_goneIfHeldBy : Cond.selects RX7 yX7_goneIfHeldBy yX7_goneIfHeldBy ∈ p_T := p_in 36 (by decide +kernel) rfl
theorem w_m_RX7_214 : Cond.methodLink RX7 214 yX7_goneIfHeldBy ∈ p_T := p_in 649 (by decide +kernel) rfl
theorem w_c_X5_note : Cond.code yX5_note cX5_note 3 (some .boolean) ∈ p_T := p_in 660 (by decide +kernel) rfl
theorem w_i_X5_note : Cond.instanceMethod yX5_note ∈ p_T := p_in 659 (by decide +kernel) rfl
theorem w_e_X5_note : Cond.selects RX5 yX5_note yX5_note ∈ p_T := p_in 37 (by decide +kernel) rfl
theorem w_m_RX7_217 : Cond.methodLinkNest RX7 217 yX5_note "PokerEvening" ∈ p_N := p_inN 657 (by decide +kernel) rfl
theorem w_f_RX7_221 : Cond.fieldLinkNest RX7 221 "PokerEvening$Sights" "size" "I" "PokerEvening" ∈ p_N := p_inN 256 (by decide +kernel) rfl
theorem w_c_X7_fittingWorlds : Cond.code yX7_fittingWorlds cX7_fittingWorlds 4 (some .long) ∈ p_T := p_in 673 (by decide +kernel) rfl
theorem w_i_X7_fittingWorlds : Cond.instanceMethod yX7_fittingWorlds ∈ p_T := p_in 672 (by decide +kernel) rfl
theorem w_e_X7_fittingWorlds : Cond.selects RX7 yX7_fittingWorlds yX7_fittingWorlds ∈ p_T := p_in 38 (by decide +kernel) rfl
theorem w_m_RX7_222 : Cond.methodLink RX7 222 yX7_fittingWorlds ∈ p_T := p_in 670 (by decide +kernel) rfl
theorem w_c_J13_bitCount : Cond.code yJ13_bitCount_95d88 cJ13_bitCount_95d88 2 (some .int) ∈ p_T := p_in 689 (by decide +kernel) rfl
theorem w_s_J13_bitCount : Cond.static yJ13_bitCount_95d88 ∈ p_T := p_in 688 (by decide +kernel) rfl
theorem w_I_RJ13 : Cond.initialized RJ13 ∈ p_T := p_in 90 (by decide +kernel) rfl
theorem w_m_RX7_226 : Cond.methodLink RX7 226 yJ13_bitCount_95d88 ∈ p_T := p_in 687 (by decide +kernel) rfl
theorem w_c_X7_lowestWorld : Cond.code yX7_lowestWorld cX7_lowestWorld 4 (some .int) ∈ p_T := p_in 696 (by decide +kernel) rfl
theorem w_i_X7_lowestWorld : Cond.instanceMethod yX7_lowestWorld ∈ p_T := p_in 695 (by decide +kernel) rfl
theorem w_e_X7_lowestWorld : Cond.selects RX7 yX7_lowestWorld yX7_lowestWorld ∈ p_T := p_in 42 (by decide +kernel) rfl
theorem w_m_RX7_231 : Cond.methodLink RX7 231 yX7_lowestWorld ∈ p_T := p_in 693 (by decide +kernel) rfl
theorem w_c_X7_sureFacts : Cond.code yX7_sureFacts cX7_sureFacts 6 (some .int) ∈ p_T := p_in 703 (by decide +kernel) rfl
theorem w_i_X7_sureFacts : Cond.instanceMethod yX7_sureFacts ∈ p_T := p_in 702 (by decide +kernel) rfl
theorem w_e_X7_sureFacts : Cond.selects RX7 yX7_sureFacts yX7_sureFacts ∈ p_T := p_in 43 (by decide +kernel) rfl
theorem w_m_RX7_234 : Cond.methodLink RX7 234 yX7_sureFacts ∈ p_T := p_in 700 (by decide +kernel) rfl
theorem w_c_X2_worldCount : Cond.code yX2_worldCount cX2_worldCount 1 (some .int) ∈ p_T := p_in 677 (by decide +kernel) rfl
theorem w_i_X2_worldCount : Cond.instanceMethod yX2_worldCount ∈ p_T := p_in 676 (by decide +kernel) rfl
theorem w_e_X2_worldCount : Cond.selects RX2 yX2_worldCount yX2_worldCount ∈ p_T := p_in 39 (by decide +kernel) rfl
theorem w_m_RX7_238 : Cond.methodLinkNest RX7 238 yX2_worldCount "PokerEvening" ∈ p_N := p_inN 674 (by decide +kernel) rfl
theorem w_c_X7_worldsOfDrop : Cond.code yX7_worldsOfDrop cX7_worldsOfDrop 8 (some .int) ∈ p_T := p_in 711 (by decide +kernel) rfl
theorem w_i_X7_worldsOfDrop : Cond.instanceMethod yX7_worldsOfDrop ∈ p_T := p_in 710 (by decide +kernel) rfl
theorem w_e_X7_worldsOfDrop : Cond.selects RX7 yX7_worldsOfDrop yX7_worldsOfDrop ∈ p_T := p_in 44 (by decide +kernel) rfl
theorem w_m_RX7_241 : Cond.methodLink RX7 241 yX7_worldsOfDrop ∈ p_T := p_in 708 (by decide +kernel) rfl
theorem w_m_RX7_245 : Cond.methodLink RX7 245 Lib.Math.max.name ∈ p_T := p_in 712 (by decide +kernel) rfl
theorem w_c_X7_fits : Cond.code yX7_fits cX7_fits 2 (some .boolean) ∈ p_T := p_in 681 (by decide +kernel) rfl
theorem w_i_X7_fits : Cond.instanceMethod yX7_fits ∈ p_T := p_in 680 (by decide +kernel) rfl
theorem w_e_X7_fits : Cond.selects RX7 yX7_fits yX7_fits ∈ p_T := p_in 40 (by decide +kernel) rfl
theorem w_m_RX7_250 : Cond.methodLink RX7 250 yX7_fits ∈ p_T := p_in 678 (by decide +kernel) rfl
theorem w_c_X7_chanceOf : Cond.code yX7_chanceOf cX7_chanceOf 5 (some .int) ∈ p_T := p_in 728 (by decide +kernel) rfl
theorem w_i_X7_chanceOf : Cond.instanceMethod yX7_chanceOf ∈ p_T := p_in 727 (by decide +kernel) rfl
theorem w_e_X7_chanceOf : Cond.selects RX7 yX7_chanceOf yX7_chanceOf ∈ p_T := p_in 45 (by decide +kernel) rfl
theorem w_m_RX7_253 : Cond.methodLink RX7 253 yX7_chanceOf ∈ p_T := p_in 725 (by decide +kernel) rfl
theorem w_f_RX7_256 : Cond.fieldLinkNest RX7 256 "PokerEvening$Iron" "gone" "I" "PokerEvening" ∈ p_N := p_inN 195 (by decide +kernel) rfl
theorem w_c_X7_greatestDivisor : Cond.code yX7_greatestDivisor cX7_greatestDivisor 4 (some .int) ∈ p_T := p_in 731 (by decide +kernel) rfl
theorem w_s_X7_greatestDivisor : Cond.static yX7_greatestDivisor ∈ p_T := p_in 730 (by decide +kernel) rfl
theorem w_m_RX7_259 : Cond.methodLink RX7 259 yX7_greatestDivisor ∈ p_T := p_in 729 (by decide +kernel) rfl
theorem w_c_X7_draw : Cond.code yX7_draw cX7_draw 4 (some .int) ∈ p_T := p_in 738 (by decide +kernel) rfl
theorem w_s_X7_draw : Cond.static yX7_draw ∈ p_T := p_in 737 (by decide +kernel) rfl
theorem w_m_RX7_262 : Cond.methodLink RX7 262 yX7_draw ∈ p_T := p_in 736 (by decide +kernel) rfl
theorem w_c_X7_stir : Cond.code yX7_stir cX7_stir 2 none ∈ p_T := p_in 745 (by decide +kernel) rfl
theorem w_s_X7_stir : Cond.static yX7_stir ∈ p_T := p_in 744 (by decide +kernel) rfl
theorem w_m_RX7_265 : Cond.methodLink RX7 265 yX7_stir ∈ p_T := p_in 743 (by decide +kernel) rfl
theorem w_c_X2_falseClaims : Cond.code yX2_falseClaims cX2_falseClaims 3 (some .int) ∈ p_T := p_in 761 (by decide +kernel) rfl
theorem w_i_X2_falseClaims : Cond.instanceMethod yX2_falseClaims ∈ p_T := p_in 760 (by decide +kernel) rfl
theorem w_e_X2_falseClaims : Cond.selects RX2 yX2_falseClaims yX2_falseClaims ∈ p_T := p_in 46 (by decide +kernel) rfl
theorem w_m_RX7_269 : Cond.methodLinkNest RX7 269 yX2_falseClaims "PokerEvening" ∈ p_N := p_inN 758 (by decide +kernel) rfl
theorem w_c_X7_told : Cond.code yX7_told cX7_told 1 (some .int) ∈ p_T := p_in 586 (by decide +kernel) rfl
theorem w_i_X7_told : Cond.instanceMethod yX7_told ∈ p_T := p_in 584 (by decide +kernel) rfl
theorem w_e_X7_told : Cond.selects RX7 yX7_told yX7_told ∈ p_T := p_in 585 (by decide +kernel) rfl
theorem w_m_RX7_272 : Cond.methodLink RX7 272 yX7_told ∈ p_T := p_in 763 (by decide +kernel) rfl
theorem w_c_X7_goneTonight : Cond.code yX7_goneTonight cX7_goneTonight 1 (some .int) ∈ p_T := p_in 767 (by decide +kernel) rfl
theorem w_i_X7_goneTonight : Cond.instanceMethod yX7_goneTonight ∈ p_T := p_in 766 (by decide +kernel) rfl
theorem w_e_X7_goneTonight : Cond.selects RX7 yX7_goneTonight yX7_goneTonight ∈ p_T := p_in 47 (by decide +kernel) rfl
theorem w_m_RX7_274 : Cond.methodLink RX7 274 yX7_goneTonight ∈ p_T := p_in 764 (by decide +kernel) rfl
theorem w_c_X7_letsGoWithout : Cond.code yX7_letsGoWithout cX7_letsGoWithout 5 (some .boolean) ∈ p_T := p_in 642 (by decide +kernel) rfl
theorem w_i_X7_letsGoWithout : Cond.instanceMethod yX7_letsGoWithout ∈ p_T := p_in 641 (by decide +kernel) rfl
theorem w_e_X7_letsGoWithout : Cond.selects RX7 yX7_letsGoWithout yX7_letsGoWithout ∈ p_T := p_in 35 (by decide +kernel) rfl
theorem w_m_RX7_277 : Cond.methodLink RX7 277 yX7_letsGoWithout ∈ p_T := p_in 639 (by decide +kernel) rfl
theorem w_m_RX7_280 : Cond.methodLinkNest RX7 280 yX1_cool "PokerEvening" ∈ p_N := p_inN 643 (by decide +kernel) rfl
theorem w_m_RX7_283 : Cond.methodLinkNest RX7 283 yX1_take "PokerEvening" ∈ p_N := p_inN 644 (by decide +kernel) rfl
theorem w_c_X5_agreeWith : Cond.code yX5_agreeWith cX5_agreeWith 3 (some .boolean) ∈ p_T := p_in 685 (by decide +kernel) rfl
theorem w_i_X5_agreeWith : Cond.instanceMethod yX5_agreeWith ∈ p_T := p_in 684 (by decide +kernel) rfl
theorem w_e_X5_agreeWith : Cond.selects RX5 yX5_agreeWith yX5_agreeWith ∈ p_T := p_in 41 (by decide +kernel) rfl
theorem w_m_RX7_287 : Cond.methodLinkNest RX7 287 yX5_agreeWith "PokerEvening" ∈ p_N := p_inN 682 (by decide +kernel) rfl
theorem w_c_X7_isIn : Cond.code yX7_isIn cX7_isIn 3 (some .boolean) ∈ p_T := p_in 699 (by decide +kernel) rfl
theorem w_s_X7_isIn : Cond.static yX7_isIn ∈ p_T := p_in 698 (by decide +kernel) rfl
theorem w_m_RX7_291 : Cond.methodLink RX7 291 yX7_isIn ∈ p_T := p_in 697 (by decide +kernel) rfl
theorem w_l_RX7_295 : Cond.constantLong RX7 295 (7919) ∈ p_T := p_in 739 (by decide +kernel) rfl
theorem w_l_RX7_297 : Cond.constantLong RX7 297 (6151) ∈ p_T := p_in 740 (by decide +kernel) rfl
theorem w_l_RX7_299 : Cond.constantLong RX7 299 (65521) ∈ p_T := p_in 741 (by decide +kernel) rfl
theorem w_l_RX7_301 : Cond.constantLong RX7 301 (2) ∈ p_T := p_in 742 (by decide +kernel) rfl
theorem w_m_RX7_303 : Cond.methodLink RX7 303 Lib.Math.min.name ∈ p_T := p_in 452 (by decide +kernel) rfl
theorem w_s_mmin : Cond.static Lib.Math.min.name ∈ p_T := p_in 453 (by decide +kernel) rfl
theorem w_c_mmin : Cond.code Lib.Math.min.name Lib.Math.min.code 2 (some .int) ∈ p_T := p_in 454 (by decide +kernel) rfl
theorem w_m_RX7_306 : Cond.methodLink RX7 306 arraycopyName ∈ p_T := p_in 455 (by decide +kernel) rfl
theorem w_acn : Cond.native arraycopyName ∈ p_T := p_in 457 (by decide +kernel) rfl
theorem w_acs : Cond.static arraycopyName ∈ p_T := p_in 456 (by decide +kernel) rfl
theorem w_I_Sys : Cond.initialized "java/lang/System" ∈ p_T := p_in 88 (by decide +kernel) rfl
theorem w_f_RX8_9 : Cond.fieldLink RX8 9 "PokerEveningModel" "kindOf" "[I" ∈ p_T := p_in 786 (by decide +kernel) rfl
theorem w_f_RX8_88 : Cond.fieldLink RX8 88 "PokerEveningModel" "tellers" "I" ∈ p_T := p_in 782 (by decide +kernel) rfl
theorem w_f_RX8_13 : Cond.fieldLink RX8 13 "PokerEveningModel" "gripOf" "[I" ∈ p_T := p_in 787 (by decide +kernel) rfl
theorem w_f_RX8_16 : Cond.fieldLink RX8 16 "PokerEveningModel" "who" "[I" ∈ p_T := p_in 788 (by decide +kernel) rfl
theorem w_f_RX8_19 : Cond.fieldLink RX8 19 "PokerEveningModel" "what" "[I" ∈ p_T := p_in 789 (by decide +kernel) rfl
theorem w_f_RX8_22 : Cond.fieldLink RX8 22 "PokerEveningModel" "side" "[I" ∈ p_T := p_in 790 (by decide +kernel) rfl
theorem w_f_RX8_25 : Cond.fieldLink RX8 25 "PokerEveningModel" "weight" "[I" ∈ p_T := p_in 791 (by decide +kernel) rfl
theorem w_c_X8_sets : Cond.code yX8_sets cX8_sets 6 none ∈ p_T := p_in 781 (by decide +kernel) rfl
theorem w_i_X8_sets : Cond.instanceMethod yX8_sets ∈ p_T := p_in 780 (by decide +kernel) rfl
theorem w_e_X8_sets : Cond.selects RX8 yX8_sets yX8_sets ∈ p_T := p_in 49 (by decide +kernel) rfl
theorem w_I_RX8 : Cond.initialized RX8 ∈ p_T := p_in 87 (by decide +kernel) rfl
theorem w_m_RX8_81 : Cond.methodLink RX8 81 yX8_sets ∈ p_T := p_in 778 (by decide +kernel) rfl
theorem w_c_X8_in : Cond.code yX8_in cX8_in 3 (some .boolean) ∈ p_T := p_in 894 (by decide +kernel) rfl
theorem w_s_X8_in : Cond.static yX8_in ∈ p_T := p_in 893 (by decide +kernel) rfl
theorem w_m_RX8_91 : Cond.methodLink RX8 91 yX8_in ∈ p_T := p_in 892 (by decide +kernel) rfl
theorem w_f_RX8_74 : Cond.fieldLink RX8 74 "PokerEveningModel" "factMany" "I" ∈ p_T := p_in 783 (by decide +kernel) rfl
theorem w_f_RX8_85 : Cond.fieldLink RX8 85 "PokerEveningModel" "claims" "I" ∈ p_T := p_in 784 (by decide +kernel) rfl
theorem w_f_RX8_95 : Cond.fieldLink RX8 95 "PokerEveningModel" "size" "I" ∈ p_T := p_in 796 (by decide +kernel) rfl
theorem w_f_RX8_34 : Cond.fieldLink RX8 34 "PokerEveningModel" "text" "[I" ∈ p_T := p_in 795 (by decide +kernel) rfl
theorem w_f_RX8_98 : Cond.fieldLink RX8 98 "PokerEveningModel" "readAt" "I" ∈ p_T := p_in 797 (by decide +kernel) rfl
theorem w_c_X8_here : Cond.code yX8_here cX8_here 1 (some .int) ∈ p_T := p_in 910 (by decide +kernel) rfl
theorem w_i_X8_here : Cond.instanceMethod yX8_here ∈ p_T := p_in 909 (by decide +kernel) rfl
theorem w_e_X8_here : Cond.selects RX8 yX8_here yX8_here ∈ p_T := p_in 51 (by decide +kernel) rfl
theorem w_m_RX8_101 : Cond.methodLink RX8 101 yX8_here ∈ p_T := p_in 907 (by decide +kernel) rfl
theorem w_c_X8_isFigure : Cond.code yX8_isFigure cX8_isFigure 1 (some .boolean) ∈ p_T := p_in 922 (by decide +kernel) rfl
theorem w_i_X8_isFigure : Cond.instanceMethod yX8_isFigure ∈ p_T := p_in 921 (by decide +kernel) rfl
theorem w_e_X8_isFigure : Cond.selects RX8 yX8_isFigure yX8_isFigure ∈ p_T := p_in 54 (by decide +kernel) rfl
theorem w_m_RX8_105 : Cond.methodLink RX8 105 yX8_isFigure ∈ p_T := p_in 919 (by decide +kernel) rfl
theorem w_f_RX8_109 : Cond.fieldLink RX8 109 "PokerEveningModel" "readNumber" "I" ∈ p_T := p_in 805 (by decide +kernel) rfl
theorem w_f_RX8_112 : Cond.fieldLink RX8 112 "PokerEveningModel" "readTellers" "I" ∈ p_T := p_in 798 (by decide +kernel) rfl
theorem w_c_X8_number : Cond.code yX8_number cX8_number 5 (some .boolean) ∈ p_T := p_in 918 (by decide +kernel) rfl
theorem w_i_X8_number : Cond.instanceMethod yX8_number ∈ p_T := p_in 917 (by decide +kernel) rfl
theorem w_e_X8_number : Cond.selects RX8 yX8_number yX8_number ∈ p_T := p_in 53 (by decide +kernel) rfl
theorem w_m_RX8_115 : Cond.methodLink RX8 115 yX8_number ∈ p_T := p_in 915 (by decide +kernel) rfl
theorem w_f_RX8_37 : Cond.fieldLink RX8 37 "PokerEveningModel" "readKinds" "[I" ∈ p_T := p_in 801 (by decide +kernel) rfl
theorem w_f_RX8_40 : Cond.fieldLink RX8 40 "PokerEveningModel" "readGrips" "[I" ∈ p_T := p_in 802 (by decide +kernel) rfl
theorem w_f_RX8_118 : Cond.fieldLink RX8 118 "PokerEveningModel" "readFacts" "I" ∈ p_T := p_in 799 (by decide +kernel) rfl
theorem w_f_RX8_43 : Cond.fieldLink RX8 43 "PokerEveningModel" "readSo" "[I" ∈ p_T := p_in 803 (by decide +kernel) rfl
theorem w_f_RX8_121 : Cond.fieldLink RX8 121 "PokerEveningModel" "readClaims" "I" ∈ p_T := p_in 800 (by decide +kernel) rfl
theorem w_f_RX8_46 : Cond.fieldLink RX8 46 "PokerEveningModel" "readClaim" "[I" ∈ p_T := p_in 804 (by decide +kernel) rfl
theorem w_c_X8_readsTeller : Cond.code yX8_readsTeller cX8_readsTeller 2 (some .boolean) ∈ p_T := p_in 914 (by decide +kernel) rfl
theorem w_i_X8_readsTeller : Cond.instanceMethod yX8_readsTeller ∈ p_T := p_in 913 (by decide +kernel) rfl
theorem w_e_X8_readsTeller : Cond.selects RX8 yX8_readsTeller yX8_readsTeller ∈ p_T := p_in 52 (by decide +kernel) rfl
theorem w_m_RX8_124 : Cond.methodLink RX8 124 yX8_readsTeller ∈ p_T := p_in 911 (by decide +kernel) rfl
theorem w_c_X8_readsFact : Cond.code yX8_readsFact cX8_readsFact 1 (some .boolean) ∈ p_T := p_in 926 (by decide +kernel) rfl
theorem w_i_X8_readsFact : Cond.instanceMethod yX8_readsFact ∈ p_T := p_in 925 (by decide +kernel) rfl
theorem w_e_X8_readsFact : Cond.selects RX8 yX8_readsFact yX8_readsFact ∈ p_T := p_in 55 (by decide +kernel) rfl
theorem w_m_RX8_127 : Cond.methodLink RX8 127 yX8_readsFact ∈ p_T := p_in 923 (by decide +kernel) rfl
theorem w_c_X8_readsClaim : Cond.code yX8_readsClaim cX8_readsClaim 1 (some .boolean) ∈ p_T := p_in 930 (by decide +kernel) rfl
theorem w_i_X8_readsClaim : Cond.instanceMethod yX8_readsClaim ∈ p_T := p_in 929 (by decide +kernel) rfl
theorem w_e_X8_readsClaim : Cond.selects RX8 yX8_readsClaim yX8_readsClaim ∈ p_T := p_in 56 (by decide +kernel) rfl
theorem w_m_RX8_130 : Cond.methodLink RX8 130 yX8_readsClaim ∈ p_T := p_in 927 (by decide +kernel) rfl
theorem w_c_X8_readsItem : Cond.code yX8_readsItem cX8_readsItem 2 (some .boolean) ∈ p_T := p_in 906 (by decide +kernel) rfl
theorem w_i_X8_readsItem : Cond.instanceMethod yX8_readsItem ∈ p_T := p_in 905 (by decide +kernel) rfl
theorem w_e_X8_readsItem : Cond.selects RX8 yX8_readsItem yX8_readsItem ∈ p_T := p_in 50 (by decide +kernel) rfl
theorem w_m_RX8_133 : Cond.methodLink RX8 133 yX8_readsItem ∈ p_T := p_in 903 (by decide +kernel) rfl
theorem w_c_X8_fault : Cond.code yX8_fault cX8_fault 2 (some .int) ∈ p_T := p_in 902 (by decide +kernel) rfl
theorem w_i_X8_fault : Cond.instanceMethod yX8_fault ∈ p_T := p_in 900 (by decide +kernel) rfl
theorem w_e_X8_fault : Cond.selects RX8 yX8_fault yX8_fault ∈ p_T := p_in 901 (by decide +kernel) rfl
theorem w_m_RX8_136 : Cond.methodLink RX8 136 yX8_fault ∈ p_T := p_in 935 (by decide +kernel) rfl
theorem w_f_RX8_78 : Cond.fieldLink RX8 78 "PokerEveningModel" "facts" "I" ∈ p_T := p_in 785 (by decide +kernel) rfl
theorem w_f_RX8_139 : Cond.fieldLink RX8 139 "PokerEveningModel" "seenMany" "I" ∈ p_T := p_in 792 (by decide +kernel) rfl
theorem w_f_RX8_142 : Cond.fieldLink RX8 142 "PokerEveningModel" "undoMany" "I" ∈ p_T := p_in 812 (by decide +kernel) rfl
theorem w_f_RX8_145 : Cond.fieldLink RX8 145 "PokerEveningModel" "keptMany" "I" ∈ p_T := p_in 816 (by decide +kernel) rfl
theorem w_f_RX8_52 : Cond.fieldLink RX8 52 "PokerEveningModel" "letsGo" "[I" ∈ p_T := p_in 807 (by decide +kernel) rfl
theorem w_f_RX8_55 : Cond.fieldLink RX8 55 "PokerEveningModel" "hotOf" "[I" ∈ p_T := p_in 808 (by decide +kernel) rfl
theorem w_f_RX8_148 : Cond.fieldLink RX8 148 "PokerEveningModel" "toldSet" "I" ∈ p_T := p_in 809 (by decide +kernel) rfl
theorem w_f_RX8_151 : Cond.fieldLink RX8 151 "PokerEveningModel" "most" "I" ∈ p_T := p_in 810 (by decide +kernel) rfl
theorem w_f_RX8_49 : Cond.fieldLink RX8 49 "PokerEveningModel" "row" "[I" ∈ p_T := p_in 806 (by decide +kernel) rfl
theorem w_c_X8_isFalse : Cond.code yX8_isFalse cX8_isFalse 2 (some .boolean) ∈ p_T := p_in 963 (by decide +kernel) rfl
theorem w_i_X8_isFalse : Cond.instanceMethod yX8_isFalse ∈ p_T := p_in 962 (by decide +kernel) rfl
theorem w_e_X8_isFalse : Cond.selects RX8 yX8_isFalse yX8_isFalse ∈ p_T := p_in 60 (by decide +kernel) rfl
theorem w_m_RX8_154 : Cond.methodLink RX8 154 yX8_isFalse ∈ p_T := p_in 960 (by decide +kernel) rfl
theorem w_c_X8_hotter : Cond.code yX8_hotter cX8_hotter 4 (some .int) ∈ p_T := p_in 1025 (by decide +kernel) rfl
theorem w_s_X8_hotter : Cond.static yX8_hotter ∈ p_T := p_in 1024 (by decide +kernel) rfl
theorem w_m_RX8_158 : Cond.methodLink RX8 158 yX8_hotter ∈ p_T := p_in 1023 (by decide +kernel) rfl
theorem w_c_X8_has : Cond.code yX8_has cX8_has 2 (some .boolean) ∈ p_T := p_in 1018 (by decide +kernel) rfl
theorem w_s_X8_has : Cond.static yX8_has ∈ p_T := p_in 1017 (by decide +kernel) rfl
theorem w_m_RX8_162 : Cond.methodLink RX8 162 yX8_has ∈ p_T := p_in 1016 (by decide +kernel) rfl
theorem w_c_X8_evening : Cond.code yX8_evening cX8_evening 7 none ∈ p_T := p_in 1022 (by decide +kernel) rfl
theorem w_i_X8_evening : Cond.instanceMethod yX8_evening ∈ p_T := p_in 1021 (by decide +kernel) rfl
theorem w_e_X8_evening : Cond.selects RX8 yX8_evening yX8_evening ∈ p_T := p_in 67 (by decide +kernel) rfl
theorem w_m_RX8_166 : Cond.methodLink RX8 166 yX8_evening ∈ p_T := p_in 1019 (by decide +kernel) rfl
theorem w_c_X8_isTeller : Cond.code yX8_isTeller cX8_isTeller 2 (some .boolean) ∈ p_T := p_in 943 (by decide +kernel) rfl
theorem w_i_X8_isTeller : Cond.instanceMethod yX8_isTeller ∈ p_T := p_in 942 (by decide +kernel) rfl
theorem w_e_X8_isTeller : Cond.selects RX8 yX8_isTeller yX8_isTeller ∈ p_T := p_in 57 (by decide +kernel) rfl
theorem w_m_RX8_170 : Cond.methodLink RX8 170 yX8_isTeller ∈ p_T := p_in 940 (by decide +kernel) rfl
theorem w_c_X8_isFact : Cond.code yX8_isFact cX8_isFact 2 (some .boolean) ∈ p_T := p_in 951 (by decide +kernel) rfl
theorem w_i_X8_isFact : Cond.instanceMethod yX8_isFact ∈ p_T := p_in 950 (by decide +kernel) rfl
theorem w_e_X8_isFact : Cond.selects RX8 yX8_isFact yX8_isFact ∈ p_T := p_in 58 (by decide +kernel) rfl
theorem w_m_RX8_173 : Cond.methodLink RX8 173 yX8_isFact ∈ p_T := p_in 948 (by decide +kernel) rfl
theorem w_c_X8_isClaim : Cond.code yX8_isClaim cX8_isClaim 2 (some .boolean) ∈ p_T := p_in 959 (by decide +kernel) rfl
theorem w_i_X8_isClaim : Cond.instanceMethod yX8_isClaim ∈ p_T := p_in 958 (by decide +kernel) rfl
theorem w_e_X8_isClaim : Cond.selects RX8 yX8_isClaim yX8_isClaim ∈ p_T := p_in 59 (by decide +kernel) rfl
theorem w_m_RX8_176 : Cond.methodLink RX8 176 yX8_isClaim ∈ p_T := p_in 956 (by decide +kernel) rfl
theorem w_f_RX8_58 : Cond.fieldLink RX8 58 "PokerEveningModel" "ahead" "[I" ∈ p_T := p_in 811 (by decide +kernel) rfl
theorem w_c_X8_lays : Cond.code yX8_lays cX8_lays 4 none ∈ p_T := p_in 975 (by decide +kernel) rfl
theorem w_i_X8_lays : Cond.instanceMethod yX8_lays ∈ p_T := p_in 974 (by decide +kernel) rfl
theorem w_e_X8_lays : Cond.selects RX8 yX8_lays yX8_lays ∈ p_T := p_in 62 (by decide +kernel) rfl
theorem w_m_RX8_179 : Cond.methodLink RX8 179 yX8_lays ∈ p_T := p_in 972 (by decide +kernel) rfl
theorem w_c_X8_notes : Cond.code yX8_notes cX8_notes 2 none ∈ p_T := p_in 971 (by decide +kernel) rfl
theorem w_i_X8_notes : Cond.instanceMethod yX8_notes ∈ p_T := p_in 970 (by decide +kernel) rfl
theorem w_e_X8_notes : Cond.selects RX8 yX8_notes yX8_notes ∈ p_T := p_in 61 (by decide +kernel) rfl
theorem w_m_RX8_183 : Cond.methodLink RX8 183 yX8_notes ∈ p_T := p_in 968 (by decide +kernel) rfl
theorem w_c_X8_copies : Cond.code yX8_copies cX8_copies 3 none ∈ p_T := p_in 987 (by decide +kernel) rfl
theorem w_i_X8_copies : Cond.instanceMethod yX8_copies ∈ p_T := p_in 986 (by decide +kernel) rfl
theorem w_e_X8_copies : Cond.selects RX8 yX8_copies yX8_copies ∈ p_T := p_in 63 (by decide +kernel) rfl
theorem w_m_RX8_186 : Cond.methodLink RX8 186 yX8_copies ∈ p_T := p_in 984 (by decide +kernel) rfl
theorem w_c_X8_shifts : Cond.code yX8_shifts cX8_shifts 8 none ∈ p_T := p_in 995 (by decide +kernel) rfl
theorem w_i_X8_shifts : Cond.instanceMethod yX8_shifts ∈ p_T := p_in 994 (by decide +kernel) rfl
theorem w_e_X8_shifts : Cond.selects RX8 yX8_shifts yX8_shifts ∈ p_T := p_in 64 (by decide +kernel) rfl
theorem w_m_RX8_189 : Cond.methodLink RX8 189 yX8_shifts ∈ p_T := p_in 992 (by decide +kernel) rfl
theorem w_c_X8_takes : Cond.code yX8_takes cX8_takes 4 none ∈ p_T := p_in 1007 (by decide +kernel) rfl
theorem w_i_X8_takes : Cond.instanceMethod yX8_takes ∈ p_T := p_in 1006 (by decide +kernel) rfl
theorem w_e_X8_takes : Cond.selects RX8 yX8_takes yX8_takes ∈ p_T := p_in 65 (by decide +kernel) rfl
theorem w_m_RX8_192 : Cond.methodLink RX8 192 yX8_takes ∈ p_T := p_in 1004 (by decide +kernel) rfl
theorem w_c_X8_without : Cond.code yX8_without cX8_without 4 none ∈ p_T := p_in 1015 (by decide +kernel) rfl
theorem w_i_X8_without : Cond.instanceMethod yX8_without ∈ p_T := p_in 1014 (by decide +kernel) rfl
theorem w_e_X8_without : Cond.selects RX8 yX8_without yX8_without ∈ p_T := p_in 66 (by decide +kernel) rfl
theorem w_m_RX8_195 : Cond.methodLink RX8 195 yX8_without ∈ p_T := p_in 1012 (by decide +kernel) rfl
theorem w_c_X8_bits : Cond.code yX8_bits cX8_bits 3 (some .int) ∈ p_T := p_in 1044 (by decide +kernel) rfl
theorem w_s_X8_bits : Cond.static yX8_bits ∈ p_T := p_in 1043 (by decide +kernel) rfl
theorem w_m_RX8_198 : Cond.methodLink RX8 198 yX8_bits ∈ p_T := p_in 1042 (by decide +kernel) rfl
theorem w_f_RX8_61 : Cond.fieldLink RX8 61 "PokerEveningModel" "bestRow" "[I" ∈ p_T := p_in 813 (by decide +kernel) rfl
theorem w_c_X8_nextRow : Cond.code yX8_nextRow cX8_nextRow 7 (some .boolean) ∈ p_T := p_in 1048 (by decide +kernel) rfl
theorem w_i_X8_nextRow : Cond.instanceMethod yX8_nextRow ∈ p_T := p_in 1047 (by decide +kernel) rfl
theorem w_e_X8_nextRow : Cond.selects RX8 yX8_nextRow yX8_nextRow ∈ p_T := p_in 68 (by decide +kernel) rfl
theorem w_m_RX8_202 : Cond.methodLink RX8 202 yX8_nextRow ∈ p_T := p_in 1045 (by decide +kernel) rfl
theorem w_k_RX8_205 : Cond.constant RX8 205 (1048576) ∈ p_T := p_in 1053 (by decide +kernel) rfl
theorem w_c_X8_gone : Cond.code yX8_gone cX8_gone 3 (some .int) ∈ p_T := p_in 1065 (by decide +kernel) rfl
theorem w_i_X8_gone : Cond.instanceMethod yX8_gone ∈ p_T := p_in 1064 (by decide +kernel) rfl
theorem w_e_X8_gone : Cond.selects RX8 yX8_gone yX8_gone ∈ p_T := p_in 70 (by decide +kernel) rfl
theorem w_m_RX8_206 : Cond.methodLink RX8 206 yX8_gone ∈ p_T := p_in 1062 (by decide +kernel) rfl
theorem w_c_X8_goneBy : Cond.code yX8_goneBy cX8_goneBy 5 (some .int) ∈ p_T := p_in 1061 (by decide +kernel) rfl
theorem w_i_X8_goneBy : Cond.instanceMethod yX8_goneBy ∈ p_T := p_in 1060 (by decide +kernel) rfl
theorem w_e_X8_goneBy : Cond.selects RX8 yX8_goneBy yX8_goneBy ∈ p_T := p_in 69 (by decide +kernel) rfl
theorem w_m_RX8_209 : Cond.methodLink RX8 209 yX8_goneBy ∈ p_T := p_in 1058 (by decide +kernel) rfl
theorem w_f_RX8_28 : Cond.fieldLink RX8 28 "PokerEveningModel" "seenWho" "[I" ∈ p_T := p_in 793 (by decide +kernel) rfl
theorem w_f_RX8_31 : Cond.fieldLink RX8 31 "PokerEveningModel" "seenAt" "[I" ∈ p_T := p_in 794 (by decide +kernel) rfl
theorem w_c_X8_isSo : Cond.code yX8_isSo cX8_isSo 4 (some .boolean) ∈ p_T := p_in 1081 (by decide +kernel) rfl
theorem w_i_X8_isSo : Cond.instanceMethod yX8_isSo ∈ p_T := p_in 1080 (by decide +kernel) rfl
theorem w_e_X8_isSo : Cond.selects RX8 yX8_isSo yX8_isSo ∈ p_T := p_in 71 (by decide +kernel) rfl
theorem w_m_RX8_213 : Cond.methodLink RX8 213 yX8_isSo ∈ p_T := p_in 1078 (by decide +kernel) rfl
theorem w_l_RX8_216 : Cond.constantLong RX8 216 (10) ∈ p_T := p_in 1098 (by decide +kernel) rfl
theorem w_c_X8_common : Cond.code yX8_common cX8_common 10 (some .long) ∈ p_T := p_in 1101 (by decide +kernel) rfl
theorem w_s_X8_common : Cond.static yX8_common ∈ p_T := p_in 1100 (by decide +kernel) rfl
theorem w_m_RX8_218 : Cond.methodLink RX8 218 yX8_common ∈ p_T := p_in 1099 (by decide +kernel) rfl
theorem w_f_RX8_64 : Cond.fieldLink RX8 64 "PokerEveningModel" "aside" "[I" ∈ p_T := p_in 814 (by decide +kernel) rfl
theorem w_l_RX8_222 : Cond.constantLong RX8 222 (7919) ∈ p_T := p_in 1106 (by decide +kernel) rfl
theorem w_l_RX8_224 : Cond.constantLong RX8 224 (6151) ∈ p_T := p_in 1107 (by decide +kernel) rfl
theorem w_l_RX8_226 : Cond.constantLong RX8 226 (65521) ∈ p_T := p_in 1108 (by decide +kernel) rfl
theorem w_l_RX8_228 : Cond.constantLong RX8 228 (2) ∈ p_T := p_in 1109 (by decide +kernel) rfl
theorem w_f_RX8_67 : Cond.fieldLink RX8 67 "PokerEveningModel" "kept" "[I" ∈ p_T := p_in 815 (by decide +kernel) rfl
theorem w_c_X8_falseMany : Cond.code yX8_falseMany cX8_falseMany 3 (some .int) ∈ p_T := p_in 1125 (by decide +kernel) rfl
theorem w_i_X8_falseMany : Cond.instanceMethod yX8_falseMany ∈ p_T := p_in 1124 (by decide +kernel) rfl
theorem w_e_X8_falseMany : Cond.selects RX8 yX8_falseMany yX8_falseMany ∈ p_T := p_in 72 (by decide +kernel) rfl
theorem w_m_RX8_230 : Cond.methodLink RX8 230 yX8_falseMany ∈ p_T := p_in 1122 (by decide +kernel) rfl
theorem w_k_RJ6_265 : Cond.constant RJ6 265 (1431655765) ∈ p_T := p_in 615 (by decide +kernel) rfl
theorem w_k_RJ6_266 : Cond.constant RJ6 266 (858993459) ∈ p_T := p_in 616 (by decide +kernel) rfl
theorem w_k_RJ6_267 : Cond.constant RJ6 267 (252645135) ∈ p_T := p_in 617 (by decide +kernel) rfl
theorem w_l_RJ13_314 : Cond.constantLong RJ13 314 (6148914691236517205) ∈ p_T := p_in 690 (by decide +kernel) rfl
theorem w_l_RJ13_316 : Cond.constantLong RJ13 316 (3689348814741910323) ∈ p_T := p_in 691 (by decide +kernel) rfl
theorem w_l_RJ13_318 : Cond.constantLong RJ13 318 (1085102592571150095) ∈ p_T := p_in 692 (by decide +kernel) rfl
theorem w_c_X7_write : Cond.code yX7_write cX7_write 2 (some .int) ∈ p_T := p_in 431 (by decide +kernel) rfl
theorem w_i_X7_write : Cond.instanceMethod yX7_write ∈ p_T := p_in 429 (by decide +kernel) rfl
theorem w_e_X7_write : Cond.selects RX7 yX7_write yX7_write ∈ p_T := p_in 430 (by decide +kernel) rfl
theorem w_m_RL_13 : Cond.methodLink RL 13 yX7_write ∈ p_T := p_in 428 (by decide +kernel) rfl
theorem w_c_X8_write : Cond.code yX8_write cX8_write 2 (some .int) ∈ p_T := p_in 891 (by decide +kernel) rfl
theorem w_i_X8_write : Cond.instanceMethod yX8_write ∈ p_T := p_in 889 (by decide +kernel) rfl
theorem w_e_X8_write : Cond.selects RX8 yX8_write yX8_write ∈ p_T := p_in 890 (by decide +kernel) rfl
theorem w_m_RL_17 : Cond.methodLink RL 17 yX8_write ∈ p_T := p_in 888 (by decide +kernel) rfl
theorem w_c_X7_wipe : Cond.code yX7_wipe cX7_wipe 2 (some .int) ∈ p_T := p_in 436 (by decide +kernel) rfl
theorem w_i_X7_wipe : Cond.instanceMethod yX7_wipe ∈ p_T := p_in 434 (by decide +kernel) rfl
theorem w_e_X7_wipe : Cond.selects RX7 yX7_wipe yX7_wipe ∈ p_T := p_in 435 (by decide +kernel) rfl
theorem w_m_RL_18 : Cond.methodLink RL 18 yX7_wipe ∈ p_T := p_in 433 (by decide +kernel) rfl
theorem w_c_X8_wipe : Cond.code yX8_wipe cX8_wipe 2 (some .int) ∈ p_T := p_in 898 (by decide +kernel) rfl
theorem w_i_X8_wipe : Cond.instanceMethod yX8_wipe ∈ p_T := p_in 896 (by decide +kernel) rfl
theorem w_e_X8_wipe : Cond.selects RX8 yX8_wipe yX8_wipe ∈ p_T := p_in 897 (by decide +kernel) rfl
theorem w_m_RL_22 : Cond.methodLink RL 22 yX8_wipe ∈ p_T := p_in 895 (by decide +kernel) rfl
theorem w_c_X7_fault : Cond.code yX7_fault cX7_fault 1 (some .int) ∈ p_T := p_in 440 (by decide +kernel) rfl
theorem w_i_X7_fault : Cond.instanceMethod yX7_fault ∈ p_T := p_in 438 (by decide +kernel) rfl
theorem w_e_X7_fault : Cond.selects RX7 yX7_fault yX7_fault ∈ p_T := p_in 439 (by decide +kernel) rfl
theorem w_m_RL_23 : Cond.methodLink RL 23 yX7_fault ∈ p_T := p_in 437 (by decide +kernel) rfl
theorem w_m_RL_26 : Cond.methodLink RL 26 yX8_fault ∈ p_T := p_in 899 (by decide +kernel) rfl
theorem w_c_X7_lay : Cond.code yX7_lay cX7_lay 1 (some .int) ∈ p_T := p_in 444 (by decide +kernel) rfl
theorem w_i_X7_lay : Cond.instanceMethod yX7_lay ∈ p_T := p_in 442 (by decide +kernel) rfl
theorem w_e_X7_lay : Cond.selects RX7 yX7_lay yX7_lay ∈ p_T := p_in 443 (by decide +kernel) rfl
theorem w_m_RL_27 : Cond.methodLink RL 27 yX7_lay ∈ p_T := p_in 441 (by decide +kernel) rfl
theorem w_c_X8_lay : Cond.code yX8_lay cX8_lay 2 (some .int) ∈ p_T := p_in 934 (by decide +kernel) rfl
theorem w_i_X8_lay : Cond.instanceMethod yX8_lay ∈ p_T := p_in 932 (by decide +kernel) rfl
theorem w_e_X8_lay : Cond.selects RX8 yX8_lay yX8_lay ∈ p_T := p_in 933 (by decide +kernel) rfl
theorem w_m_RL_30 : Cond.methodLink RL 30 yX8_lay ∈ p_T := p_in 931 (by decide +kernel) rfl
theorem w_c_X7_teller : Cond.code yX7_teller cX7_teller 3 (some .int) ∈ p_T := p_in 469 (by decide +kernel) rfl
theorem w_i_X7_teller : Cond.instanceMethod yX7_teller ∈ p_T := p_in 467 (by decide +kernel) rfl
theorem w_e_X7_teller : Cond.selects RX7 yX7_teller yX7_teller ∈ p_T := p_in 468 (by decide +kernel) rfl
theorem w_m_RL_31 : Cond.methodLink RL 31 yX7_teller ∈ p_T := p_in 466 (by decide +kernel) rfl
theorem w_c_X8_teller : Cond.code yX8_teller cX8_teller 3 (some .int) ∈ p_T := p_in 939 (by decide +kernel) rfl
theorem w_i_X8_teller : Cond.instanceMethod yX8_teller ∈ p_T := p_in 937 (by decide +kernel) rfl
theorem w_e_X8_teller : Cond.selects RX8 yX8_teller yX8_teller ∈ p_T := p_in 938 (by decide +kernel) rfl
theorem w_m_RL_35 : Cond.methodLink RL 35 yX8_teller ∈ p_T := p_in 936 (by decide +kernel) rfl
theorem w_c_X7_fact : Cond.code yX7_fact cX7_fact 2 (some .int) ∈ p_T := p_in 475 (by decide +kernel) rfl
theorem w_i_X7_fact : Cond.instanceMethod yX7_fact ∈ p_T := p_in 473 (by decide +kernel) rfl
theorem w_e_X7_fact : Cond.selects RX7 yX7_fact yX7_fact ∈ p_T := p_in 474 (by decide +kernel) rfl
theorem w_m_RL_36 : Cond.methodLink RL 36 yX7_fact ∈ p_T := p_in 472 (by decide +kernel) rfl
theorem w_c_X8_fact : Cond.code yX8_fact cX8_fact 2 (some .int) ∈ p_T := p_in 947 (by decide +kernel) rfl
theorem w_i_X8_fact : Cond.instanceMethod yX8_fact ∈ p_T := p_in 945 (by decide +kernel) rfl
theorem w_e_X8_fact : Cond.selects RX8 yX8_fact yX8_fact ∈ p_T := p_in 946 (by decide +kernel) rfl
theorem w_m_RL_39 : Cond.methodLink RL 39 yX8_fact ∈ p_T := p_in 944 (by decide +kernel) rfl
theorem w_c_X7_claim : Cond.code yX7_claim cX7_claim 3 (some .int) ∈ p_T := p_in 483 (by decide +kernel) rfl
theorem w_i_X7_claim : Cond.instanceMethod yX7_claim ∈ p_T := p_in 481 (by decide +kernel) rfl
theorem w_e_X7_claim : Cond.selects RX7 yX7_claim yX7_claim ∈ p_T := p_in 482 (by decide +kernel) rfl
theorem w_m_RL_40 : Cond.methodLink RL 40 yX7_claim ∈ p_T := p_in 480 (by decide +kernel) rfl
theorem w_c_X8_claim : Cond.code yX8_claim cX8_claim 3 (some .int) ∈ p_T := p_in 955 (by decide +kernel) rfl
theorem w_i_X8_claim : Cond.instanceMethod yX8_claim ∈ p_T := p_in 953 (by decide +kernel) rfl
theorem w_e_X8_claim : Cond.selects RX8 yX8_claim yX8_claim ∈ p_T := p_in 954 (by decide +kernel) rfl
theorem w_m_RL_43 : Cond.methodLink RL 43 yX8_claim ∈ p_T := p_in 952 (by decide +kernel) rfl
theorem w_c_X7_turn : Cond.code yX7_turn cX7_turn 2 (some .int) ∈ p_T := p_in 497 (by decide +kernel) rfl
theorem w_i_X7_turn : Cond.instanceMethod yX7_turn ∈ p_T := p_in 495 (by decide +kernel) rfl
theorem w_e_X7_turn : Cond.selects RX7 yX7_turn yX7_turn ∈ p_T := p_in 496 (by decide +kernel) rfl
theorem w_m_RL_44 : Cond.methodLink RL 44 yX7_turn ∈ p_T := p_in 494 (by decide +kernel) rfl
theorem w_c_X8_turn : Cond.code yX8_turn cX8_turn 2 (some .int) ∈ p_T := p_in 967 (by decide +kernel) rfl
theorem w_i_X8_turn : Cond.instanceMethod yX8_turn ∈ p_T := p_in 965 (by decide +kernel) rfl
theorem w_e_X8_turn : Cond.selects RX8 yX8_turn yX8_turn ∈ p_T := p_in 966 (by decide +kernel) rfl
theorem w_m_RL_47 : Cond.methodLink RL 47 yX8_turn ∈ p_T := p_in 964 (by decide +kernel) rfl
theorem w_c_X7_add : Cond.code yX7_add cX7_add 5 (some .int) ∈ p_T := p_in 518 (by decide +kernel) rfl
theorem w_i_X7_add : Cond.instanceMethod yX7_add ∈ p_T := p_in 516 (by decide +kernel) rfl
theorem w_e_X7_add : Cond.selects RX7 yX7_add yX7_add ∈ p_T := p_in 517 (by decide +kernel) rfl
theorem w_m_RL_48 : Cond.methodLink RL 48 yX7_add ∈ p_T := p_in 515 (by decide +kernel) rfl
theorem w_c_X8_add : Cond.code yX8_add cX8_add 5 (some .int) ∈ p_T := p_in 979 (by decide +kernel) rfl
theorem w_i_X8_add : Cond.instanceMethod yX8_add ∈ p_T := p_in 977 (by decide +kernel) rfl
theorem w_e_X8_add : Cond.selects RX8 yX8_add yX8_add ∈ p_T := p_in 978 (by decide +kernel) rfl
theorem w_m_RL_52 : Cond.methodLink RL 52 yX8_add ∈ p_T := p_in 976 (by decide +kernel) rfl
theorem w_c_X7_strike : Cond.code yX7_strike cX7_strike 2 (some .int) ∈ p_T := p_in 524 (by decide +kernel) rfl
theorem w_i_X7_strike : Cond.instanceMethod yX7_strike ∈ p_T := p_in 522 (by decide +kernel) rfl
theorem w_e_X7_strike : Cond.selects RX7 yX7_strike yX7_strike ∈ p_T := p_in 523 (by decide +kernel) rfl
theorem w_m_RL_53 : Cond.methodLink RL 53 yX7_strike ∈ p_T := p_in 521 (by decide +kernel) rfl
theorem w_c_X8_strike : Cond.code yX8_strike cX8_strike 3 (some .int) ∈ p_T := p_in 983 (by decide +kernel) rfl
theorem w_i_X8_strike : Cond.instanceMethod yX8_strike ∈ p_T := p_in 981 (by decide +kernel) rfl
theorem w_e_X8_strike : Cond.selects RX8 yX8_strike yX8_strike ∈ p_T := p_in 982 (by decide +kernel) rfl
theorem w_m_RL_56 : Cond.methodLink RL 56 yX8_strike ∈ p_T := p_in 980 (by decide +kernel) rfl
theorem w_c_X7_shift : Cond.code yX7_shift cX7_shift 3 (some .int) ∈ p_T := p_in 540 (by decide +kernel) rfl
theorem w_i_X7_shift : Cond.instanceMethod yX7_shift ∈ p_T := p_in 538 (by decide +kernel) rfl
theorem w_e_X7_shift : Cond.selects RX7 yX7_shift yX7_shift ∈ p_T := p_in 539 (by decide +kernel) rfl
theorem w_m_RL_57 : Cond.methodLink RL 57 yX7_shift ∈ p_T := p_in 537 (by decide +kernel) rfl
theorem w_c_X8_shift : Cond.code yX8_shift cX8_shift 3 (some .int) ∈ p_T := p_in 991 (by decide +kernel) rfl
theorem w_i_X8_shift : Cond.instanceMethod yX8_shift ∈ p_T := p_in 989 (by decide +kernel) rfl
theorem w_e_X8_shift : Cond.selects RX8 yX8_shift yX8_shift ∈ p_T := p_in 990 (by decide +kernel) rfl
theorem w_m_RL_60 : Cond.methodLink RL 60 yX8_shift ∈ p_T := p_in 988 (by decide +kernel) rfl
theorem w_c_X7_grip : Cond.code yX7_grip cX7_grip 4 (some .int) ∈ p_T := p_in 545 (by decide +kernel) rfl
theorem w_i_X7_grip : Cond.instanceMethod yX7_grip ∈ p_T := p_in 543 (by decide +kernel) rfl
theorem w_e_X7_grip : Cond.selects RX7 yX7_grip yX7_grip ∈ p_T := p_in 544 (by decide +kernel) rfl
theorem w_m_RL_61 : Cond.methodLink RL 61 yX7_grip ∈ p_T := p_in 542 (by decide +kernel) rfl
theorem w_c_X8_grip : Cond.code yX8_grip cX8_grip 4 (some .int) ∈ p_T := p_in 999 (by decide +kernel) rfl
theorem w_i_X8_grip : Cond.instanceMethod yX8_grip ∈ p_T := p_in 997 (by decide +kernel) rfl
theorem w_e_X8_grip : Cond.selects RX8 yX8_grip yX8_grip ∈ p_T := p_in 998 (by decide +kernel) rfl
theorem w_m_RL_64 : Cond.methodLink RL 64 yX8_grip ∈ p_T := p_in 996 (by decide +kernel) rfl
theorem w_c_X7_undo : Cond.code yX7_undo cX7_undo 1 (some .int) ∈ p_T := p_in 549 (by decide +kernel) rfl
theorem w_i_X7_undo : Cond.instanceMethod yX7_undo ∈ p_T := p_in 547 (by decide +kernel) rfl
theorem w_e_X7_undo : Cond.selects RX7 yX7_undo yX7_undo ∈ p_T := p_in 548 (by decide +kernel) rfl
theorem w_m_RL_65 : Cond.methodLink RL 65 yX7_undo ∈ p_T := p_in 546 (by decide +kernel) rfl
theorem w_c_X8_undo : Cond.code yX8_undo cX8_undo 1 (some .int) ∈ p_T := p_in 1003 (by decide +kernel) rfl
theorem w_i_X8_undo : Cond.instanceMethod yX8_undo ∈ p_T := p_in 1001 (by decide +kernel) rfl
theorem w_e_X8_undo : Cond.selects RX8 yX8_undo yX8_undo ∈ p_T := p_in 1002 (by decide +kernel) rfl
theorem w_m_RL_68 : Cond.methodLink RL 68 yX8_undo ∈ p_T := p_in 1000 (by decide +kernel) rfl
theorem w_c_X7_drops : Cond.code yX7_drops cX7_drops 3 (some .int) ∈ p_T := p_in 557 (by decide +kernel) rfl
theorem w_i_X7_drops : Cond.instanceMethod yX7_drops ∈ p_T := p_in 555 (by decide +kernel) rfl
theorem w_e_X7_drops : Cond.selects RX7 yX7_drops yX7_drops ∈ p_T := p_in 556 (by decide +kernel) rfl
theorem w_m_RL_69 : Cond.methodLink RL 69 yX7_drops ∈ p_T := p_in 554 (by decide +kernel) rfl
theorem w_c_X8_drops : Cond.code yX8_drops cX8_drops 2 (some .int) ∈ p_T := p_in 1011 (by decide +kernel) rfl
theorem w_i_X8_drops : Cond.instanceMethod yX8_drops ∈ p_T := p_in 1009 (by decide +kernel) rfl
theorem w_e_X8_drops : Cond.selects RX8 yX8_drops yX8_drops ∈ p_T := p_in 1010 (by decide +kernel) rfl
theorem w_m_RL_72 : Cond.methodLink RL 72 yX8_drops ∈ p_T := p_in 1008 (by decide +kernel) rfl
theorem w_m_RL_73 : Cond.methodLink RL 73 yX7_told ∈ p_T := p_in 583 (by decide +kernel) rfl
theorem w_c_X8_told : Cond.code yX8_told cX8_told 1 (some .int) ∈ p_T := p_in 1029 (by decide +kernel) rfl
theorem w_i_X8_told : Cond.instanceMethod yX8_told ∈ p_T := p_in 1027 (by decide +kernel) rfl
theorem w_e_X8_told : Cond.selects RX8 yX8_told yX8_told ∈ p_T := p_in 1028 (by decide +kernel) rfl
theorem w_m_RL_76 : Cond.methodLink RL 76 yX8_told ∈ p_T := p_in 1026 (by decide +kernel) rfl
theorem w_c_X7_hot : Cond.code yX7_hot cX7_hot 2 (some .int) ∈ p_T := p_in 590 (by decide +kernel) rfl
theorem w_i_X7_hot : Cond.instanceMethod yX7_hot ∈ p_T := p_in 588 (by decide +kernel) rfl
theorem w_e_X7_hot : Cond.selects RX7 yX7_hot yX7_hot ∈ p_T := p_in 589 (by decide +kernel) rfl
theorem w_m_RL_77 : Cond.methodLink RL 77 yX7_hot ∈ p_T := p_in 587 (by decide +kernel) rfl
theorem w_c_X8_hot : Cond.code yX8_hot cX8_hot 2 (some .int) ∈ p_T := p_in 1033 (by decide +kernel) rfl
theorem w_i_X8_hot : Cond.instanceMethod yX8_hot ∈ p_T := p_in 1031 (by decide +kernel) rfl
theorem w_e_X8_hot : Cond.selects RX8 yX8_hot yX8_hot ∈ p_T := p_in 1032 (by decide +kernel) rfl
theorem w_m_RL_80 : Cond.methodLink RL 80 yX8_hot ∈ p_T := p_in 1030 (by decide +kernel) rfl
theorem w_c_X7_hottest : Cond.code yX7_hottest cX7_hottest 1 (some .int) ∈ p_T := p_in 594 (by decide +kernel) rfl
theorem w_i_X7_hottest : Cond.instanceMethod yX7_hottest ∈ p_T := p_in 592 (by decide +kernel) rfl
theorem w_e_X7_hottest : Cond.selects RX7 yX7_hottest yX7_hottest ∈ p_T := p_in 593 (by decide +kernel) rfl
theorem w_m_RL_81 : Cond.methodLink RL 81 yX7_hottest ∈ p_T := p_in 591 (by decide +kernel) rfl
theorem w_c_X8_hottest : Cond.code yX8_hottest cX8_hottest 1 (some .int) ∈ p_T := p_in 1037 (by decide +kernel) rfl
theorem w_i_X8_hottest : Cond.instanceMethod yX8_hottest ∈ p_T := p_in 1035 (by decide +kernel) rfl
theorem w_e_X8_hottest : Cond.selects RX8 yX8_hottest yX8_hottest ∈ p_T := p_in 1036 (by decide +kernel) rfl
theorem w_m_RL_84 : Cond.methodLink RL 84 yX8_hottest ∈ p_T := p_in 1034 (by decide +kernel) rfl
theorem w_c_X7_order : Cond.code yX7_order cX7_order 2 (some .int) ∈ p_T := p_in 598 (by decide +kernel) rfl
theorem w_i_X7_order : Cond.instanceMethod yX7_order ∈ p_T := p_in 596 (by decide +kernel) rfl
theorem w_e_X7_order : Cond.selects RX7 yX7_order yX7_order ∈ p_T := p_in 597 (by decide +kernel) rfl
theorem w_m_RL_85 : Cond.methodLink RL 85 yX7_order ∈ p_T := p_in 595 (by decide +kernel) rfl
theorem w_c_X8_order : Cond.code yX8_order cX8_order 5 (some .int) ∈ p_T := p_in 1041 (by decide +kernel) rfl
theorem w_i_X8_order : Cond.instanceMethod yX8_order ∈ p_T := p_in 1039 (by decide +kernel) rfl
theorem w_e_X8_order : Cond.selects RX8 yX8_order yX8_order ∈ p_T := p_in 1040 (by decide +kernel) rfl
theorem w_m_RL_88 : Cond.methodLink RL 88 yX8_order ∈ p_T := p_in 1038 (by decide +kernel) rfl
theorem w_c_X7_leave : Cond.code yX7_leave cX7_leave 4 (some .int) ∈ p_T := p_in 633 (by decide +kernel) rfl
theorem w_i_X7_leave : Cond.instanceMethod yX7_leave ∈ p_T := p_in 631 (by decide +kernel) rfl
theorem w_e_X7_leave : Cond.selects RX7 yX7_leave yX7_leave ∈ p_T := p_in 632 (by decide +kernel) rfl
theorem w_m_RL_89 : Cond.methodLink RL 89 yX7_leave ∈ p_T := p_in 630 (by decide +kernel) rfl
theorem w_c_X8_leave : Cond.code yX8_leave cX8_leave 6 (some .int) ∈ p_T := p_in 1052 (by decide +kernel) rfl
theorem w_i_X8_leave : Cond.instanceMethod yX8_leave ∈ p_T := p_in 1050 (by decide +kernel) rfl
theorem w_e_X8_leave : Cond.selects RX8 yX8_leave yX8_leave ∈ p_T := p_in 1051 (by decide +kernel) rfl
theorem w_m_RL_92 : Cond.methodLink RL 92 yX8_leave ∈ p_T := p_in 1049 (by decide +kernel) rfl
theorem w_c_X7_holds : Cond.code yX7_holds cX7_holds 7 (some .int) ∈ p_T := p_in 648 (by decide +kernel) rfl
theorem w_i_X7_holds : Cond.instanceMethod yX7_holds ∈ p_T := p_in 646 (by decide +kernel) rfl
theorem w_e_X7_holds : Cond.selects RX7 yX7_holds yX7_holds ∈ p_T := p_in 647 (by decide +kernel) rfl
theorem w_m_RL_93 : Cond.methodLink RL 93 yX7_holds ∈ p_T := p_in 645 (by decide +kernel) rfl
theorem w_c_X8_holds : Cond.code yX8_holds cX8_holds 7 (some .int) ∈ p_T := p_in 1057 (by decide +kernel) rfl
theorem w_i_X8_holds : Cond.instanceMethod yX8_holds ∈ p_T := p_in 1055 (by decide +kernel) rfl
theorem w_e_X8_holds : Cond.selects RX8 yX8_holds yX8_holds ∈ p_T := p_in 1056 (by decide +kernel) rfl
theorem w_m_RL_96 : Cond.methodLink RL 96 yX8_holds ∈ p_T := p_in 1054 (by decide +kernel) rfl
theorem w_c_X7_seen : Cond.code yX7_seen cX7_seen 3 (some .int) ∈ p_T := p_in 656 (by decide +kernel) rfl
theorem w_i_X7_seen : Cond.instanceMethod yX7_seen ∈ p_T := p_in 654 (by decide +kernel) rfl
theorem w_e_X7_seen : Cond.selects RX7 yX7_seen yX7_seen ∈ p_T := p_in 655 (by decide +kernel) rfl
theorem w_m_RL_97 : Cond.methodLink RL 97 yX7_seen ∈ p_T := p_in 653 (by decide +kernel) rfl
theorem w_c_X8_seen : Cond.code yX8_seen cX8_seen 3 (some .int) ∈ p_T := p_in 1069 (by decide +kernel) rfl
theorem w_i_X8_seen : Cond.instanceMethod yX8_seen ∈ p_T := p_in 1067 (by decide +kernel) rfl
theorem w_e_X8_seen : Cond.selects RX8 yX8_seen yX8_seen ∈ p_T := p_in 1068 (by decide +kernel) rfl
theorem w_m_RL_100 : Cond.methodLink RL 100 yX8_seen ∈ p_T := p_in 1066 (by decide +kernel) rfl
theorem w_c_X7_forget : Cond.code yX7_forget cX7_forget 2 (some .int) ∈ p_T := p_in 665 (by decide +kernel) rfl
theorem w_i_X7_forget : Cond.instanceMethod yX7_forget ∈ p_T := p_in 663 (by decide +kernel) rfl
theorem w_e_X7_forget : Cond.selects RX7 yX7_forget yX7_forget ∈ p_T := p_in 664 (by decide +kernel) rfl
theorem w_m_RL_101 : Cond.methodLink RL 101 yX7_forget ∈ p_T := p_in 662 (by decide +kernel) rfl
theorem w_c_X8_forget : Cond.code yX8_forget cX8_forget 2 (some .int) ∈ p_T := p_in 1073 (by decide +kernel) rfl
theorem w_i_X8_forget : Cond.instanceMethod yX8_forget ∈ p_T := p_in 1071 (by decide +kernel) rfl
theorem w_e_X8_forget : Cond.selects RX8 yX8_forget yX8_forget ∈ p_T := p_in 1072 (by decide +kernel) rfl
theorem w_m_RL_104 : Cond.methodLink RL 104 yX8_forget ∈ p_T := p_in 1070 (by decide +kernel) rfl
theorem w_c_X7_worlds : Cond.code yX7_worlds cX7_worlds 4 (some .int) ∈ p_T := p_in 669 (by decide +kernel) rfl
theorem w_i_X7_worlds : Cond.instanceMethod yX7_worlds ∈ p_T := p_in 667 (by decide +kernel) rfl
theorem w_e_X7_worlds : Cond.selects RX7 yX7_worlds yX7_worlds ∈ p_T := p_in 668 (by decide +kernel) rfl
theorem w_m_RL_105 : Cond.methodLink RL 105 yX7_worlds ∈ p_T := p_in 666 (by decide +kernel) rfl
theorem w_c_X8_worlds : Cond.code yX8_worlds cX8_worlds 9 (some .int) ∈ p_T := p_in 1077 (by decide +kernel) rfl
theorem w_i_X8_worlds : Cond.instanceMethod yX8_worlds ∈ p_T := p_in 1075 (by decide +kernel) rfl
theorem w_e_X8_worlds : Cond.selects RX8 yX8_worlds yX8_worlds ∈ p_T := p_in 1076 (by decide +kernel) rfl
theorem w_m_RL_108 : Cond.methodLink RL 108 yX8_worlds ∈ p_T := p_in 1074 (by decide +kernel) rfl
theorem w_c_X7_next : Cond.code yX7_next cX7_next 10 (some .int) ∈ p_T := p_in 707 (by decide +kernel) rfl
theorem w_i_X7_next : Cond.instanceMethod yX7_next ∈ p_T := p_in 705 (by decide +kernel) rfl
theorem w_e_X7_next : Cond.selects RX7 yX7_next yX7_next ∈ p_T := p_in 706 (by decide +kernel) rfl
theorem w_m_RL_109 : Cond.methodLink RL 109 yX7_next ∈ p_T := p_in 704 (by decide +kernel) rfl
theorem w_c_X8_next : Cond.code yX8_next cX8_next 11 (some .int) ∈ p_T := p_in 1085 (by decide +kernel) rfl
theorem w_i_X8_next : Cond.instanceMethod yX8_next ∈ p_T := p_in 1083 (by decide +kernel) rfl
theorem w_e_X8_next : Cond.selects RX8 yX8_next yX8_next ∈ p_T := p_in 1084 (by decide +kernel) rfl
theorem w_m_RL_112 : Cond.methodLink RL 112 yX8_next ∈ p_T := p_in 1082 (by decide +kernel) rfl
theorem w_c_X7_kinds : Cond.code yX7_kinds cX7_kinds 4 (some .int) ∈ p_T := p_in 716 (by decide +kernel) rfl
theorem w_i_X7_kinds : Cond.instanceMethod yX7_kinds ∈ p_T := p_in 714 (by decide +kernel) rfl
theorem w_e_X7_kinds : Cond.selects RX7 yX7_kinds yX7_kinds ∈ p_T := p_in 715 (by decide +kernel) rfl
theorem w_m_RL_113 : Cond.methodLink RL 113 yX7_kinds ∈ p_T := p_in 713 (by decide +kernel) rfl
theorem w_c_X8_kinds : Cond.code yX8_kinds cX8_kinds 5 (some .int) ∈ p_T := p_in 1089 (by decide +kernel) rfl
theorem w_i_X8_kinds : Cond.instanceMethod yX8_kinds ∈ p_T := p_in 1087 (by decide +kernel) rfl
theorem w_e_X8_kinds : Cond.selects RX8 yX8_kinds yX8_kinds ∈ p_T := p_in 1088 (by decide +kernel) rfl
theorem w_m_RL_116 : Cond.methodLink RL 116 yX8_kinds ∈ p_T := p_in 1086 (by decide +kernel) rfl
theorem w_c_X7_grips : Cond.code yX7_grips cX7_grips 6 (some .int) ∈ p_T := p_in 720 (by decide +kernel) rfl
theorem w_i_X7_grips : Cond.instanceMethod yX7_grips ∈ p_T := p_in 718 (by decide +kernel) rfl
theorem w_e_X7_grips : Cond.selects RX7 yX7_grips yX7_grips ∈ p_T := p_in 719 (by decide +kernel) rfl
theorem w_m_RL_117 : Cond.methodLink RL 117 yX7_grips ∈ p_T := p_in 717 (by decide +kernel) rfl
theorem w_c_X8_grips : Cond.code yX8_grips cX8_grips 8 (some .int) ∈ p_T := p_in 1093 (by decide +kernel) rfl
theorem w_i_X8_grips : Cond.instanceMethod yX8_grips ∈ p_T := p_in 1091 (by decide +kernel) rfl
theorem w_e_X8_grips : Cond.selects RX8 yX8_grips yX8_grips ∈ p_T := p_in 1092 (by decide +kernel) rfl
theorem w_m_RL_120 : Cond.methodLink RL 120 yX8_grips ∈ p_T := p_in 1090 (by decide +kernel) rfl
theorem w_c_X7_likely : Cond.code yX7_likely cX7_likely 8 (some .int) ∈ p_T := p_in 724 (by decide +kernel) rfl
theorem w_i_X7_likely : Cond.instanceMethod yX7_likely ∈ p_T := p_in 722 (by decide +kernel) rfl
theorem w_e_X7_likely : Cond.selects RX7 yX7_likely yX7_likely ∈ p_T := p_in 723 (by decide +kernel) rfl
theorem w_m_RL_121 : Cond.methodLink RL 121 yX7_likely ∈ p_T := p_in 721 (by decide +kernel) rfl
theorem w_c_X8_likely : Cond.code yX8_likely cX8_likely 13 (some .int) ∈ p_T := p_in 1097 (by decide +kernel) rfl
theorem w_i_X8_likely : Cond.instanceMethod yX8_likely ∈ p_T := p_in 1095 (by decide +kernel) rfl
theorem w_e_X8_likely : Cond.selects RX8 yX8_likely yX8_likely ∈ p_T := p_in 1096 (by decide +kernel) rfl
theorem w_m_RL_125 : Cond.methodLink RL 125 yX8_likely ∈ p_T := p_in 1094 (by decide +kernel) rfl
theorem w_c_X7_evenings : Cond.code yX7_evenings cX7_evenings 8 (some .int) ∈ p_T := p_in 735 (by decide +kernel) rfl
theorem w_i_X7_evenings : Cond.instanceMethod yX7_evenings ∈ p_T := p_in 733 (by decide +kernel) rfl
theorem w_e_X7_evenings : Cond.selects RX7 yX7_evenings yX7_evenings ∈ p_T := p_in 734 (by decide +kernel) rfl
theorem w_m_RL_126 : Cond.methodLink RL 126 yX7_evenings ∈ p_T := p_in 732 (by decide +kernel) rfl
theorem w_c_X8_evenings : Cond.code yX8_evenings cX8_evenings 11 (some .int) ∈ p_T := p_in 1105 (by decide +kernel) rfl
theorem w_i_X8_evenings : Cond.instanceMethod yX8_evenings ∈ p_T := p_in 1103 (by decide +kernel) rfl
theorem w_e_X8_evenings : Cond.selects RX8 yX8_evenings yX8_evenings ∈ p_T := p_in 1104 (by decide +kernel) rfl
theorem w_m_RL_129 : Cond.methodLink RL 129 yX8_evenings ∈ p_T := p_in 1102 (by decide +kernel) rfl
theorem w_c_X7_keep : Cond.code yX7_keep cX7_keep 1 (some .int) ∈ p_T := p_in 749 (by decide +kernel) rfl
theorem w_i_X7_keep : Cond.instanceMethod yX7_keep ∈ p_T := p_in 747 (by decide +kernel) rfl
theorem w_e_X7_keep : Cond.selects RX7 yX7_keep yX7_keep ∈ p_T := p_in 748 (by decide +kernel) rfl
theorem w_m_RL_130 : Cond.methodLink RL 130 yX7_keep ∈ p_T := p_in 746 (by decide +kernel) rfl
theorem w_c_X8_keep : Cond.code yX8_keep cX8_keep 1 (some .int) ∈ p_T := p_in 1113 (by decide +kernel) rfl
theorem w_i_X8_keep : Cond.instanceMethod yX8_keep ∈ p_T := p_in 1111 (by decide +kernel) rfl
theorem w_e_X8_keep : Cond.selects RX8 yX8_keep yX8_keep ∈ p_T := p_in 1112 (by decide +kernel) rfl
theorem w_m_RL_133 : Cond.methodLink RL 133 yX8_keep ∈ p_T := p_in 1110 (by decide +kernel) rfl
theorem w_c_X7_back : Cond.code yX7_back cX7_back 1 (some .int) ∈ p_T := p_in 753 (by decide +kernel) rfl
theorem w_i_X7_back : Cond.instanceMethod yX7_back ∈ p_T := p_in 751 (by decide +kernel) rfl
theorem w_e_X7_back : Cond.selects RX7 yX7_back yX7_back ∈ p_T := p_in 752 (by decide +kernel) rfl
theorem w_m_RL_134 : Cond.methodLink RL 134 yX7_back ∈ p_T := p_in 750 (by decide +kernel) rfl
theorem w_c_X8_back : Cond.code yX8_back cX8_back 1 (some .int) ∈ p_T := p_in 1117 (by decide +kernel) rfl
theorem w_i_X8_back : Cond.instanceMethod yX8_back ∈ p_T := p_in 1115 (by decide +kernel) rfl
theorem w_e_X8_back : Cond.selects RX8 yX8_back yX8_back ∈ p_T := p_in 1116 (by decide +kernel) rfl
theorem w_m_RL_137 : Cond.methodLink RL 137 yX8_back ∈ p_T := p_in 1114 (by decide +kernel) rfl
theorem w_c_X7_count : Cond.code yX7_count cX7_count 2 (some .int) ∈ p_T := p_in 757 (by decide +kernel) rfl
theorem w_i_X7_count : Cond.instanceMethod yX7_count ∈ p_T := p_in 755 (by decide +kernel) rfl
theorem w_e_X7_count : Cond.selects RX7 yX7_count yX7_count ∈ p_T := p_in 756 (by decide +kernel) rfl
theorem w_m_RL_138 : Cond.methodLink RL 138 yX7_count ∈ p_T := p_in 754 (by decide +kernel) rfl
theorem w_c_X8_count : Cond.code yX8_count cX8_count 2 (some .int) ∈ p_T := p_in 1121 (by decide +kernel) rfl
theorem w_i_X8_count : Cond.instanceMethod yX8_count ∈ p_T := p_in 1119 (by decide +kernel) rfl
theorem w_e_X8_count : Cond.selects RX8 yX8_count yX8_count ∈ p_T := p_in 1120 (by decide +kernel) rfl
theorem w_m_RL_141 : Cond.methodLink RL 141 yX8_count ∈ p_T := p_in 1118 (by decide +kernel) rfl
theorem y_ok_X0_begin : yX0_begin.cls ≠ "java/lang/invoke/MethodHandle" ∧ yX0_begin.cls ≠ "java/lang/invoke/VarHandle" ∧ (parseMethodDescriptor yX0_begin.desc).map (fun d => d.parameters.length) = some 0 := by decide +kernel
theorem m_ok_X0_begin : p_gm p_ms k_X0_begin = (yX0_begin, cX0_begin, none) := rfl
theorem n_ok_X0_begin : p_g p_nls k_X0_begin = 2 := rfl
theorem cV_X0_begin {b : Bool} {w : pW} {p : Program} {l : Launch} {e : Env} {R : Room} {s : State} {m : MethodId} {args : Array Value} {below : List Frame} {meth : Method} {c : Code} {own : String} {cc : ByteArray} {nL cells slots pc : Nat} {Qw : State → Prop} {d : Nat} {Q : pQ} (K : q_X b w p s m args c own cc nL R d cells slots) {idx : Nat} (hd : decode cc pc = .ok (.invokevirtual idx, 3)) (w2 : Cond.methodLink own idx yX0_begin ∈ p_T) : p_sd b (q_C l b w) d Q (q_Z b w p l e R s m args below meth c nL cells slots Qw) (o_call 0 k_X0_begin 1) pc := s_cV K hd m_ok_X0_begin n_ok_X0_begin w_c_X0_begin w2 w_i_X0_begin w_e_X0_begin w_I_RX0 y_ok_X0_begin (by decide) (hcl := rfl) (by decide)
theorem y_ok_X1_take : yX1_take.cls ≠ "java/lang/invoke/MethodHandle" ∧ yX1_take.cls ≠ "java/lang/invoke/VarHandle" ∧ (parseMethodDescriptor yX1_take.desc).map (fun d => d.parameters.length) = some 2 := by decide +kernel
theorem m_ok_X1_take : p_gm p_ms k_X1_take = (yX1_take, cX1_take, (some .int)) := rfl
theorem n_ok_X1_take : p_g p_nls k_X1_take = 5 := rfl
theorem cVN_X1_take {b : Bool} {w : pW} {p : Program} {l : Launch} {e : Env} {R : Room} {s : State} {m : MethodId} {args : Array Value} {below : List Frame} {meth : Method} {c : Code} {own : String} {cc : ByteArray} {nL cells slots pc : Nat} {Qw : State → Prop} {d : Nat} {Q : pQ} (K : q_X b w p s m args c own cc nL R d cells slots) {idx : Nat} {host : String} (hd : decode cc pc = .ok (.invokevirtual idx, 3)) (w2 : Cond.methodLinkNest own idx yX1_take host ∈ p_N) : p_sd b (q_C l b w) d Q (q_Z b w p l e R s m args below meth c nL cells slots Qw) (o_call 1 k_X1_take 3) pc := s_cVN K hd m_ok_X1_take n_ok_X1_take w_c_X1_take w2 w_i_X1_take w_e_X1_take w_I_RX1 y_ok_X1_take (by decide) (hcl := rfl) (by decide)
theorem y_ok_X7_put : yX7_put.cls ≠ "java/lang/invoke/MethodHandle" ∧ yX7_put.cls ≠ "java/lang/invoke/VarHandle" ∧ (parseMethodDescriptor yX7_put.desc).map (fun d => d.parameters.length) = some 3 := by decide +kernel
theorem m_ok_X7_put : p_gm p_ms k_X7_put = (yX7_put, cX7_put, none) := rfl
theorem n_ok_X7_put : p_g p_nls k_X7_put = 3 := rfl
theorem cSN_X7_put {b : Bool} {w : pW} {p : Program} {l : Launch} {e : Env} {R : Room} {s : State} {m : MethodId} {args : Array Value} {below : List Frame} {meth : Method} {c : Code} {own : String} {cc : ByteArray} {nL cells slots pc : Nat} {Qw : State → Prop} {d : Nat} {Q : pQ} (K : q_X b w p s m args c own cc nL R d cells slots) {idx : Nat} {host : String} (hd : decode cc pc = .ok (.invokestatic idx, 3)) (w2 : Cond.methodLinkNest own idx yX7_put host ∈ p_N) : p_sd b (q_C l b w) d Q (q_Z b w p l e R s m args below meth c nL cells slots Qw) (o_call 99 k_X7_put 3) pc := s_cSN K hd m_ok_X7_put n_ok_X7_put w_c_X7_put w2 w_s_X7_put w_I_RX7 y_ok_X7_put (by decide)
theorem y_ok_X7_at : yX7_at.cls ≠ "java/lang/invoke/MethodHandle" ∧ yX7_at.cls ≠ "java/lang/invoke/VarHandle" ∧ (parseMethodDescriptor yX7_at.desc).map (fun d => d.parameters.length) = some 2 := by decide +kernel
theorem m_ok_X7_at : p_gm p_ms k_X7_at = (yX7_at, cX7_at, (some .int)) := rfl
theorem n_ok_X7_at : p_g p_nls k_X7_at = 2 := rfl
theorem cSN_X7_at {b : Bool} {w : pW} {p : Program} {l : Launch} {e : Env} {R : Room} {s : State} {m : MethodId} {args : Array Value} {below : List Frame} {meth : Method} {c : Code} {own : String} {cc : ByteArray} {nL cells slots pc : Nat} {Qw : State → Prop} {d : Nat} {Q : pQ} (K : q_X b w p s m args c own cc nL R d cells slots) {idx : Nat} {host : String} (hd : decode cc pc = .ok (.invokestatic idx, 3)) (w2 : Cond.methodLinkNest own idx yX7_at host ∈ p_N) : p_sd b (q_C l b w) d Q (q_Z b w p l e R s m args below meth c nL cells slots Qw) (o_call 99 k_X7_at 2) pc := s_cSN K hd m_ok_X7_at n_ok_X7_at w_c_X7_at w2 w_s_X7_at w_I_RX7 y_ok_X7_at (by decide)
theorem y_ok_X1_cool : yX1_cool.cls ≠ "java/lang/invoke/MethodHandle" ∧ yX1_cool.cls ≠ "java/lang/invoke/VarHandle" ∧ (parseMethodDescriptor yX1_cool.desc).map (fun d => d.parameters.length) = some 0 := by decide +kernel
theorem m_ok_X1_cool : p_gm p_ms k_X1_cool = (yX1_cool, cX1_cool, none) := rfl
theorem n_ok_X1_cool : p_g p_nls k_X1_cool = 1 := rfl
theorem cVN_X1_cool {b : Bool} {w : pW} {p : Program} {l : Launch} {e : Env} {R : Room} {s : State} {m : MethodId} {args : Array Value} {below : List Frame} {meth : Method} {c : Code} {own : String} {cc : ByteArray} {nL cells slots pc : Nat} {Qw : State → Prop} {d : Nat} {Q : pQ} (K : q_X b w p s m args c own cc nL R d cells slots) {idx : Nat} {host : String} (hd : decode cc pc = .ok (.invokevirtual idx, 3)) (w2 : Cond.methodLinkNest own idx yX1_cool host ∈ p_N) : p_sd b (q_C l b w) d Q (q_Z b w p l e R s m args below meth c nL cells slots Qw) (o_call 1 k_X1_cool 1) pc := s_cVN K hd m_ok_X1_cool n_ok_X1_cool w_c_X1_cool w2 w_i_X1_cool w_e_X1_cool w_I_RX1 y_ok_X1_cool (by decide) (hcl := rfl) (by decide)
theorem y_ok_X7_bit : yX7_bit.cls ≠ "java/lang/invoke/MethodHandle" ∧ yX7_bit.cls ≠ "java/lang/invoke/VarHandle" ∧ (parseMethodDescriptor yX7_bit.desc).map (fun d => d.parameters.length) = some 2 := by decide +kernel
theorem m_ok_X7_bit : p_gm p_ms k_X7_bit = (yX7_bit, cX7_bit, (some .int)) := rfl
theorem n_ok_X7_bit : p_g p_nls k_X7_bit = 2 := rfl
theorem cSN_X7_bit {b : Bool} {w : pW} {p : Program} {l : Launch} {e : Env} {R : Room} {s : State} {m : MethodId} {args : Array Value} {below : List Frame} {meth : Method} {c : Code} {own : String} {cc : ByteArray} {nL cells slots pc : Nat} {Qw : State → Prop} {d : Nat} {Q : pQ} (K : q_X b w p s m args c own cc nL R d cells slots) {idx : Nat} {host : String} (hd : decode cc pc = .ok (.invokestatic idx, 3)) (w2 : Cond.methodLinkNest own idx yX7_bit host ∈ p_N) : p_sd b (q_C l b w) d Q (q_Z b w p l e R s m args below meth c nL cells slots Qw) (o_call 99 k_X7_bit 2) pc := s_cSN K hd m_ok_X7_bit n_ok_X7_bit w_c_X7_bit w2 w_s_X7_bit w_I_RX7 y_ok_X7_bit (by decide)
theorem y_ok_X2_isFalse : yX2_isFalse.cls ≠ "java/lang/invoke/MethodHandle" ∧ yX2_isFalse.cls ≠ "java/lang/invoke/VarHandle" ∧ (parseMethodDescriptor yX2_isFalse.desc).map (fun d => d.parameters.length) = some 1 := by decide +kernel
theorem m_ok_X2_isFalse : p_gm p_ms k_X2_isFalse = (yX2_isFalse, cX2_isFalse, (some .boolean)) := rfl
theorem n_ok_X2_isFalse : p_g p_nls k_X2_isFalse = 2 := rfl
theorem cVN_X2_isFalse {b : Bool} {w : pW} {p : Program} {l : Launch} {e : Env} {R : Room} {s : State} {m : MethodId} {args : Array Value} {below : List Frame} {meth : Method} {c : Code} {own : String} {cc : ByteArray} {nL cells slots pc : Nat} {Qw : State → Prop} {d : Nat} {Q : pQ} (K : q_X b w p s m args c own cc nL R d cells slots) {idx : Nat} {host : String} (hd : decode cc pc = .ok (.invokevirtual idx, 3)) (w2 : Cond.methodLinkNest own idx yX2_isFalse host ∈ p_N) : p_sd b (q_C l b w) d Q (q_Z b w p l e R s m args below meth c nL cells slots Qw) (o_call 2 k_X2_isFalse 2) pc := s_cVN K hd m_ok_X2_isFalse n_ok_X2_isFalse w_c_X2_isFalse w2 w_i_X2_isFalse w_e_X2_isFalse w_I_RX2 y_ok_X2_isFalse (by decide) (hcl := rfl) (by decide)
theorem y_ok_X1_heating : yX1_heating.cls ≠ "java/lang/invoke/MethodHandle" ∧ yX1_heating.cls ≠ "java/lang/invoke/VarHandle" ∧ (parseMethodDescriptor yX1_heating.desc).map (fun d => d.parameters.length) = some 3 := by decide +kernel
theorem m_ok_X1_heating : p_gm p_ms k_X1_heating = (yX1_heating, cX1_heating, (some .int)) := rfl
theorem n_ok_X1_heating : p_g p_nls k_X1_heating = 4 := rfl
theorem cS_X1_heating {b : Bool} {w : pW} {p : Program} {l : Launch} {e : Env} {R : Room} {s : State} {m : MethodId} {args : Array Value} {below : List Frame} {meth : Method} {c : Code} {own : String} {cc : ByteArray} {nL cells slots pc : Nat} {Qw : State → Prop} {d : Nat} {Q : pQ} (K : q_X b w p s m args c own cc nL R d cells slots) {idx : Nat} (hd : decode cc pc = .ok (.invokestatic idx, 3)) (w2 : Cond.methodLink own idx yX1_heating ∈ p_T) : p_sd b (q_C l b w) d Q (q_Z b w p l e R s m args below meth c nL cells slots Qw) (o_call 99 k_X1_heating 3) pc := s_cS K hd m_ok_X1_heating n_ok_X1_heating w_c_X1_heating w2 w_s_X1_heating w_I_RX1 y_ok_X1_heating (by decide)
theorem y_ok_X7_copyRow : yX7_copyRow.cls ≠ "java/lang/invoke/MethodHandle" ∧ yX7_copyRow.cls ≠ "java/lang/invoke/VarHandle" ∧ (parseMethodDescriptor yX7_copyRow.desc).map (fun d => d.parameters.length) = some 2 := by decide +kernel
theorem m_ok_X7_copyRow : p_gm p_ms k_X7_copyRow = (yX7_copyRow, cX7_copyRow, none) := rfl
theorem n_ok_X7_copyRow : p_g p_nls k_X7_copyRow = 2 := rfl
theorem cSN_X7_copyRow {b : Bool} {w : pW} {p : Program} {l : Launch} {e : Env} {R : Room} {s : State} {m : MethodId} {args : Array Value} {below : List Frame} {meth : Method} {c : Code} {own : String} {cc : ByteArray} {nL cells slots pc : Nat} {Qw : State → Prop} {d : Nat} {Q : pQ} (K : q_X b w p s m args c own cc nL R d cells slots) {idx : Nat} {host : String} (hd : decode cc pc = .ok (.invokestatic idx, 3)) (w2 : Cond.methodLinkNest own idx yX7_copyRow host ∈ p_N) : p_sd b (q_C l b w) d Q (q_Z b w p l e R s m args below meth c nL cells slots Qw) (o_call 99 k_X7_copyRow 2) pc := s_cSN K hd m_ok_X7_copyRow n_ok_X7_copyRow w_c_X7_copyRow w2 w_s_X7_copyRow w_I_RX7 y_ok_X7_copyRow (by decide)
theorem y_ok_X2_isTeller : yX2_isTeller.cls ≠ "java/lang/invoke/MethodHandle" ∧ yX2_isTeller.cls ≠ "java/lang/invoke/VarHandle" ∧ (parseMethodDescriptor yX2_isTeller.desc).map (fun d => d.parameters.length) = some 1 := by decide +kernel
theorem m_ok_X2_isTeller : p_gm p_ms k_X2_isTeller = (yX2_isTeller, cX2_isTeller, (some .boolean)) := rfl
theorem n_ok_X2_isTeller : p_g p_nls k_X2_isTeller = 2 := rfl
theorem cV_X2_isTeller {b : Bool} {w : pW} {p : Program} {l : Launch} {e : Env} {R : Room} {s : State} {m : MethodId} {args : Array Value} {below : List Frame} {meth : Method} {c : Code} {own : String} {cc : ByteArray} {nL cells slots pc : Nat} {Qw : State → Prop} {d : Nat} {Q : pQ} (K : q_X b w p s m args c own cc nL R d cells slots) {idx : Nat} (hd : decode cc pc = .ok (.invokevirtual idx, 3)) (w2 : Cond.methodLink own idx yX2_isTeller ∈ p_T) : p_sd b (q_C l b w) d Q (q_Z b w p l e R s m args below meth c nL cells slots Qw) (o_call 2 k_X2_isTeller 2) pc := s_cV K hd m_ok_X2_isTeller n_ok_X2_isTeller w_c_X2_isTeller w2 w_i_X2_isTeller w_e_X2_isTeller w_I_RX2 y_ok_X2_isTeller (by decide) (hcl := rfl) (by decide)
theorem y_ok_X2_isFact : yX2_isFact.cls ≠ "java/lang/invoke/MethodHandle" ∧ yX2_isFact.cls ≠ "java/lang/invoke/VarHandle" ∧ (parseMethodDescriptor yX2_isFact.desc).map (fun d => d.parameters.length) = some 1 := by decide +kernel
theorem m_ok_X2_isFact : p_gm p_ms k_X2_isFact = (yX2_isFact, cX2_isFact, (some .boolean)) := rfl
theorem n_ok_X2_isFact : p_g p_nls k_X2_isFact = 2 := rfl
theorem cV_X2_isFact {b : Bool} {w : pW} {p : Program} {l : Launch} {e : Env} {R : Room} {s : State} {m : MethodId} {args : Array Value} {below : List Frame} {meth : Method} {c : Code} {own : String} {cc : ByteArray} {nL cells slots pc : Nat} {Qw : State → Prop} {d : Nat} {Q : pQ} (K : q_X b w p s m args c own cc nL R d cells slots) {idx : Nat} (hd : decode cc pc = .ok (.invokevirtual idx, 3)) (w2 : Cond.methodLink own idx yX2_isFact ∈ p_T) : p_sd b (q_C l b w) d Q (q_Z b w p l e R s m args below meth c nL cells slots Qw) (o_call 2 k_X2_isFact 2) pc := s_cV K hd m_ok_X2_isFact n_ok_X2_isFact w_c_X2_isFact w2 w_i_X2_isFact w_e_X2_isFact w_I_RX2 y_ok_X2_isFact (by decide) (hcl := rfl) (by decide)
theorem y_ok_X7_within : yX7_within.cls ≠ "java/lang/invoke/MethodHandle" ∧ yX7_within.cls ≠ "java/lang/invoke/VarHandle" ∧ (parseMethodDescriptor yX7_within.desc).map (fun d => d.parameters.length) = some 3 := by decide +kernel
theorem m_ok_X7_within : p_gm p_ms k_X7_within = (yX7_within, cX7_within, (some .boolean)) := rfl
theorem n_ok_X7_within : p_g p_nls k_X7_within = 3 := rfl
theorem cSN_X7_within {b : Bool} {w : pW} {p : Program} {l : Launch} {e : Env} {R : Room} {s : State} {m : MethodId} {args : Array Value} {below : List Frame} {meth : Method} {c : Code} {own : String} {cc : ByteArray} {nL cells slots pc : Nat} {Qw : State → Prop} {d : Nat} {Q : pQ} (K : q_X b w p s m args c own cc nL R d cells slots) {idx : Nat} {host : String} (hd : decode cc pc = .ok (.invokestatic idx, 3)) (w2 : Cond.methodLinkNest own idx yX7_within host ∈ p_N) : p_sd b (q_C l b w) d Q (q_Z b w p l e R s m args below meth c nL cells slots Qw) (o_call 99 k_X7_within 3) pc := s_cSN K hd m_ok_X7_within n_ok_X7_within w_c_X7_within w2 w_s_X7_within w_I_RX7 y_ok_X7_within (by decide)
theorem y_ok_X2_allowsClaim : yX2_allowsClaim.cls ≠ "java/lang/invoke/MethodHandle" ∧ yX2_allowsClaim.cls ≠ "java/lang/invoke/VarHandle" ∧ (parseMethodDescriptor yX2_allowsClaim.desc).map (fun d => d.parameters.length) = some 4 := by decide +kernel
theorem m_ok_X2_allowsClaim : p_gm p_ms k_X2_allowsClaim = (yX2_allowsClaim, cX2_allowsClaim, (some .boolean)) := rfl
theorem n_ok_X2_allowsClaim : p_g p_nls k_X2_allowsClaim = 5 := rfl
theorem cV_X2_allowsClaim {b : Bool} {w : pW} {p : Program} {l : Launch} {e : Env} {R : Room} {s : State} {m : MethodId} {args : Array Value} {below : List Frame} {meth : Method} {c : Code} {own : String} {cc : ByteArray} {nL cells slots pc : Nat} {Qw : State → Prop} {d : Nat} {Q : pQ} (K : q_X b w p s m args c own cc nL R d cells slots) {idx : Nat} (hd : decode cc pc = .ok (.invokevirtual idx, 3)) (w2 : Cond.methodLink own idx yX2_allowsClaim ∈ p_T) : p_sd b (q_C l b w) d Q (q_Z b w p l e R s m args below meth c nL cells slots Qw) (o_call 2 k_X2_allowsClaim 5) pc := s_cV K hd m_ok_X2_allowsClaim n_ok_X2_allowsClaim w_c_X2_allowsClaim w2 w_i_X2_allowsClaim w_e_X2_allowsClaim w_I_RX2 y_ok_X2_allowsClaim (by decide) (hcl := rfl) (by decide)
theorem y_ok_X7_slide : yX7_slide.cls ≠ "java/lang/invoke/MethodHandle" ∧ yX7_slide.cls ≠ "java/lang/invoke/VarHandle" ∧ (parseMethodDescriptor yX7_slide.desc).map (fun d => d.parameters.length) = some 3 := by decide +kernel
theorem m_ok_X7_slide : p_gm p_ms k_X7_slide = (yX7_slide, cX7_slide, none) := rfl
theorem n_ok_X7_slide : p_g p_nls k_X7_slide = 5 := rfl
theorem cSN_X7_slide {b : Bool} {w : pW} {p : Program} {l : Launch} {e : Env} {R : Room} {s : State} {m : MethodId} {args : Array Value} {below : List Frame} {meth : Method} {c : Code} {own : String} {cc : ByteArray} {nL cells slots pc : Nat} {Qw : State → Prop} {d : Nat} {Q : pQ} (K : q_X b w p s m args c own cc nL R d cells slots) {idx : Nat} {host : String} (hd : decode cc pc = .ok (.invokestatic idx, 3)) (w2 : Cond.methodLinkNest own idx yX7_slide host ∈ p_N) : p_sd b (q_C l b w) d Q (q_Z b w p l e R s m args below meth c nL cells slots Qw) (o_call 99 k_X7_slide 3) pc := s_cSN K hd m_ok_X7_slide n_ok_X7_slide w_c_X7_slide w2 w_s_X7_slide w_I_RX7 y_ok_X7_slide (by decide)
theorem y_ok_X2_moveClaim : yX2_moveClaim.cls ≠ "java/lang/invoke/MethodHandle" ∧ yX2_moveClaim.cls ≠ "java/lang/invoke/VarHandle" ∧ (parseMethodDescriptor yX2_moveClaim.desc).map (fun d => d.parameters.length) = some 2 := by decide +kernel
theorem m_ok_X2_moveClaim : p_gm p_ms k_X2_moveClaim = (yX2_moveClaim, cX2_moveClaim, none) := rfl
theorem n_ok_X2_moveClaim : p_g p_nls k_X2_moveClaim = 3 := rfl
theorem cV_X2_moveClaim {b : Bool} {w : pW} {p : Program} {l : Launch} {e : Env} {R : Room} {s : State} {m : MethodId} {args : Array Value} {below : List Frame} {meth : Method} {c : Code} {own : String} {cc : ByteArray} {nL cells slots pc : Nat} {Qw : State → Prop} {d : Nat} {Q : pQ} (K : q_X b w p s m args c own cc nL R d cells slots) {idx : Nat} (hd : decode cc pc = .ok (.invokevirtual idx, 3)) (w2 : Cond.methodLink own idx yX2_moveClaim ∈ p_T) : p_sd b (q_C l b w) d Q (q_Z b w p l e R s m args below meth c nL cells slots Qw) (o_call 2 k_X2_moveClaim 3) pc := s_cV K hd m_ok_X2_moveClaim n_ok_X2_moveClaim w_c_X2_moveClaim w2 w_i_X2_moveClaim w_e_X2_moveClaim w_I_RX2 y_ok_X2_moveClaim (by decide) (hcl := rfl) (by decide)
theorem cV_X2_isFalse {b : Bool} {w : pW} {p : Program} {l : Launch} {e : Env} {R : Room} {s : State} {m : MethodId} {args : Array Value} {below : List Frame} {meth : Method} {c : Code} {own : String} {cc : ByteArray} {nL cells slots pc : Nat} {Qw : State → Prop} {d : Nat} {Q : pQ} (K : q_X b w p s m args c own cc nL R d cells slots) {idx : Nat} (hd : decode cc pc = .ok (.invokevirtual idx, 3)) (w2 : Cond.methodLink own idx yX2_isFalse ∈ p_T) : p_sd b (q_C l b w) d Q (q_Z b w p l e R s m args below meth c nL cells slots Qw) (o_call 2 k_X2_isFalse 2) pc := s_cV K hd m_ok_X2_isFalse n_ok_X2_isFalse w_c_X2_isFalse w2 w_i_X2_isFalse w_e_X2_isFalse w_I_RX2 y_ok_X2_isFalse (by decide) (hcl := rfl) (by decide)
theorem y_ok_X3_stageAt : yX3_stageAt.cls ≠ "java/lang/invoke/MethodHandle" ∧ yX3_stageAt.cls ≠ "java/lang/invoke/VarHandle" ∧ (parseMethodDescriptor yX3_stageAt.desc).map (fun d => d.parameters.length) = some 1 := by decide +kernel
theorem m_ok_X3_stageAt : p_gm p_ms k_X3_stageAt = (yX3_stageAt, cX3_stageAt, (some (.object "PokerEvening$Iron"))) := rfl
theorem n_ok_X3_stageAt : p_g p_nls k_X3_stageAt = 2 := rfl
theorem cV_X3_stageAt {b : Bool} {w : pW} {p : Program} {l : Launch} {e : Env} {R : Room} {s : State} {m : MethodId} {args : Array Value} {below : List Frame} {meth : Method} {c : Code} {own : String} {cc : ByteArray} {nL cells slots pc : Nat} {Qw : State → Prop} {d : Nat} {Q : pQ} (K : q_X b w p s m args c own cc nL R d cells slots) {idx : Nat} (hd : decode cc pc = .ok (.invokevirtual idx, 3)) (w2 : Cond.methodLink own idx yX3_stageAt ∈ p_T) : p_sd b (q_C l b w) d Q (q_Z b w p l e R s m args below meth c nL cells slots Qw) (o_call 3 k_X3_stageAt 2) pc := s_cV K hd m_ok_X3_stageAt n_ok_X3_stageAt w_c_X3_stageAt w2 w_i_X3_stageAt w_e_X3_stageAt w_I_RX3 y_ok_X3_stageAt (by decide) (hcl := rfl) (by decide)
theorem y_ok_X3_look : yX3_look.cls ≠ "java/lang/invoke/MethodHandle" ∧ yX3_look.cls ≠ "java/lang/invoke/VarHandle" ∧ (parseMethodDescriptor yX3_look.desc).map (fun d => d.parameters.length) = some 3 := by decide +kernel
theorem m_ok_X3_look : p_gm p_ms k_X3_look = (yX3_look, cX3_look, none) := rfl
theorem n_ok_X3_look : p_g p_nls k_X3_look = 7 := rfl
theorem cV_X3_look {b : Bool} {w : pW} {p : Program} {l : Launch} {e : Env} {R : Room} {s : State} {m : MethodId} {args : Array Value} {below : List Frame} {meth : Method} {c : Code} {own : String} {cc : ByteArray} {nL cells slots pc : Nat} {Qw : State → Prop} {d : Nat} {Q : pQ} (K : q_X b w p s m args c own cc nL R d cells slots) {idx : Nat} (hd : decode cc pc = .ok (.invokevirtual idx, 3)) (w2 : Cond.methodLink own idx yX3_look ∈ p_T) : p_sd b (q_C l b w) d Q (q_Z b w p l e R s m args below meth c nL cells slots Qw) (o_call 3 k_X3_look 4) pc := s_cV K hd m_ok_X3_look n_ok_X3_look w_c_X3_look w2 w_i_X3_look w_e_X3_look w_I_RX3 y_ok_X3_look (by decide) (hcl := rfl) (by decide)
theorem y_ok_J6_bitCount : yJ6_bitCount_0f7a4.cls ≠ "java/lang/invoke/MethodHandle" ∧ yJ6_bitCount_0f7a4.cls ≠ "java/lang/invoke/VarHandle" ∧ (parseMethodDescriptor yJ6_bitCount_0f7a4.desc).map (fun d => d.parameters.length) = some 1 := by decide +kernel
theorem m_ok_J6_bitCount : p_gm p_ms k_J6_bitCount = (yJ6_bitCount_0f7a4, cJ6_bitCount_0f7a4, (some .int)) := rfl
theorem n_ok_J6_bitCount : p_g p_nls k_J6_bitCount = 1 := rfl
theorem cS_J6_bitCount {b : Bool} {w : pW} {p : Program} {l : Launch} {e : Env} {R : Room} {s : State} {m : MethodId} {args : Array Value} {below : List Frame} {meth : Method} {c : Code} {own : String} {cc : ByteArray} {nL cells slots pc : Nat} {Qw : State → Prop} {d : Nat} {Q : pQ} (K : q_X b w p s m args c own cc nL R d cells slots) {idx : Nat} (hd : decode cc pc = .ok (.invokestatic idx, 3)) (w2 : Cond.methodLink own idx yJ6_bitCount_0f7a4 ∈ p_T) : p_sd b (q_C l b w) d Q (q_Z b w p l e R s m args below meth c nL cells slots Qw) (o_call 99 k_J6_bitCount 1) pc := s_cS K hd m_ok_J6_bitCount n_ok_J6_bitCount w_c_J6_bitCount w2 w_s_J6_bitCount w_I_RJ6 y_ok_J6_bitCount (by decide)
theorem y_ok_X3_tellable : yX3_tellable.cls ≠ "java/lang/invoke/MethodHandle" ∧ yX3_tellable.cls ≠ "java/lang/invoke/VarHandle" ∧ (parseMethodDescriptor yX3_tellable.desc).map (fun d => d.parameters.length) = some 3 := by decide +kernel
theorem m_ok_X3_tellable : p_gm p_ms k_X3_tellable = (yX3_tellable, cX3_tellable, (some .int)) := rfl
theorem n_ok_X3_tellable : p_g p_nls k_X3_tellable = 5 := rfl
theorem cS_X3_tellable {b : Bool} {w : pW} {p : Program} {l : Launch} {e : Env} {R : Room} {s : State} {m : MethodId} {args : Array Value} {below : List Frame} {meth : Method} {c : Code} {own : String} {cc : ByteArray} {nL cells slots pc : Nat} {Qw : State → Prop} {d : Nat} {Q : pQ} (K : q_X b w p s m args c own cc nL R d cells slots) {idx : Nat} (hd : decode cc pc = .ok (.invokestatic idx, 3)) (w2 : Cond.methodLink own idx yX3_tellable ∈ p_T) : p_sd b (q_C l b w) d Q (q_Z b w p l e R s m args below meth c nL cells slots Qw) (o_call 99 k_X3_tellable 3) pc := s_cS K hd m_ok_X3_tellable n_ok_X3_tellable w_c_X3_tellable w2 w_s_X3_tellable w_I_RX3 y_ok_X3_tellable (by decide)
theorem y_ok_X1_copyFrom : yX1_copyFrom.cls ≠ "java/lang/invoke/MethodHandle" ∧ yX1_copyFrom.cls ≠ "java/lang/invoke/VarHandle" ∧ (parseMethodDescriptor yX1_copyFrom.desc).map (fun d => d.parameters.length) = some 1 := by decide +kernel
theorem m_ok_X1_copyFrom : p_gm p_ms k_X1_copyFrom = (yX1_copyFrom, cX1_copyFrom, none) := rfl
theorem n_ok_X1_copyFrom : p_g p_nls k_X1_copyFrom = 2 := rfl
theorem cVN_X1_copyFrom {b : Bool} {w : pW} {p : Program} {l : Launch} {e : Env} {R : Room} {s : State} {m : MethodId} {args : Array Value} {below : List Frame} {meth : Method} {c : Code} {own : String} {cc : ByteArray} {nL cells slots pc : Nat} {Qw : State → Prop} {d : Nat} {Q : pQ} (K : q_X b w p s m args c own cc nL R d cells slots) {idx : Nat} {host : String} (hd : decode cc pc = .ok (.invokevirtual idx, 3)) (w2 : Cond.methodLinkNest own idx yX1_copyFrom host ∈ p_N) : p_sd b (q_C l b w) d Q (q_Z b w p l e R s m args below meth c nL cells slots Qw) (o_call 1 k_X1_copyFrom 2) pc := s_cVN K hd m_ok_X1_copyFrom n_ok_X1_copyFrom w_c_X1_copyFrom w2 w_i_X1_copyFrom w_e_X1_copyFrom w_I_RX1 y_ok_X1_copyFrom (by decide) (hcl := rfl) (by decide)
theorem y_ok_X4_dropOldest : yX4_dropOldest.cls ≠ "java/lang/invoke/MethodHandle" ∧ yX4_dropOldest.cls ≠ "java/lang/invoke/VarHandle" ∧ (parseMethodDescriptor yX4_dropOldest.desc).map (fun d => d.parameters.length) = some 0 := by decide +kernel
theorem m_ok_X4_dropOldest : p_gm p_ms k_X4_dropOldest = (yX4_dropOldest, cX4_dropOldest, none) := rfl
theorem n_ok_X4_dropOldest : p_g p_nls k_X4_dropOldest = 3 := rfl
theorem cV_X4_dropOldest {b : Bool} {w : pW} {p : Program} {l : Launch} {e : Env} {R : Room} {s : State} {m : MethodId} {args : Array Value} {below : List Frame} {meth : Method} {c : Code} {own : String} {cc : ByteArray} {nL cells slots pc : Nat} {Qw : State → Prop} {d : Nat} {Q : pQ} (K : q_X b w p s m args c own cc nL R d cells slots) {idx : Nat} (hd : decode cc pc = .ok (.invokevirtual idx, 3)) (w2 : Cond.methodLink own idx yX4_dropOldest ∈ p_T) : p_sd b (q_C l b w) d Q (q_Z b w p l e R s m args below meth c nL cells slots Qw) (o_call 4 k_X4_dropOldest 1) pc := s_cV K hd m_ok_X4_dropOldest n_ok_X4_dropOldest w_c_X4_dropOldest w2 w_i_X4_dropOldest w_e_X4_dropOldest w_I_RX4 y_ok_X4_dropOldest (by decide) (hcl := rfl) (by decide)
theorem y_ok_X4_roomAt : yX4_roomAt.cls ≠ "java/lang/invoke/MethodHandle" ∧ yX4_roomAt.cls ≠ "java/lang/invoke/VarHandle" ∧ (parseMethodDescriptor yX4_roomAt.desc).map (fun d => d.parameters.length) = some 1 := by decide +kernel
theorem m_ok_X4_roomAt : p_gm p_ms k_X4_roomAt = (yX4_roomAt, cX4_roomAt, (some (.object "PokerEvening$Room"))) := rfl
theorem n_ok_X4_roomAt : p_g p_nls k_X4_roomAt = 2 := rfl
theorem cV_X4_roomAt {b : Bool} {w : pW} {p : Program} {l : Launch} {e : Env} {R : Room} {s : State} {m : MethodId} {args : Array Value} {below : List Frame} {meth : Method} {c : Code} {own : String} {cc : ByteArray} {nL cells slots pc : Nat} {Qw : State → Prop} {d : Nat} {Q : pQ} (K : q_X b w p s m args c own cc nL R d cells slots) {idx : Nat} (hd : decode cc pc = .ok (.invokevirtual idx, 3)) (w2 : Cond.methodLink own idx yX4_roomAt ∈ p_T) : p_sd b (q_C l b w) d Q (q_Z b w p l e R s m args below meth c nL cells slots Qw) (o_call 4 k_X4_roomAt 2) pc := s_cV K hd m_ok_X4_roomAt n_ok_X4_roomAt w_c_X4_roomAt w2 w_i_X4_roomAt w_e_X4_roomAt w_I_RX4 y_ok_X4_roomAt (by decide) (hcl := rfl) (by decide)
theorem y_ok_X2_copyFrom : yX2_copyFrom.cls ≠ "java/lang/invoke/MethodHandle" ∧ yX2_copyFrom.cls ≠ "java/lang/invoke/VarHandle" ∧ (parseMethodDescriptor yX2_copyFrom.desc).map (fun d => d.parameters.length) = some 1 := by decide +kernel
theorem m_ok_X2_copyFrom : p_gm p_ms k_X2_copyFrom = (yX2_copyFrom, cX2_copyFrom, none) := rfl
theorem n_ok_X2_copyFrom : p_g p_nls k_X2_copyFrom = 2 := rfl
theorem cVN_X2_copyFrom {b : Bool} {w : pW} {p : Program} {l : Launch} {e : Env} {R : Room} {s : State} {m : MethodId} {args : Array Value} {below : List Frame} {meth : Method} {c : Code} {own : String} {cc : ByteArray} {nL cells slots pc : Nat} {Qw : State → Prop} {d : Nat} {Q : pQ} (K : q_X b w p s m args c own cc nL R d cells slots) {idx : Nat} {host : String} (hd : decode cc pc = .ok (.invokevirtual idx, 3)) (w2 : Cond.methodLinkNest own idx yX2_copyFrom host ∈ p_N) : p_sd b (q_C l b w) d Q (q_Z b w p l e R s m args below meth c nL cells slots Qw) (o_call 2 k_X2_copyFrom 2) pc := s_cVN K hd m_ok_X2_copyFrom n_ok_X2_copyFrom w_c_X2_copyFrom w2 w_i_X2_copyFrom w_e_X2_copyFrom w_I_RX2 y_ok_X2_copyFrom (by decide) (hcl := rfl) (by decide)
theorem y_ok_X2_clear : yX2_clear.cls ≠ "java/lang/invoke/MethodHandle" ∧ yX2_clear.cls ≠ "java/lang/invoke/VarHandle" ∧ (parseMethodDescriptor yX2_clear.desc).map (fun d => d.parameters.length) = some 0 := by decide +kernel
theorem m_ok_X2_clear : p_gm p_ms k_X2_clear = (yX2_clear, cX2_clear, none) := rfl
theorem n_ok_X2_clear : p_g p_nls k_X2_clear = 1 := rfl
theorem cVN_X2_clear {b : Bool} {w : pW} {p : Program} {l : Launch} {e : Env} {R : Room} {s : State} {m : MethodId} {args : Array Value} {below : List Frame} {meth : Method} {c : Code} {own : String} {cc : ByteArray} {nL cells slots pc : Nat} {Qw : State → Prop} {d : Nat} {Q : pQ} (K : q_X b w p s m args c own cc nL R d cells slots) {idx : Nat} {host : String} (hd : decode cc pc = .ok (.invokevirtual idx, 3)) (w2 : Cond.methodLinkNest own idx yX2_clear host ∈ p_N) : p_sd b (q_C l b w) d Q (q_Z b w p l e R s m args below meth c nL cells slots Qw) (o_call 2 k_X2_clear 1) pc := s_cVN K hd m_ok_X2_clear n_ok_X2_clear w_c_X2_clear w2 w_i_X2_clear w_e_X2_clear w_I_RX2 y_ok_X2_clear (by decide) (hcl := rfl) (by decide)
theorem y_ok_X6_readItem : yX6_readItem.cls ≠ "java/lang/invoke/MethodHandle" ∧ yX6_readItem.cls ≠ "java/lang/invoke/VarHandle" ∧ (parseMethodDescriptor yX6_readItem.desc).map (fun d => d.parameters.length) = some 1 := by decide +kernel
theorem m_ok_X6_readItem : p_gm p_ms k_X6_readItem = (yX6_readItem, cX6_readItem, (some .boolean)) := rfl
theorem n_ok_X6_readItem : p_g p_nls k_X6_readItem = 2 := rfl
theorem cV_X6_readItem {b : Bool} {w : pW} {p : Program} {l : Launch} {e : Env} {R : Room} {s : State} {m : MethodId} {args : Array Value} {below : List Frame} {meth : Method} {c : Code} {own : String} {cc : ByteArray} {nL cells slots pc : Nat} {Qw : State → Prop} {d : Nat} {Q : pQ} (K : q_X b w p s m args c own cc nL R d cells slots) {idx : Nat} (hd : decode cc pc = .ok (.invokevirtual idx, 3)) (w2 : Cond.methodLink own idx yX6_readItem ∈ p_T) : p_sd b (q_C l b w) d Q (q_Z b w p l e R s m args below meth c nL cells slots Qw) (o_call 6 k_X6_readItem 2) pc := s_cV K hd m_ok_X6_readItem n_ok_X6_readItem w_c_X6_readItem w2 w_i_X6_readItem w_e_X6_readItem w_I_RX6 y_ok_X6_readItem (by decide) (hcl := rfl) (by decide)
theorem y_ok_X6_take : yX6_take.cls ≠ "java/lang/invoke/MethodHandle" ∧ yX6_take.cls ≠ "java/lang/invoke/VarHandle" ∧ (parseMethodDescriptor yX6_take.desc).map (fun d => d.parameters.length) = some 0 := by decide +kernel
theorem m_ok_X6_take : p_gm p_ms k_X6_take = (yX6_take, cX6_take, (some .int)) := rfl
theorem n_ok_X6_take : p_g p_nls k_X6_take = 2 := rfl
theorem cV_X6_take {b : Bool} {w : pW} {p : Program} {l : Launch} {e : Env} {R : Room} {s : State} {m : MethodId} {args : Array Value} {below : List Frame} {meth : Method} {c : Code} {own : String} {cc : ByteArray} {nL cells slots pc : Nat} {Qw : State → Prop} {d : Nat} {Q : pQ} (K : q_X b w p s m args c own cc nL R d cells slots) {idx : Nat} (hd : decode cc pc = .ok (.invokevirtual idx, 3)) (w2 : Cond.methodLink own idx yX6_take ∈ p_T) : p_sd b (q_C l b w) d Q (q_Z b w p l e R s m args below meth c nL cells slots Qw) (o_call 6 k_X6_take 1) pc := s_cV K hd m_ok_X6_take n_ok_X6_take w_c_X6_take w2 w_i_X6_take w_e_X6_take w_I_RX6 y_ok_X6_take (by decide) (hcl := rfl) (by decide)
theorem y_ok_X6_readNumbers : yX6_readNumbers.cls ≠ "java/lang/invoke/MethodHandle" ∧ yX6_readNumbers.cls ≠ "java/lang/invoke/VarHandle" ∧ (parseMethodDescriptor yX6_readNumbers.desc).map (fun d => d.parameters.length) = some 1 := by decide +kernel
theorem m_ok_X6_readNumbers : p_gm p_ms k_X6_readNumbers = (yX6_readNumbers, cX6_readNumbers, (some .boolean)) := rfl
theorem n_ok_X6_readNumbers : p_g p_nls k_X6_readNumbers = 4 := rfl
theorem cV_X6_readNumbers {b : Bool} {w : pW} {p : Program} {l : Launch} {e : Env} {R : Room} {s : State} {m : MethodId} {args : Array Value} {below : List Frame} {meth : Method} {c : Code} {own : String} {cc : ByteArray} {nL cells slots pc : Nat} {Qw : State → Prop} {d : Nat} {Q : pQ} (K : q_X b w p s m args c own cc nL R d cells slots) {idx : Nat} (hd : decode cc pc = .ok (.invokevirtual idx, 3)) (w2 : Cond.methodLink own idx yX6_readNumbers ∈ p_T) : p_sd b (q_C l b w) d Q (q_Z b w p l e R s m args below meth c nL cells slots Qw) (o_call 6 k_X6_readNumbers 2) pc := s_cV K hd m_ok_X6_readNumbers n_ok_X6_readNumbers w_c_X6_readNumbers w2 w_i_X6_readNumbers w_e_X6_readNumbers w_I_RX6 y_ok_X6_readNumbers (by decide) (hcl := rfl) (by decide)
theorem y_ok_X2_addTeller : yX2_addTeller.cls ≠ "java/lang/invoke/MethodHandle" ∧ yX2_addTeller.cls ≠ "java/lang/invoke/VarHandle" ∧ (parseMethodDescriptor yX2_addTeller.desc).map (fun d => d.parameters.length) = some 2 := by decide +kernel
theorem m_ok_X2_addTeller : p_gm p_ms k_X2_addTeller = (yX2_addTeller, cX2_addTeller, (some .boolean)) := rfl
theorem n_ok_X2_addTeller : p_g p_nls k_X2_addTeller = 3 := rfl
theorem cVN_X2_addTeller {b : Bool} {w : pW} {p : Program} {l : Launch} {e : Env} {R : Room} {s : State} {m : MethodId} {args : Array Value} {below : List Frame} {meth : Method} {c : Code} {own : String} {cc : ByteArray} {nL cells slots pc : Nat} {Qw : State → Prop} {d : Nat} {Q : pQ} (K : q_X b w p s m args c own cc nL R d cells slots) {idx : Nat} {host : String} (hd : decode cc pc = .ok (.invokevirtual idx, 3)) (w2 : Cond.methodLinkNest own idx yX2_addTeller host ∈ p_N) : p_sd b (q_C l b w) d Q (q_Z b w p l e R s m args below meth c nL cells slots Qw) (o_call 2 k_X2_addTeller 3) pc := s_cVN K hd m_ok_X2_addTeller n_ok_X2_addTeller w_c_X2_addTeller w2 w_i_X2_addTeller w_e_X2_addTeller w_I_RX2 y_ok_X2_addTeller (by decide) (hcl := rfl) (by decide)
theorem y_ok_X2_addFact : yX2_addFact.cls ≠ "java/lang/invoke/MethodHandle" ∧ yX2_addFact.cls ≠ "java/lang/invoke/VarHandle" ∧ (parseMethodDescriptor yX2_addFact.desc).map (fun d => d.parameters.length) = some 1 := by decide +kernel
theorem m_ok_X2_addFact : p_gm p_ms k_X2_addFact = (yX2_addFact, cX2_addFact, (some .boolean)) := rfl
theorem n_ok_X2_addFact : p_g p_nls k_X2_addFact = 2 := rfl
theorem cVN_X2_addFact {b : Bool} {w : pW} {p : Program} {l : Launch} {e : Env} {R : Room} {s : State} {m : MethodId} {args : Array Value} {below : List Frame} {meth : Method} {c : Code} {own : String} {cc : ByteArray} {nL cells slots pc : Nat} {Qw : State → Prop} {d : Nat} {Q : pQ} (K : q_X b w p s m args c own cc nL R d cells slots) {idx : Nat} {host : String} (hd : decode cc pc = .ok (.invokevirtual idx, 3)) (w2 : Cond.methodLinkNest own idx yX2_addFact host ∈ p_N) : p_sd b (q_C l b w) d Q (q_Z b w p l e R s m args below meth c nL cells slots Qw) (o_call 2 k_X2_addFact 2) pc := s_cVN K hd m_ok_X2_addFact n_ok_X2_addFact w_c_X2_addFact w2 w_i_X2_addFact w_e_X2_addFact w_I_RX2 y_ok_X2_addFact (by decide) (hcl := rfl) (by decide)
theorem y_ok_X2_addClaim : yX2_addClaim.cls ≠ "java/lang/invoke/MethodHandle" ∧ yX2_addClaim.cls ≠ "java/lang/invoke/VarHandle" ∧ (parseMethodDescriptor yX2_addClaim.desc).map (fun d => d.parameters.length) = some 4 := by decide +kernel
theorem m_ok_X2_addClaim : p_gm p_ms k_X2_addClaim = (yX2_addClaim, cX2_addClaim, (some .boolean)) := rfl
theorem n_ok_X2_addClaim : p_g p_nls k_X2_addClaim = 5 := rfl
theorem cVN_X2_addClaim {b : Bool} {w : pW} {p : Program} {l : Launch} {e : Env} {R : Room} {s : State} {m : MethodId} {args : Array Value} {below : List Frame} {meth : Method} {c : Code} {own : String} {cc : ByteArray} {nL cells slots pc : Nat} {Qw : State → Prop} {d : Nat} {Q : pQ} (K : q_X b w p s m args c own cc nL R d cells slots) {idx : Nat} {host : String} (hd : decode cc pc = .ok (.invokevirtual idx, 3)) (w2 : Cond.methodLinkNest own idx yX2_addClaim host ∈ p_N) : p_sd b (q_C l b w) d Q (q_Z b w p l e R s m args below meth c nL cells slots Qw) (o_call 2 k_X2_addClaim 5) pc := s_cVN K hd m_ok_X2_addClaim n_ok_X2_addClaim w_c_X2_addClaim w2 w_i_X2_addClaim w_e_X2_addClaim w_I_RX2 y_ok_X2_addClaim (by decide) (hcl := rfl) (by decide)
theorem y_ok_X6_peek : yX6_peek.cls ≠ "java/lang/invoke/MethodHandle" ∧ yX6_peek.cls ≠ "java/lang/invoke/VarHandle" ∧ (parseMethodDescriptor yX6_peek.desc).map (fun d => d.parameters.length) = some 0 := by decide +kernel
theorem m_ok_X6_peek : p_gm p_ms k_X6_peek = (yX6_peek, cX6_peek, (some .int)) := rfl
theorem n_ok_X6_peek : p_g p_nls k_X6_peek = 1 := rfl
theorem cV_X6_peek {b : Bool} {w : pW} {p : Program} {l : Launch} {e : Env} {R : Room} {s : State} {m : MethodId} {args : Array Value} {below : List Frame} {meth : Method} {c : Code} {own : String} {cc : ByteArray} {nL cells slots pc : Nat} {Qw : State → Prop} {d : Nat} {Q : pQ} (K : q_X b w p s m args c own cc nL R d cells slots) {idx : Nat} (hd : decode cc pc = .ok (.invokevirtual idx, 3)) (w2 : Cond.methodLink own idx yX6_peek ∈ p_T) : p_sd b (q_C l b w) d Q (q_Z b w p l e R s m args below meth c nL cells slots Qw) (o_call 6 k_X6_peek 1) pc := s_cV K hd m_ok_X6_peek n_ok_X6_peek w_c_X6_peek w2 w_i_X6_peek w_e_X6_peek w_I_RX6 y_ok_X6_peek (by decide) (hcl := rfl) (by decide)
theorem y_ok_X6_isFigure : yX6_isFigure.cls ≠ "java/lang/invoke/MethodHandle" ∧ yX6_isFigure.cls ≠ "java/lang/invoke/VarHandle" ∧ (parseMethodDescriptor yX6_isFigure.desc).map (fun d => d.parameters.length) = some 1 := by decide +kernel
theorem m_ok_X6_isFigure : p_gm p_ms k_X6_isFigure = (yX6_isFigure, cX6_isFigure, (some .boolean)) := rfl
theorem n_ok_X6_isFigure : p_g p_nls k_X6_isFigure = 1 := rfl
theorem cS_X6_isFigure {b : Bool} {w : pW} {p : Program} {l : Launch} {e : Env} {R : Room} {s : State} {m : MethodId} {args : Array Value} {below : List Frame} {meth : Method} {c : Code} {own : String} {cc : ByteArray} {nL cells slots pc : Nat} {Qw : State → Prop} {d : Nat} {Q : pQ} (K : q_X b w p s m args c own cc nL R d cells slots) {idx : Nat} (hd : decode cc pc = .ok (.invokestatic idx, 3)) (w2 : Cond.methodLink own idx yX6_isFigure ∈ p_T) : p_sd b (q_C l b w) d Q (q_Z b w p l e R s m args below meth c nL cells slots Qw) (o_call 99 k_X6_isFigure 1) pc := s_cS K hd m_ok_X6_isFigure n_ok_X6_isFigure w_c_X6_isFigure w2 w_s_X6_isFigure w_I_RX6 y_ok_X6_isFigure (by decide)
theorem cS_X7_within {b : Bool} {w : pW} {p : Program} {l : Launch} {e : Env} {R : Room} {s : State} {m : MethodId} {args : Array Value} {below : List Frame} {meth : Method} {c : Code} {own : String} {cc : ByteArray} {nL cells slots pc : Nat} {Qw : State → Prop} {d : Nat} {Q : pQ} (K : q_X b w p s m args c own cc nL R d cells slots) {idx : Nat} (hd : decode cc pc = .ok (.invokestatic idx, 3)) (w2 : Cond.methodLink own idx yX7_within ∈ p_T) : p_sd b (q_C l b w) d Q (q_Z b w p l e R s m args below meth c nL cells slots Qw) (o_call 99 k_X7_within 3) pc := s_cS K hd m_ok_X7_within n_ok_X7_within w_c_X7_within w2 w_s_X7_within w_I_RX7 y_ok_X7_within (by decide)
theorem y_ok_X6_append : yX6_append.cls ≠ "java/lang/invoke/MethodHandle" ∧ yX6_append.cls ≠ "java/lang/invoke/VarHandle" ∧ (parseMethodDescriptor yX6_append.desc).map (fun d => d.parameters.length) = some 1 := by decide +kernel
theorem m_ok_X6_append : p_gm p_ms k_X6_append = (yX6_append, cX6_append, (some .boolean)) := rfl
theorem n_ok_X6_append : p_g p_nls k_X6_append = 2 := rfl
theorem cVN_X6_append {b : Bool} {w : pW} {p : Program} {l : Launch} {e : Env} {R : Room} {s : State} {m : MethodId} {args : Array Value} {below : List Frame} {meth : Method} {c : Code} {own : String} {cc : ByteArray} {nL cells slots pc : Nat} {Qw : State → Prop} {d : Nat} {Q : pQ} (K : q_X b w p s m args c own cc nL R d cells slots) {idx : Nat} {host : String} (hd : decode cc pc = .ok (.invokevirtual idx, 3)) (w2 : Cond.methodLinkNest own idx yX6_append host ∈ p_N) : p_sd b (q_C l b w) d Q (q_Z b w p l e R s m args below meth c nL cells slots Qw) (o_call 6 k_X6_append 2) pc := s_cVN K hd m_ok_X6_append n_ok_X6_append w_c_X6_append w2 w_i_X6_append w_e_X6_append w_I_RX6 y_ok_X6_append (by decide) (hcl := rfl) (by decide)
theorem y_ok_X6_clear : yX6_clear.cls ≠ "java/lang/invoke/MethodHandle" ∧ yX6_clear.cls ≠ "java/lang/invoke/VarHandle" ∧ (parseMethodDescriptor yX6_clear.desc).map (fun d => d.parameters.length) = some 0 := by decide +kernel
theorem m_ok_X6_clear : p_gm p_ms k_X6_clear = (yX6_clear, cX6_clear, none) := rfl
theorem n_ok_X6_clear : p_g p_nls k_X6_clear = 1 := rfl
theorem cVN_X6_clear {b : Bool} {w : pW} {p : Program} {l : Launch} {e : Env} {R : Room} {s : State} {m : MethodId} {args : Array Value} {below : List Frame} {meth : Method} {c : Code} {own : String} {cc : ByteArray} {nL cells slots pc : Nat} {Qw : State → Prop} {d : Nat} {Q : pQ} (K : q_X b w p s m args c own cc nL R d cells slots) {idx : Nat} {host : String} (hd : decode cc pc = .ok (.invokevirtual idx, 3)) (w2 : Cond.methodLinkNest own idx yX6_clear host ∈ p_N) : p_sd b (q_C l b w) d Q (q_Z b w p l e R s m args below meth c nL cells slots Qw) (o_call 6 k_X6_clear 1) pc := s_cVN K hd m_ok_X6_clear n_ok_X6_clear w_c_X6_clear w2 w_i_X6_clear w_e_X6_clear w_I_RX6 y_ok_X6_clear (by decide) (hcl := rfl) (by decide)
theorem y_ok_X6_readInto : yX6_readInto.cls ≠ "java/lang/invoke/MethodHandle" ∧ yX6_readInto.cls ≠ "java/lang/invoke/VarHandle" ∧ (parseMethodDescriptor yX6_readInto.desc).map (fun d => d.parameters.length) = some 1 := by decide +kernel
theorem m_ok_X6_readInto : p_gm p_ms k_X6_readInto = (yX6_readInto, cX6_readInto, (some .int)) := rfl
theorem n_ok_X6_readInto : p_g p_nls k_X6_readInto = 4 := rfl
theorem cVN_X6_readInto {b : Bool} {w : pW} {p : Program} {l : Launch} {e : Env} {R : Room} {s : State} {m : MethodId} {args : Array Value} {below : List Frame} {meth : Method} {c : Code} {own : String} {cc : ByteArray} {nL cells slots pc : Nat} {Qw : State → Prop} {d : Nat} {Q : pQ} (K : q_X b w p s m args c own cc nL R d cells slots) {idx : Nat} {host : String} (hd : decode cc pc = .ok (.invokevirtual idx, 3)) (w2 : Cond.methodLinkNest own idx yX6_readInto host ∈ p_N) : p_sd b (q_C l b w) d Q (q_Z b w p l e R s m args below meth c nL cells slots Qw) (o_call 6 k_X6_readInto 2) pc := s_cVN K hd m_ok_X6_readInto n_ok_X6_readInto w_c_X6_readInto w2 w_i_X6_readInto w_e_X6_readInto w_I_RX6 y_ok_X6_readInto (by decide) (hcl := rfl) (by decide)
theorem y_ok_X5_clear : yX5_clear.cls ≠ "java/lang/invoke/MethodHandle" ∧ yX5_clear.cls ≠ "java/lang/invoke/VarHandle" ∧ (parseMethodDescriptor yX5_clear.desc).map (fun d => d.parameters.length) = some 0 := by decide +kernel
theorem m_ok_X5_clear : p_gm p_ms k_X5_clear = (yX5_clear, cX5_clear, none) := rfl
theorem n_ok_X5_clear : p_g p_nls k_X5_clear = 1 := rfl
theorem cVN_X5_clear {b : Bool} {w : pW} {p : Program} {l : Launch} {e : Env} {R : Room} {s : State} {m : MethodId} {args : Array Value} {below : List Frame} {meth : Method} {c : Code} {own : String} {cc : ByteArray} {nL cells slots pc : Nat} {Qw : State → Prop} {d : Nat} {Q : pQ} (K : q_X b w p s m args c own cc nL R d cells slots) {idx : Nat} {host : String} (hd : decode cc pc = .ok (.invokevirtual idx, 3)) (w2 : Cond.methodLinkNest own idx yX5_clear host ∈ p_N) : p_sd b (q_C l b w) d Q (q_Z b w p l e R s m args below meth c nL cells slots Qw) (o_call 5 k_X5_clear 1) pc := s_cVN K hd m_ok_X5_clear n_ok_X5_clear w_c_X5_clear w2 w_i_X5_clear w_e_X5_clear w_I_RX5 y_ok_X5_clear (by decide) (hcl := rfl) (by decide)
theorem y_ok_X4_clear : yX4_clear.cls ≠ "java/lang/invoke/MethodHandle" ∧ yX4_clear.cls ≠ "java/lang/invoke/VarHandle" ∧ (parseMethodDescriptor yX4_clear.desc).map (fun d => d.parameters.length) = some 0 := by decide +kernel
theorem m_ok_X4_clear : p_gm p_ms k_X4_clear = (yX4_clear, cX4_clear, none) := rfl
theorem n_ok_X4_clear : p_g p_nls k_X4_clear = 1 := rfl
theorem cVN_X4_clear {b : Bool} {w : pW} {p : Program} {l : Launch} {e : Env} {R : Room} {s : State} {m : MethodId} {args : Array Value} {below : List Frame} {meth : Method} {c : Code} {own : String} {cc : ByteArray} {nL cells slots pc : Nat} {Qw : State → Prop} {d : Nat} {Q : pQ} (K : q_X b w p s m args c own cc nL R d cells slots) {idx : Nat} {host : String} (hd : decode cc pc = .ok (.invokevirtual idx, 3)) (w2 : Cond.methodLinkNest own idx yX4_clear host ∈ p_N) : p_sd b (q_C l b w) d Q (q_Z b w p l e R s m args below meth c nL cells slots Qw) (o_call 4 k_X4_clear 1) pc := s_cVN K hd m_ok_X4_clear n_ok_X4_clear w_c_X4_clear w2 w_i_X4_clear w_e_X4_clear w_I_RX4 y_ok_X4_clear (by decide) (hcl := rfl) (by decide)
theorem cVN_X2_isTeller {b : Bool} {w : pW} {p : Program} {l : Launch} {e : Env} {R : Room} {s : State} {m : MethodId} {args : Array Value} {below : List Frame} {meth : Method} {c : Code} {own : String} {cc : ByteArray} {nL cells slots pc : Nat} {Qw : State → Prop} {d : Nat} {Q : pQ} (K : q_X b w p s m args c own cc nL R d cells slots) {idx : Nat} {host : String} (hd : decode cc pc = .ok (.invokevirtual idx, 3)) (w2 : Cond.methodLinkNest own idx yX2_isTeller host ∈ p_N) : p_sd b (q_C l b w) d Q (q_Z b w p l e R s m args below meth c nL cells slots Qw) (o_call 2 k_X2_isTeller 2) pc := s_cVN K hd m_ok_X2_isTeller n_ok_X2_isTeller w_c_X2_isTeller w2 w_i_X2_isTeller w_e_X2_isTeller w_I_RX2 y_ok_X2_isTeller (by decide) (hcl := rfl) (by decide)
theorem cS_X7_at {b : Bool} {w : pW} {p : Program} {l : Launch} {e : Env} {R : Room} {s : State} {m : MethodId} {args : Array Value} {below : List Frame} {meth : Method} {c : Code} {own : String} {cc : ByteArray} {nL cells slots pc : Nat} {Qw : State → Prop} {d : Nat} {Q : pQ} (K : q_X b w p s m args c own cc nL R d cells slots) {idx : Nat} (hd : decode cc pc = .ok (.invokestatic idx, 3)) (w2 : Cond.methodLink own idx yX7_at ∈ p_T) : p_sd b (q_C l b w) d Q (q_Z b w p l e R s m args below meth c nL cells slots Qw) (o_call 99 k_X7_at 2) pc := s_cS K hd m_ok_X7_at n_ok_X7_at w_c_X7_at w2 w_s_X7_at w_I_RX7 y_ok_X7_at (by decide)
theorem cVN_X2_isFact {b : Bool} {w : pW} {p : Program} {l : Launch} {e : Env} {R : Room} {s : State} {m : MethodId} {args : Array Value} {below : List Frame} {meth : Method} {c : Code} {own : String} {cc : ByteArray} {nL cells slots pc : Nat} {Qw : State → Prop} {d : Nat} {Q : pQ} (K : q_X b w p s m args c own cc nL R d cells slots) {idx : Nat} {host : String} (hd : decode cc pc = .ok (.invokevirtual idx, 3)) (w2 : Cond.methodLinkNest own idx yX2_isFact host ∈ p_N) : p_sd b (q_C l b w) d Q (q_Z b w p l e R s m args below meth c nL cells slots Qw) (o_call 2 k_X2_isFact 2) pc := s_cVN K hd m_ok_X2_isFact n_ok_X2_isFact w_c_X2_isFact w2 w_i_X2_isFact w_e_X2_isFact w_I_RX2 y_ok_X2_isFact (by decide) (hcl := rfl) (by decide)
theorem cS_X7_bit {b : Bool} {w : pW} {p : Program} {l : Launch} {e : Env} {R : Room} {s : State} {m : MethodId} {args : Array Value} {below : List Frame} {meth : Method} {c : Code} {own : String} {cc : ByteArray} {nL cells slots pc : Nat} {Qw : State → Prop} {d : Nat} {Q : pQ} (K : q_X b w p s m args c own cc nL R d cells slots) {idx : Nat} (hd : decode cc pc = .ok (.invokestatic idx, 3)) (w2 : Cond.methodLink own idx yX7_bit ∈ p_T) : p_sd b (q_C l b w) d Q (q_Z b w p l e R s m args below meth c nL cells slots Qw) (o_call 99 k_X7_bit 2) pc := s_cS K hd m_ok_X7_bit n_ok_X7_bit w_c_X7_bit w2 w_s_X7_bit w_I_RX7 y_ok_X7_bit (by decide)
theorem y_ok_X2_isClaim : yX2_isClaim.cls ≠ "java/lang/invoke/MethodHandle" ∧ yX2_isClaim.cls ≠ "java/lang/invoke/VarHandle" ∧ (parseMethodDescriptor yX2_isClaim.desc).map (fun d => d.parameters.length) = some 1 := by decide +kernel
theorem m_ok_X2_isClaim : p_gm p_ms k_X2_isClaim = (yX2_isClaim, cX2_isClaim, (some .boolean)) := rfl
theorem n_ok_X2_isClaim : p_g p_nls k_X2_isClaim = 2 := rfl
theorem cVN_X2_isClaim {b : Bool} {w : pW} {p : Program} {l : Launch} {e : Env} {R : Room} {s : State} {m : MethodId} {args : Array Value} {below : List Frame} {meth : Method} {c : Code} {own : String} {cc : ByteArray} {nL cells slots pc : Nat} {Qw : State → Prop} {d : Nat} {Q : pQ} (K : q_X b w p s m args c own cc nL R d cells slots) {idx : Nat} {host : String} (hd : decode cc pc = .ok (.invokevirtual idx, 3)) (w2 : Cond.methodLinkNest own idx yX2_isClaim host ∈ p_N) : p_sd b (q_C l b w) d Q (q_Z b w p l e R s m args below meth c nL cells slots Qw) (o_call 2 k_X2_isClaim 2) pc := s_cVN K hd m_ok_X2_isClaim n_ok_X2_isClaim w_c_X2_isClaim w2 w_i_X2_isClaim w_e_X2_isClaim w_I_RX2 y_ok_X2_isClaim (by decide) (hcl := rfl) (by decide)
theorem y_ok_X4_push : yX4_push.cls ≠ "java/lang/invoke/MethodHandle" ∧ yX4_push.cls ≠ "java/lang/invoke/VarHandle" ∧ (parseMethodDescriptor yX4_push.desc).map (fun d => d.parameters.length) = some 1 := by decide +kernel
theorem m_ok_X4_push : p_gm p_ms k_X4_push = (yX4_push, cX4_push, none) := rfl
theorem n_ok_X4_push : p_g p_nls k_X4_push = 3 := rfl
theorem cVN_X4_push {b : Bool} {w : pW} {p : Program} {l : Launch} {e : Env} {R : Room} {s : State} {m : MethodId} {args : Array Value} {below : List Frame} {meth : Method} {c : Code} {own : String} {cc : ByteArray} {nL cells slots pc : Nat} {Qw : State → Prop} {d : Nat} {Q : pQ} (K : q_X b w p s m args c own cc nL R d cells slots) {idx : Nat} {host : String} (hd : decode cc pc = .ok (.invokevirtual idx, 3)) (w2 : Cond.methodLinkNest own idx yX4_push host ∈ p_N) : p_sd b (q_C l b w) d Q (q_Z b w p l e R s m args below meth c nL cells slots Qw) (o_call 4 k_X4_push 2) pc := s_cVN K hd m_ok_X4_push n_ok_X4_push w_c_X4_push w2 w_i_X4_push w_e_X4_push w_I_RX4 y_ok_X4_push (by decide) (hcl := rfl) (by decide)
theorem y_ok_X2_turnFact : yX2_turnFact.cls ≠ "java/lang/invoke/MethodHandle" ∧ yX2_turnFact.cls ≠ "java/lang/invoke/VarHandle" ∧ (parseMethodDescriptor yX2_turnFact.desc).map (fun d => d.parameters.length) = some 1 := by decide +kernel
theorem m_ok_X2_turnFact : p_gm p_ms k_X2_turnFact = (yX2_turnFact, cX2_turnFact, none) := rfl
theorem n_ok_X2_turnFact : p_g p_nls k_X2_turnFact = 2 := rfl
theorem cVN_X2_turnFact {b : Bool} {w : pW} {p : Program} {l : Launch} {e : Env} {R : Room} {s : State} {m : MethodId} {args : Array Value} {below : List Frame} {meth : Method} {c : Code} {own : String} {cc : ByteArray} {nL cells slots pc : Nat} {Qw : State → Prop} {d : Nat} {Q : pQ} (K : q_X b w p s m args c own cc nL R d cells slots) {idx : Nat} {host : String} (hd : decode cc pc = .ok (.invokevirtual idx, 3)) (w2 : Cond.methodLinkNest own idx yX2_turnFact host ∈ p_N) : p_sd b (q_C l b w) d Q (q_Z b w p l e R s m args below meth c nL cells slots Qw) (o_call 2 k_X2_turnFact 2) pc := s_cVN K hd m_ok_X2_turnFact n_ok_X2_turnFact w_c_X2_turnFact w2 w_i_X2_turnFact w_e_X2_turnFact w_I_RX2 y_ok_X2_turnFact (by decide) (hcl := rfl) (by decide)
theorem cVN_X2_allowsClaim {b : Bool} {w : pW} {p : Program} {l : Launch} {e : Env} {R : Room} {s : State} {m : MethodId} {args : Array Value} {below : List Frame} {meth : Method} {c : Code} {own : String} {cc : ByteArray} {nL cells slots pc : Nat} {Qw : State → Prop} {d : Nat} {Q : pQ} (K : q_X b w p s m args c own cc nL R d cells slots) {idx : Nat} {host : String} (hd : decode cc pc = .ok (.invokevirtual idx, 3)) (w2 : Cond.methodLinkNest own idx yX2_allowsClaim host ∈ p_N) : p_sd b (q_C l b w) d Q (q_Z b w p l e R s m args below meth c nL cells slots Qw) (o_call 2 k_X2_allowsClaim 5) pc := s_cVN K hd m_ok_X2_allowsClaim n_ok_X2_allowsClaim w_c_X2_allowsClaim w2 w_i_X2_allowsClaim w_e_X2_allowsClaim w_I_RX2 y_ok_X2_allowsClaim (by decide) (hcl := rfl) (by decide)
theorem y_ok_X2_removeClaim : yX2_removeClaim.cls ≠ "java/lang/invoke/MethodHandle" ∧ yX2_removeClaim.cls ≠ "java/lang/invoke/VarHandle" ∧ (parseMethodDescriptor yX2_removeClaim.desc).map (fun d => d.parameters.length) = some 1 := by decide +kernel
theorem m_ok_X2_removeClaim : p_gm p_ms k_X2_removeClaim = (yX2_removeClaim, cX2_removeClaim, none) := rfl
theorem n_ok_X2_removeClaim : p_g p_nls k_X2_removeClaim = 2 := rfl
theorem cVN_X2_removeClaim {b : Bool} {w : pW} {p : Program} {l : Launch} {e : Env} {R : Room} {s : State} {m : MethodId} {args : Array Value} {below : List Frame} {meth : Method} {c : Code} {own : String} {cc : ByteArray} {nL cells slots pc : Nat} {Qw : State → Prop} {d : Nat} {Q : pQ} (K : q_X b w p s m args c own cc nL R d cells slots) {idx : Nat} {host : String} (hd : decode cc pc = .ok (.invokevirtual idx, 3)) (w2 : Cond.methodLinkNest own idx yX2_removeClaim host ∈ p_N) : p_sd b (q_C l b w) d Q (q_Z b w p l e R s m args below meth c nL cells slots Qw) (o_call 2 k_X2_removeClaim 2) pc := s_cVN K hd m_ok_X2_removeClaim n_ok_X2_removeClaim w_c_X2_removeClaim w2 w_i_X2_removeClaim w_e_X2_removeClaim w_I_RX2 y_ok_X2_removeClaim (by decide) (hcl := rfl) (by decide)
theorem cVN_X2_moveClaim {b : Bool} {w : pW} {p : Program} {l : Launch} {e : Env} {R : Room} {s : State} {m : MethodId} {args : Array Value} {below : List Frame} {meth : Method} {c : Code} {own : String} {cc : ByteArray} {nL cells slots pc : Nat} {Qw : State → Prop} {d : Nat} {Q : pQ} (K : q_X b w p s m args c own cc nL R d cells slots) {idx : Nat} {host : String} (hd : decode cc pc = .ok (.invokevirtual idx, 3)) (w2 : Cond.methodLinkNest own idx yX2_moveClaim host ∈ p_N) : p_sd b (q_C l b w) d Q (q_Z b w p l e R s m args below meth c nL cells slots Qw) (o_call 2 k_X2_moveClaim 3) pc := s_cVN K hd m_ok_X2_moveClaim n_ok_X2_moveClaim w_c_X2_moveClaim w2 w_i_X2_moveClaim w_e_X2_moveClaim w_I_RX2 y_ok_X2_moveClaim (by decide) (hcl := rfl) (by decide)
theorem cS_X7_put {b : Bool} {w : pW} {p : Program} {l : Launch} {e : Env} {R : Room} {s : State} {m : MethodId} {args : Array Value} {below : List Frame} {meth : Method} {c : Code} {own : String} {cc : ByteArray} {nL cells slots pc : Nat} {Qw : State → Prop} {d : Nat} {Q : pQ} (K : q_X b w p s m args c own cc nL R d cells slots) {idx : Nat} (hd : decode cc pc = .ok (.invokestatic idx, 3)) (w2 : Cond.methodLink own idx yX7_put ∈ p_T) : p_sd b (q_C l b w) d Q (q_Z b w p l e R s m args below meth c nL cells slots Qw) (o_call 99 k_X7_put 3) pc := s_cS K hd m_ok_X7_put n_ok_X7_put w_c_X7_put w2 w_s_X7_put w_I_RX7 y_ok_X7_put (by decide)
theorem y_ok_X4_popInto : yX4_popInto.cls ≠ "java/lang/invoke/MethodHandle" ∧ yX4_popInto.cls ≠ "java/lang/invoke/VarHandle" ∧ (parseMethodDescriptor yX4_popInto.desc).map (fun d => d.parameters.length) = some 1 := by decide +kernel
theorem m_ok_X4_popInto : p_gm p_ms k_X4_popInto = (yX4_popInto, cX4_popInto, (some .boolean)) := rfl
theorem n_ok_X4_popInto : p_g p_nls k_X4_popInto = 3 := rfl
theorem cVN_X4_popInto {b : Bool} {w : pW} {p : Program} {l : Launch} {e : Env} {R : Room} {s : State} {m : MethodId} {args : Array Value} {below : List Frame} {meth : Method} {c : Code} {own : String} {cc : ByteArray} {nL cells slots pc : Nat} {Qw : State → Prop} {d : Nat} {Q : pQ} (K : q_X b w p s m args c own cc nL R d cells slots) {idx : Nat} {host : String} (hd : decode cc pc = .ok (.invokevirtual idx, 3)) (w2 : Cond.methodLinkNest own idx yX4_popInto host ∈ p_N) : p_sd b (q_C l b w) d Q (q_Z b w p l e R s m args below meth c nL cells slots Qw) (o_call 4 k_X4_popInto 2) pc := s_cVN K hd m_ok_X4_popInto n_ok_X4_popInto w_c_X4_popInto w2 w_i_X4_popInto w_e_X4_popInto w_I_RX4 y_ok_X4_popInto (by decide) (hcl := rfl) (by decide)
theorem y_ok_X0_hold : yX0_hold.cls ≠ "java/lang/invoke/MethodHandle" ∧ yX0_hold.cls ≠ "java/lang/invoke/VarHandle" ∧ (parseMethodDescriptor yX0_hold.desc).map (fun d => d.parameters.length) = some 1 := by decide +kernel
theorem m_ok_X0_hold : p_gm p_ms k_X0_hold = (yX0_hold, cX0_hold, none) := rfl
theorem n_ok_X0_hold : p_g p_nls k_X0_hold = 5 := rfl
theorem cVN_X0_hold {b : Bool} {w : pW} {p : Program} {l : Launch} {e : Env} {R : Room} {s : State} {m : MethodId} {args : Array Value} {below : List Frame} {meth : Method} {c : Code} {own : String} {cc : ByteArray} {nL cells slots pc : Nat} {Qw : State → Prop} {d : Nat} {Q : pQ} (K : q_X b w p s m args c own cc nL R d cells slots) {idx : Nat} {host : String} (hd : decode cc pc = .ok (.invokevirtual idx, 3)) (w2 : Cond.methodLinkNest own idx yX0_hold host ∈ p_N) : p_sd b (q_C l b w) d Q (q_Z b w p l e R s m args below meth c nL cells slots Qw) (o_call 0 k_X0_hold 2) pc := s_cVN K hd m_ok_X0_hold n_ok_X0_hold w_c_X0_hold w2 w_i_X0_hold w_e_X0_hold w_I_RX0 y_ok_X0_hold (by decide) (hcl := rfl) (by decide)
theorem y_ok_X3_run : yX3_run.cls ≠ "java/lang/invoke/MethodHandle" ∧ yX3_run.cls ≠ "java/lang/invoke/VarHandle" ∧ (parseMethodDescriptor yX3_run.desc).map (fun d => d.parameters.length) = some 1 := by decide +kernel
theorem m_ok_X3_run : p_gm p_ms k_X3_run = (yX3_run, cX3_run, none) := rfl
theorem n_ok_X3_run : p_g p_nls k_X3_run = 3 := rfl
theorem cVN_X3_run {b : Bool} {w : pW} {p : Program} {l : Launch} {e : Env} {R : Room} {s : State} {m : MethodId} {args : Array Value} {below : List Frame} {meth : Method} {c : Code} {own : String} {cc : ByteArray} {nL cells slots pc : Nat} {Qw : State → Prop} {d : Nat} {Q : pQ} (K : q_X b w p s m args c own cc nL R d cells slots) {idx : Nat} {host : String} (hd : decode cc pc = .ok (.invokevirtual idx, 3)) (w2 : Cond.methodLinkNest own idx yX3_run host ∈ p_N) : p_sd b (q_C l b w) d Q (q_Z b w p l e R s m args below meth c nL cells slots Qw) (o_call 3 k_X3_run 2) pc := s_cVN K hd m_ok_X3_run n_ok_X3_run w_c_X3_run w2 w_i_X3_run w_e_X3_run w_I_RX3 y_ok_X3_run (by decide) (hcl := rfl) (by decide)
theorem y_ok_X7_fewestLeft : yX7_fewestLeft.cls ≠ "java/lang/invoke/MethodHandle" ∧ yX7_fewestLeft.cls ≠ "java/lang/invoke/VarHandle" ∧ (parseMethodDescriptor yX7_fewestLeft.desc).map (fun d => d.parameters.length) = some 1 := by decide +kernel
theorem m_ok_X7_fewestLeft : p_gm p_ms k_X7_fewestLeft = (yX7_fewestLeft, cX7_fewestLeft, (some .int)) := rfl
theorem n_ok_X7_fewestLeft : p_g p_nls k_X7_fewestLeft = 5 := rfl
theorem cV_X7_fewestLeft {b : Bool} {w : pW} {p : Program} {l : Launch} {e : Env} {R : Room} {s : State} {m : MethodId} {args : Array Value} {below : List Frame} {meth : Method} {c : Code} {own : String} {cc : ByteArray} {nL cells slots pc : Nat} {Qw : State → Prop} {d : Nat} {Q : pQ} (K : q_X b w p s m args c own cc nL R d cells slots) {idx : Nat} (hd : decode cc pc = .ok (.invokevirtual idx, 3)) (w2 : Cond.methodLink own idx yX7_fewestLeft ∈ p_T) : p_sd b (q_C l b w) d Q (q_Z b w p l e R s m args below meth c nL cells slots Qw) (o_call 7 k_X7_fewestLeft 2) pc := s_cV K hd m_ok_X7_fewestLeft n_ok_X7_fewestLeft w_c_X7_fewestLeft w2 w_i_X7_fewestLeft w_e_X7_fewestLeft w_I_RX7 y_ok_X7_fewestLeft (by decide) (hcl := rfl) (by decide)
theorem y_ok_X7_goneIfHeldBy : yX7_goneIfHeldBy.cls ≠ "java/lang/invoke/MethodHandle" ∧ yX7_goneIfHeldBy.cls ≠ "java/lang/invoke/VarHandle" ∧ (parseMethodDescriptor yX7_goneIfHeldBy.desc).map (fun d => d.parameters.length) = some 2 := by decide +kernel
theorem m_ok_X7_goneIfHeldBy : p_gm p_ms k_X7_goneIfHeldBy = (yX7_goneIfHeldBy, cX7_goneIfHeldBy, (some .int)) := rfl
theorem n_ok_X7_goneIfHeldBy : p_g p_nls k_X7_goneIfHeldBy = 4 := rfl
theorem cV_X7_goneIfHeldBy {b : Bool} {w : pW} {p : Program} {l : Launch} {e : Env} {R : Room} {s : State} {m : MethodId} {args : Array Value} {below : List Frame} {meth : Method} {c : Code} {own : String} {cc : ByteArray} {nL cells slots pc : Nat} {Qw : State → Prop} {d : Nat} {Q : pQ} (K : q_X b w p s m args c own cc nL R d cells slots) {idx : Nat} (hd : decode cc pc = .ok (.invokevirtual idx, 3)) (w2 : Cond.methodLink own idx yX7_goneIfHeldBy ∈ p_T) : p_sd b (q_C l b w) d Q (q_Z b w p l e R s m args below meth c nL cells slots Qw) (o_call 7 k_X7_goneIfHeldBy 3) pc := s_cV K hd m_ok_X7_goneIfHeldBy n_ok_X7_goneIfHeldBy w_c_X7_goneIfHeldBy w2 w_i_X7_goneIfHeldBy w_e_X7_goneIfHeldBy w_I_RX7 y_ok_X7_goneIfHeldBy (by decide) (hcl := rfl) (by decide)
theorem y_ok_X5_note : yX5_note.cls ≠ "java/lang/invoke/MethodHandle" ∧ yX5_note.cls ≠ "java/lang/invoke/VarHandle" ∧ (parseMethodDescriptor yX5_note.desc).map (fun d => d.parameters.length) = some 2 := by decide +kernel
theorem m_ok_X5_note : p_gm p_ms k_X5_note = (yX5_note, cX5_note, (some .boolean)) := rfl
theorem n_ok_X5_note : p_g p_nls k_X5_note = 3 := rfl
theorem cVN_X5_note {b : Bool} {w : pW} {p : Program} {l : Launch} {e : Env} {R : Room} {s : State} {m : MethodId} {args : Array Value} {below : List Frame} {meth : Method} {c : Code} {own : String} {cc : ByteArray} {nL cells slots pc : Nat} {Qw : State → Prop} {d : Nat} {Q : pQ} (K : q_X b w p s m args c own cc nL R d cells slots) {idx : Nat} {host : String} (hd : decode cc pc = .ok (.invokevirtual idx, 3)) (w2 : Cond.methodLinkNest own idx yX5_note host ∈ p_N) : p_sd b (q_C l b w) d Q (q_Z b w p l e R s m args below meth c nL cells slots Qw) (o_call 5 k_X5_note 3) pc := s_cVN K hd m_ok_X5_note n_ok_X5_note w_c_X5_note w2 w_i_X5_note w_e_X5_note w_I_RX5 y_ok_X5_note (by decide) (hcl := rfl) (by decide)
theorem y_ok_X7_fittingWorlds : yX7_fittingWorlds.cls ≠ "java/lang/invoke/MethodHandle" ∧ yX7_fittingWorlds.cls ≠ "java/lang/invoke/VarHandle" ∧ (parseMethodDescriptor yX7_fittingWorlds.desc).map (fun d => d.parameters.length) = some 0 := by decide +kernel
theorem m_ok_X7_fittingWorlds : p_gm p_ms k_X7_fittingWorlds = (yX7_fittingWorlds, cX7_fittingWorlds, (some .long)) := rfl
theorem n_ok_X7_fittingWorlds : p_g p_nls k_X7_fittingWorlds = 4 := rfl
theorem cV_X7_fittingWorlds {b : Bool} {w : pW} {p : Program} {l : Launch} {e : Env} {R : Room} {s : State} {m : MethodId} {args : Array Value} {below : List Frame} {meth : Method} {c : Code} {own : String} {cc : ByteArray} {nL cells slots pc : Nat} {Qw : State → Prop} {d : Nat} {Q : pQ} (K : q_X b w p s m args c own cc nL R d cells slots) {idx : Nat} (hd : decode cc pc = .ok (.invokevirtual idx, 3)) (w2 : Cond.methodLink own idx yX7_fittingWorlds ∈ p_T) : p_sd b (q_C l b w) d Q (q_Z b w p l e R s m args below meth c nL cells slots Qw) (o_call 7 k_X7_fittingWorlds 1) pc := s_cV K hd m_ok_X7_fittingWorlds n_ok_X7_fittingWorlds w_c_X7_fittingWorlds w2 w_i_X7_fittingWorlds w_e_X7_fittingWorlds w_I_RX7 y_ok_X7_fittingWorlds (by decide) (hcl := rfl) (by decide)
theorem y_ok_J13_bitCount : yJ13_bitCount_95d88.cls ≠ "java/lang/invoke/MethodHandle" ∧ yJ13_bitCount_95d88.cls ≠ "java/lang/invoke/VarHandle" ∧ (parseMethodDescriptor yJ13_bitCount_95d88.desc).map (fun d => d.parameters.length) = some 1 := by decide +kernel
theorem m_ok_J13_bitCount : p_gm p_ms k_J13_bitCount = (yJ13_bitCount_95d88, cJ13_bitCount_95d88, (some .int)) := rfl
theorem n_ok_J13_bitCount : p_g p_nls k_J13_bitCount = 2 := rfl
theorem cS_J13_bitCount {b : Bool} {w : pW} {p : Program} {l : Launch} {e : Env} {R : Room} {s : State} {m : MethodId} {args : Array Value} {below : List Frame} {meth : Method} {c : Code} {own : String} {cc : ByteArray} {nL cells slots pc : Nat} {Qw : State → Prop} {d : Nat} {Q : pQ} (K : q_X b w p s m args c own cc nL R d cells slots) {idx : Nat} (hd : decode cc pc = .ok (.invokestatic idx, 3)) (w2 : Cond.methodLink own idx yJ13_bitCount_95d88 ∈ p_T) : p_sd b (q_C l b w) d Q (q_Z b w p l e R s m args below meth c nL cells slots Qw) (o_call 99 k_J13_bitCount 1) pc := s_cS K hd m_ok_J13_bitCount n_ok_J13_bitCount w_c_J13_bitCount w2 w_s_J13_bitCount w_I_RJ13 y_ok_J13_bitCount (by decide)
theorem y_ok_X7_lowestWorld : yX7_lowestWorld.cls ≠ "java/lang/invoke/MethodHandle" ∧ yX7_lowestWorld.cls ≠ "java/lang/invoke/VarHandle" ∧ (parseMethodDescriptor yX7_lowestWorld.desc).map (fun d => d.parameters.length) = some 1 := by decide +kernel
theorem m_ok_X7_lowestWorld : p_gm p_ms k_X7_lowestWorld = (yX7_lowestWorld, cX7_lowestWorld, (some .int)) := rfl
theorem n_ok_X7_lowestWorld : p_g p_nls k_X7_lowestWorld = 4 := rfl
theorem cV_X7_lowestWorld {b : Bool} {w : pW} {p : Program} {l : Launch} {e : Env} {R : Room} {s : State} {m : MethodId} {args : Array Value} {below : List Frame} {meth : Method} {c : Code} {own : String} {cc : ByteArray} {nL cells slots pc : Nat} {Qw : State → Prop} {d : Nat} {Q : pQ} (K : q_X b w p s m args c own cc nL R d cells slots) {idx : Nat} (hd : decode cc pc = .ok (.invokevirtual idx, 3)) (w2 : Cond.methodLink own idx yX7_lowestWorld ∈ p_T) : p_sd b (q_C l b w) d Q (q_Z b w p l e R s m args below meth c nL cells slots Qw) (o_call 7 k_X7_lowestWorld 2) pc := s_cV K hd m_ok_X7_lowestWorld n_ok_X7_lowestWorld w_c_X7_lowestWorld w2 w_i_X7_lowestWorld w_e_X7_lowestWorld w_I_RX7 y_ok_X7_lowestWorld (by decide) (hcl := rfl) (by decide)
theorem y_ok_X7_sureFacts : yX7_sureFacts.cls ≠ "java/lang/invoke/MethodHandle" ∧ yX7_sureFacts.cls ≠ "java/lang/invoke/VarHandle" ∧ (parseMethodDescriptor yX7_sureFacts.desc).map (fun d => d.parameters.length) = some 2 := by decide +kernel
theorem m_ok_X7_sureFacts : p_gm p_ms k_X7_sureFacts = (yX7_sureFacts, cX7_sureFacts, (some .int)) := rfl
theorem n_ok_X7_sureFacts : p_g p_nls k_X7_sureFacts = 6 := rfl
theorem cV_X7_sureFacts {b : Bool} {w : pW} {p : Program} {l : Launch} {e : Env} {R : Room} {s : State} {m : MethodId} {args : Array Value} {below : List Frame} {meth : Method} {c : Code} {own : String} {cc : ByteArray} {nL cells slots pc : Nat} {Qw : State → Prop} {d : Nat} {Q : pQ} (K : q_X b w p s m args c own cc nL R d cells slots) {idx : Nat} (hd : decode cc pc = .ok (.invokevirtual idx, 3)) (w2 : Cond.methodLink own idx yX7_sureFacts ∈ p_T) : p_sd b (q_C l b w) d Q (q_Z b w p l e R s m args below meth c nL cells slots Qw) (o_call 7 k_X7_sureFacts 3) pc := s_cV K hd m_ok_X7_sureFacts n_ok_X7_sureFacts w_c_X7_sureFacts w2 w_i_X7_sureFacts w_e_X7_sureFacts w_I_RX7 y_ok_X7_sureFacts (by decide) (hcl := rfl) (by decide)
theorem y_ok_X2_worldCount : yX2_worldCount.cls ≠ "java/lang/invoke/MethodHandle" ∧ yX2_worldCount.cls ≠ "java/lang/invoke/VarHandle" ∧ (parseMethodDescriptor yX2_worldCount.desc).map (fun d => d.parameters.length) = some 0 := by decide +kernel
theorem m_ok_X2_worldCount : p_gm p_ms k_X2_worldCount = (yX2_worldCount, cX2_worldCount, (some .int)) := rfl
theorem n_ok_X2_worldCount : p_g p_nls k_X2_worldCount = 1 := rfl
theorem cVN_X2_worldCount {b : Bool} {w : pW} {p : Program} {l : Launch} {e : Env} {R : Room} {s : State} {m : MethodId} {args : Array Value} {below : List Frame} {meth : Method} {c : Code} {own : String} {cc : ByteArray} {nL cells slots pc : Nat} {Qw : State → Prop} {d : Nat} {Q : pQ} (K : q_X b w p s m args c own cc nL R d cells slots) {idx : Nat} {host : String} (hd : decode cc pc = .ok (.invokevirtual idx, 3)) (w2 : Cond.methodLinkNest own idx yX2_worldCount host ∈ p_N) : p_sd b (q_C l b w) d Q (q_Z b w p l e R s m args below meth c nL cells slots Qw) (o_call 2 k_X2_worldCount 1) pc := s_cVN K hd m_ok_X2_worldCount n_ok_X2_worldCount w_c_X2_worldCount w2 w_i_X2_worldCount w_e_X2_worldCount w_I_RX2 y_ok_X2_worldCount (by decide) (hcl := rfl) (by decide)
theorem y_ok_X7_worldsOfDrop : yX7_worldsOfDrop.cls ≠ "java/lang/invoke/MethodHandle" ∧ yX7_worldsOfDrop.cls ≠ "java/lang/invoke/VarHandle" ∧ (parseMethodDescriptor yX7_worldsOfDrop.desc).map (fun d => d.parameters.length) = some 4 := by decide +kernel
theorem m_ok_X7_worldsOfDrop : p_gm p_ms k_X7_worldsOfDrop = (yX7_worldsOfDrop, cX7_worldsOfDrop, (some .int)) := rfl
theorem n_ok_X7_worldsOfDrop : p_g p_nls k_X7_worldsOfDrop = 8 := rfl
theorem cV_X7_worldsOfDrop {b : Bool} {w : pW} {p : Program} {l : Launch} {e : Env} {R : Room} {s : State} {m : MethodId} {args : Array Value} {below : List Frame} {meth : Method} {c : Code} {own : String} {cc : ByteArray} {nL cells slots pc : Nat} {Qw : State → Prop} {d : Nat} {Q : pQ} (K : q_X b w p s m args c own cc nL R d cells slots) {idx : Nat} (hd : decode cc pc = .ok (.invokevirtual idx, 3)) (w2 : Cond.methodLink own idx yX7_worldsOfDrop ∈ p_T) : p_sd b (q_C l b w) d Q (q_Z b w p l e R s m args below meth c nL cells slots Qw) (o_call 7 k_X7_worldsOfDrop 5) pc := s_cV K hd m_ok_X7_worldsOfDrop n_ok_X7_worldsOfDrop w_c_X7_worldsOfDrop w2 w_i_X7_worldsOfDrop w_e_X7_worldsOfDrop w_I_RX7 y_ok_X7_worldsOfDrop (by decide) (hcl := rfl) (by decide)
theorem y_ok_X7_fits : yX7_fits.cls ≠ "java/lang/invoke/MethodHandle" ∧ yX7_fits.cls ≠ "java/lang/invoke/VarHandle" ∧ (parseMethodDescriptor yX7_fits.desc).map (fun d => d.parameters.length) = some 1 := by decide +kernel
theorem m_ok_X7_fits : p_gm p_ms k_X7_fits = (yX7_fits, cX7_fits, (some .boolean)) := rfl
theorem n_ok_X7_fits : p_g p_nls k_X7_fits = 2 := rfl
theorem cV_X7_fits {b : Bool} {w : pW} {p : Program} {l : Launch} {e : Env} {R : Room} {s : State} {m : MethodId} {args : Array Value} {below : List Frame} {meth : Method} {c : Code} {own : String} {cc : ByteArray} {nL cells slots pc : Nat} {Qw : State → Prop} {d : Nat} {Q : pQ} (K : q_X b w p s m args c own cc nL R d cells slots) {idx : Nat} (hd : decode cc pc = .ok (.invokevirtual idx, 3)) (w2 : Cond.methodLink own idx yX7_fits ∈ p_T) : p_sd b (q_C l b w) d Q (q_Z b w p l e R s m args below meth c nL cells slots Qw) (o_call 7 k_X7_fits 2) pc := s_cV K hd m_ok_X7_fits n_ok_X7_fits w_c_X7_fits w2 w_i_X7_fits w_e_X7_fits w_I_RX7 y_ok_X7_fits (by decide) (hcl := rfl) (by decide)
theorem y_ok_X7_chanceOf : yX7_chanceOf.cls ≠ "java/lang/invoke/MethodHandle" ∧ yX7_chanceOf.cls ≠ "java/lang/invoke/VarHandle" ∧ (parseMethodDescriptor yX7_chanceOf.desc).map (fun d => d.parameters.length) = some 2 := by decide +kernel
theorem m_ok_X7_chanceOf : p_gm p_ms k_X7_chanceOf = (yX7_chanceOf, cX7_chanceOf, (some .int)) := rfl
theorem n_ok_X7_chanceOf : p_g p_nls k_X7_chanceOf = 5 := rfl
theorem cV_X7_chanceOf {b : Bool} {w : pW} {p : Program} {l : Launch} {e : Env} {R : Room} {s : State} {m : MethodId} {args : Array Value} {below : List Frame} {meth : Method} {c : Code} {own : String} {cc : ByteArray} {nL cells slots pc : Nat} {Qw : State → Prop} {d : Nat} {Q : pQ} (K : q_X b w p s m args c own cc nL R d cells slots) {idx : Nat} (hd : decode cc pc = .ok (.invokevirtual idx, 3)) (w2 : Cond.methodLink own idx yX7_chanceOf ∈ p_T) : p_sd b (q_C l b w) d Q (q_Z b w p l e R s m args below meth c nL cells slots Qw) (o_call 7 k_X7_chanceOf 3) pc := s_cV K hd m_ok_X7_chanceOf n_ok_X7_chanceOf w_c_X7_chanceOf w2 w_i_X7_chanceOf w_e_X7_chanceOf w_I_RX7 y_ok_X7_chanceOf (by decide) (hcl := rfl) (by decide)
theorem y_ok_X7_greatestDivisor : yX7_greatestDivisor.cls ≠ "java/lang/invoke/MethodHandle" ∧ yX7_greatestDivisor.cls ≠ "java/lang/invoke/VarHandle" ∧ (parseMethodDescriptor yX7_greatestDivisor.desc).map (fun d => d.parameters.length) = some 2 := by decide +kernel
theorem m_ok_X7_greatestDivisor : p_gm p_ms k_X7_greatestDivisor = (yX7_greatestDivisor, cX7_greatestDivisor, (some .int)) := rfl
theorem n_ok_X7_greatestDivisor : p_g p_nls k_X7_greatestDivisor = 4 := rfl
theorem cS_X7_greatestDivisor {b : Bool} {w : pW} {p : Program} {l : Launch} {e : Env} {R : Room} {s : State} {m : MethodId} {args : Array Value} {below : List Frame} {meth : Method} {c : Code} {own : String} {cc : ByteArray} {nL cells slots pc : Nat} {Qw : State → Prop} {d : Nat} {Q : pQ} (K : q_X b w p s m args c own cc nL R d cells slots) {idx : Nat} (hd : decode cc pc = .ok (.invokestatic idx, 3)) (w2 : Cond.methodLink own idx yX7_greatestDivisor ∈ p_T) : p_sd b (q_C l b w) d Q (q_Z b w p l e R s m args below meth c nL cells slots Qw) (o_call 99 k_X7_greatestDivisor 2) pc := s_cS K hd m_ok_X7_greatestDivisor n_ok_X7_greatestDivisor w_c_X7_greatestDivisor w2 w_s_X7_greatestDivisor w_I_RX7 y_ok_X7_greatestDivisor (by decide)
theorem y_ok_X7_draw : yX7_draw.cls ≠ "java/lang/invoke/MethodHandle" ∧ yX7_draw.cls ≠ "java/lang/invoke/VarHandle" ∧ (parseMethodDescriptor yX7_draw.desc).map (fun d => d.parameters.length) = some 2 := by decide +kernel
theorem m_ok_X7_draw : p_gm p_ms k_X7_draw = (yX7_draw, cX7_draw, (some .int)) := rfl
theorem n_ok_X7_draw : p_g p_nls k_X7_draw = 4 := rfl
theorem cS_X7_draw {b : Bool} {w : pW} {p : Program} {l : Launch} {e : Env} {R : Room} {s : State} {m : MethodId} {args : Array Value} {below : List Frame} {meth : Method} {c : Code} {own : String} {cc : ByteArray} {nL cells slots pc : Nat} {Qw : State → Prop} {d : Nat} {Q : pQ} (K : q_X b w p s m args c own cc nL R d cells slots) {idx : Nat} (hd : decode cc pc = .ok (.invokestatic idx, 3)) (w2 : Cond.methodLink own idx yX7_draw ∈ p_T) : p_sd b (q_C l b w) d Q (q_Z b w p l e R s m args below meth c nL cells slots Qw) (o_call 99 k_X7_draw 2) pc := s_cS K hd m_ok_X7_draw n_ok_X7_draw w_c_X7_draw w2 w_s_X7_draw w_I_RX7 y_ok_X7_draw (by decide)
theorem y_ok_X7_stir : yX7_stir.cls ≠ "java/lang/invoke/MethodHandle" ∧ yX7_stir.cls ≠ "java/lang/invoke/VarHandle" ∧ (parseMethodDescriptor yX7_stir.desc).map (fun d => d.parameters.length) = some 2 := by decide +kernel
theorem m_ok_X7_stir : p_gm p_ms k_X7_stir = (yX7_stir, cX7_stir, none) := rfl
theorem n_ok_X7_stir : p_g p_nls k_X7_stir = 2 := rfl
theorem cS_X7_stir {b : Bool} {w : pW} {p : Program} {l : Launch} {e : Env} {R : Room} {s : State} {m : MethodId} {args : Array Value} {below : List Frame} {meth : Method} {c : Code} {own : String} {cc : ByteArray} {nL cells slots pc : Nat} {Qw : State → Prop} {d : Nat} {Q : pQ} (K : q_X b w p s m args c own cc nL R d cells slots) {idx : Nat} (hd : decode cc pc = .ok (.invokestatic idx, 3)) (w2 : Cond.methodLink own idx yX7_stir ∈ p_T) : p_sd b (q_C l b w) d Q (q_Z b w p l e R s m args below meth c nL cells slots Qw) (o_call 99 k_X7_stir 2) pc := s_cS K hd m_ok_X7_stir n_ok_X7_stir w_c_X7_stir w2 w_s_X7_stir w_I_RX7 y_ok_X7_stir (by decide)
theorem y_ok_X2_falseClaims : yX2_falseClaims.cls ≠ "java/lang/invoke/MethodHandle" ∧ yX2_falseClaims.cls ≠ "java/lang/invoke/VarHandle" ∧ (parseMethodDescriptor yX2_falseClaims.desc).map (fun d => d.parameters.length) = some 0 := by decide +kernel
theorem m_ok_X2_falseClaims : p_gm p_ms k_X2_falseClaims = (yX2_falseClaims, cX2_falseClaims, (some .int)) := rfl
theorem n_ok_X2_falseClaims : p_g p_nls k_X2_falseClaims = 3 := rfl
theorem cVN_X2_falseClaims {b : Bool} {w : pW} {p : Program} {l : Launch} {e : Env} {R : Room} {s : State} {m : MethodId} {args : Array Value} {below : List Frame} {meth : Method} {c : Code} {own : String} {cc : ByteArray} {nL cells slots pc : Nat} {Qw : State → Prop} {d : Nat} {Q : pQ} (K : q_X b w p s m args c own cc nL R d cells slots) {idx : Nat} {host : String} (hd : decode cc pc = .ok (.invokevirtual idx, 3)) (w2 : Cond.methodLinkNest own idx yX2_falseClaims host ∈ p_N) : p_sd b (q_C l b w) d Q (q_Z b w p l e R s m args below meth c nL cells slots Qw) (o_call 2 k_X2_falseClaims 1) pc := s_cVN K hd m_ok_X2_falseClaims n_ok_X2_falseClaims w_c_X2_falseClaims w2 w_i_X2_falseClaims w_e_X2_falseClaims w_I_RX2 y_ok_X2_falseClaims (by decide) (hcl := rfl) (by decide)
theorem y_ok_X7_told : yX7_told.cls ≠ "java/lang/invoke/MethodHandle" ∧ yX7_told.cls ≠ "java/lang/invoke/VarHandle" ∧ (parseMethodDescriptor yX7_told.desc).map (fun d => d.parameters.length) = some 0 := by decide +kernel
theorem m_ok_X7_told : p_gm p_ms k_X7_told = (yX7_told, cX7_told, (some .int)) := rfl
theorem n_ok_X7_told : p_g p_nls k_X7_told = 1 := rfl
theorem cV_X7_told {b : Bool} {w : pW} {p : Program} {l : Launch} {e : Env} {R : Room} {s : State} {m : MethodId} {args : Array Value} {below : List Frame} {meth : Method} {c : Code} {own : String} {cc : ByteArray} {nL cells slots pc : Nat} {Qw : State → Prop} {d : Nat} {Q : pQ} (K : q_X b w p s m args c own cc nL R d cells slots) {idx : Nat} (hd : decode cc pc = .ok (.invokevirtual idx, 3)) (w2 : Cond.methodLink own idx yX7_told ∈ p_T) : p_sd b (q_C l b w) d Q (q_Z b w p l e R s m args below meth c nL cells slots Qw) (o_call 7 k_X7_told 1) pc := s_cV K hd m_ok_X7_told n_ok_X7_told w_c_X7_told w2 w_i_X7_told w_e_X7_told w_I_RX7 y_ok_X7_told (by decide) (hcl := rfl) (by decide)
theorem y_ok_X7_goneTonight : yX7_goneTonight.cls ≠ "java/lang/invoke/MethodHandle" ∧ yX7_goneTonight.cls ≠ "java/lang/invoke/VarHandle" ∧ (parseMethodDescriptor yX7_goneTonight.desc).map (fun d => d.parameters.length) = some 0 := by decide +kernel
theorem m_ok_X7_goneTonight : p_gm p_ms k_X7_goneTonight = (yX7_goneTonight, cX7_goneTonight, (some .int)) := rfl
theorem n_ok_X7_goneTonight : p_g p_nls k_X7_goneTonight = 1 := rfl
theorem cV_X7_goneTonight {b : Bool} {w : pW} {p : Program} {l : Launch} {e : Env} {R : Room} {s : State} {m : MethodId} {args : Array Value} {below : List Frame} {meth : Method} {c : Code} {own : String} {cc : ByteArray} {nL cells slots pc : Nat} {Qw : State → Prop} {d : Nat} {Q : pQ} (K : q_X b w p s m args c own cc nL R d cells slots) {idx : Nat} (hd : decode cc pc = .ok (.invokevirtual idx, 3)) (w2 : Cond.methodLink own idx yX7_goneTonight ∈ p_T) : p_sd b (q_C l b w) d Q (q_Z b w p l e R s m args below meth c nL cells slots Qw) (o_call 7 k_X7_goneTonight 1) pc := s_cV K hd m_ok_X7_goneTonight n_ok_X7_goneTonight w_c_X7_goneTonight w2 w_i_X7_goneTonight w_e_X7_goneTonight w_I_RX7 y_ok_X7_goneTonight (by decide) (hcl := rfl) (by decide)
theorem y_ok_X7_letsGoWithout : yX7_letsGoWithout.cls ≠ "java/lang/invoke/MethodHandle" ∧ yX7_letsGoWithout.cls ≠ "java/lang/invoke/VarHandle" ∧ (parseMethodDescriptor yX7_letsGoWithout.desc).map (fun d => d.parameters.length) = some 2 := by decide +kernel
theorem m_ok_X7_letsGoWithout : p_gm p_ms k_X7_letsGoWithout = (yX7_letsGoWithout, cX7_letsGoWithout, (some .boolean)) := rfl
theorem n_ok_X7_letsGoWithout : p_g p_nls k_X7_letsGoWithout = 5 := rfl
theorem cV_X7_letsGoWithout {b : Bool} {w : pW} {p : Program} {l : Launch} {e : Env} {R : Room} {s : State} {m : MethodId} {args : Array Value} {below : List Frame} {meth : Method} {c : Code} {own : String} {cc : ByteArray} {nL cells slots pc : Nat} {Qw : State → Prop} {d : Nat} {Q : pQ} (K : q_X b w p s m args c own cc nL R d cells slots) {idx : Nat} (hd : decode cc pc = .ok (.invokevirtual idx, 3)) (w2 : Cond.methodLink own idx yX7_letsGoWithout ∈ p_T) : p_sd b (q_C l b w) d Q (q_Z b w p l e R s m args below meth c nL cells slots Qw) (o_call 7 k_X7_letsGoWithout 3) pc := s_cV K hd m_ok_X7_letsGoWithout n_ok_X7_letsGoWithout w_c_X7_letsGoWithout w2 w_i_X7_letsGoWithout w_e_X7_letsGoWithout w_I_RX7 y_ok_X7_letsGoWithout (by decide) (hcl := rfl) (by decide)
theorem y_ok_X5_agreeWith : yX5_agreeWith.cls ≠ "java/lang/invoke/MethodHandle" ∧ yX5_agreeWith.cls ≠ "java/lang/invoke/VarHandle" ∧ (parseMethodDescriptor yX5_agreeWith.desc).map (fun d => d.parameters.length) = some 1 := by decide +kernel
theorem m_ok_X5_agreeWith : p_gm p_ms k_X5_agreeWith = (yX5_agreeWith, cX5_agreeWith, (some .boolean)) := rfl
theorem n_ok_X5_agreeWith : p_g p_nls k_X5_agreeWith = 3 := rfl
theorem cVN_X5_agreeWith {b : Bool} {w : pW} {p : Program} {l : Launch} {e : Env} {R : Room} {s : State} {m : MethodId} {args : Array Value} {below : List Frame} {meth : Method} {c : Code} {own : String} {cc : ByteArray} {nL cells slots pc : Nat} {Qw : State → Prop} {d : Nat} {Q : pQ} (K : q_X b w p s m args c own cc nL R d cells slots) {idx : Nat} {host : String} (hd : decode cc pc = .ok (.invokevirtual idx, 3)) (w2 : Cond.methodLinkNest own idx yX5_agreeWith host ∈ p_N) : p_sd b (q_C l b w) d Q (q_Z b w p l e R s m args below meth c nL cells slots Qw) (o_call 5 k_X5_agreeWith 2) pc := s_cVN K hd m_ok_X5_agreeWith n_ok_X5_agreeWith w_c_X5_agreeWith w2 w_i_X5_agreeWith w_e_X5_agreeWith w_I_RX5 y_ok_X5_agreeWith (by decide) (hcl := rfl) (by decide)
theorem y_ok_X7_isIn : yX7_isIn.cls ≠ "java/lang/invoke/MethodHandle" ∧ yX7_isIn.cls ≠ "java/lang/invoke/VarHandle" ∧ (parseMethodDescriptor yX7_isIn.desc).map (fun d => d.parameters.length) = some 2 := by decide +kernel
theorem m_ok_X7_isIn : p_gm p_ms k_X7_isIn = (yX7_isIn, cX7_isIn, (some .boolean)) := rfl
theorem n_ok_X7_isIn : p_g p_nls k_X7_isIn = 3 := rfl
theorem cS_X7_isIn {b : Bool} {w : pW} {p : Program} {l : Launch} {e : Env} {R : Room} {s : State} {m : MethodId} {args : Array Value} {below : List Frame} {meth : Method} {c : Code} {own : String} {cc : ByteArray} {nL cells slots pc : Nat} {Qw : State → Prop} {d : Nat} {Q : pQ} (K : q_X b w p s m args c own cc nL R d cells slots) {idx : Nat} (hd : decode cc pc = .ok (.invokestatic idx, 3)) (w2 : Cond.methodLink own idx yX7_isIn ∈ p_T) : p_sd b (q_C l b w) d Q (q_Z b w p l e R s m args below meth c nL cells slots Qw) (o_call 99 k_X7_isIn 2) pc := s_cS K hd m_ok_X7_isIn n_ok_X7_isIn w_c_X7_isIn w2 w_s_X7_isIn w_I_RX7 y_ok_X7_isIn (by decide)
theorem y_ok_X8_sets : yX8_sets.cls ≠ "java/lang/invoke/MethodHandle" ∧ yX8_sets.cls ≠ "java/lang/invoke/VarHandle" ∧ (parseMethodDescriptor yX8_sets.desc).map (fun d => d.parameters.length) = some 5 := by decide +kernel
theorem m_ok_X8_sets : p_gm p_ms k_X8_sets = (yX8_sets, cX8_sets, none) := rfl
theorem n_ok_X8_sets : p_g p_nls k_X8_sets = 6 := rfl
theorem cV_X8_sets {b : Bool} {w : pW} {p : Program} {l : Launch} {e : Env} {R : Room} {s : State} {m : MethodId} {args : Array Value} {below : List Frame} {meth : Method} {c : Code} {own : String} {cc : ByteArray} {nL cells slots pc : Nat} {Qw : State → Prop} {d : Nat} {Q : pQ} (K : q_X b w p s m args c own cc nL R d cells slots) {idx : Nat} (hd : decode cc pc = .ok (.invokevirtual idx, 3)) (w2 : Cond.methodLink own idx yX8_sets ∈ p_T) : p_sd b (q_C l b w) d Q (q_Z b w p l e R s m args below meth c nL cells slots Qw) (o_call 8 k_X8_sets 6) pc := s_cV K hd m_ok_X8_sets n_ok_X8_sets w_c_X8_sets w2 w_i_X8_sets w_e_X8_sets w_I_RX8 y_ok_X8_sets (by decide) (hcl := rfl) (by decide)
theorem y_ok_X8_in : yX8_in.cls ≠ "java/lang/invoke/MethodHandle" ∧ yX8_in.cls ≠ "java/lang/invoke/VarHandle" ∧ (parseMethodDescriptor yX8_in.desc).map (fun d => d.parameters.length) = some 3 := by decide +kernel
theorem m_ok_X8_in : p_gm p_ms k_X8_in = (yX8_in, cX8_in, (some .boolean)) := rfl
theorem n_ok_X8_in : p_g p_nls k_X8_in = 3 := rfl
theorem cS_X8_in {b : Bool} {w : pW} {p : Program} {l : Launch} {e : Env} {R : Room} {s : State} {m : MethodId} {args : Array Value} {below : List Frame} {meth : Method} {c : Code} {own : String} {cc : ByteArray} {nL cells slots pc : Nat} {Qw : State → Prop} {d : Nat} {Q : pQ} (K : q_X b w p s m args c own cc nL R d cells slots) {idx : Nat} (hd : decode cc pc = .ok (.invokestatic idx, 3)) (w2 : Cond.methodLink own idx yX8_in ∈ p_T) : p_sd b (q_C l b w) d Q (q_Z b w p l e R s m args below meth c nL cells slots Qw) (o_call 99 k_X8_in 3) pc := s_cS K hd m_ok_X8_in n_ok_X8_in w_c_X8_in w2 w_s_X8_in w_I_RX8 y_ok_X8_in (by decide)
theorem y_ok_X8_here : yX8_here.cls ≠ "java/lang/invoke/MethodHandle" ∧ yX8_here.cls ≠ "java/lang/invoke/VarHandle" ∧ (parseMethodDescriptor yX8_here.desc).map (fun d => d.parameters.length) = some 0 := by decide +kernel
theorem m_ok_X8_here : p_gm p_ms k_X8_here = (yX8_here, cX8_here, (some .int)) := rfl
theorem n_ok_X8_here : p_g p_nls k_X8_here = 1 := rfl
theorem cV_X8_here {b : Bool} {w : pW} {p : Program} {l : Launch} {e : Env} {R : Room} {s : State} {m : MethodId} {args : Array Value} {below : List Frame} {meth : Method} {c : Code} {own : String} {cc : ByteArray} {nL cells slots pc : Nat} {Qw : State → Prop} {d : Nat} {Q : pQ} (K : q_X b w p s m args c own cc nL R d cells slots) {idx : Nat} (hd : decode cc pc = .ok (.invokevirtual idx, 3)) (w2 : Cond.methodLink own idx yX8_here ∈ p_T) : p_sd b (q_C l b w) d Q (q_Z b w p l e R s m args below meth c nL cells slots Qw) (o_call 8 k_X8_here 1) pc := s_cV K hd m_ok_X8_here n_ok_X8_here w_c_X8_here w2 w_i_X8_here w_e_X8_here w_I_RX8 y_ok_X8_here (by decide) (hcl := rfl) (by decide)
theorem y_ok_X8_isFigure : yX8_isFigure.cls ≠ "java/lang/invoke/MethodHandle" ∧ yX8_isFigure.cls ≠ "java/lang/invoke/VarHandle" ∧ (parseMethodDescriptor yX8_isFigure.desc).map (fun d => d.parameters.length) = some 0 := by decide +kernel
theorem m_ok_X8_isFigure : p_gm p_ms k_X8_isFigure = (yX8_isFigure, cX8_isFigure, (some .boolean)) := rfl
theorem n_ok_X8_isFigure : p_g p_nls k_X8_isFigure = 1 := rfl
theorem cV_X8_isFigure {b : Bool} {w : pW} {p : Program} {l : Launch} {e : Env} {R : Room} {s : State} {m : MethodId} {args : Array Value} {below : List Frame} {meth : Method} {c : Code} {own : String} {cc : ByteArray} {nL cells slots pc : Nat} {Qw : State → Prop} {d : Nat} {Q : pQ} (K : q_X b w p s m args c own cc nL R d cells slots) {idx : Nat} (hd : decode cc pc = .ok (.invokevirtual idx, 3)) (w2 : Cond.methodLink own idx yX8_isFigure ∈ p_T) : p_sd b (q_C l b w) d Q (q_Z b w p l e R s m args below meth c nL cells slots Qw) (o_call 8 k_X8_isFigure 1) pc := s_cV K hd m_ok_X8_isFigure n_ok_X8_isFigure w_c_X8_isFigure w2 w_i_X8_isFigure w_e_X8_isFigure w_I_RX8 y_ok_X8_isFigure (by decide) (hcl := rfl) (by decide)
theorem y_ok_X8_number : yX8_number.cls ≠ "java/lang/invoke/MethodHandle" ∧ yX8_number.cls ≠ "java/lang/invoke/VarHandle" ∧ (parseMethodDescriptor yX8_number.desc).map (fun d => d.parameters.length) = some 3 := by decide +kernel
theorem m_ok_X8_number : p_gm p_ms k_X8_number = (yX8_number, cX8_number, (some .boolean)) := rfl
theorem n_ok_X8_number : p_g p_nls k_X8_number = 5 := rfl
theorem cV_X8_number {b : Bool} {w : pW} {p : Program} {l : Launch} {e : Env} {R : Room} {s : State} {m : MethodId} {args : Array Value} {below : List Frame} {meth : Method} {c : Code} {own : String} {cc : ByteArray} {nL cells slots pc : Nat} {Qw : State → Prop} {d : Nat} {Q : pQ} (K : q_X b w p s m args c own cc nL R d cells slots) {idx : Nat} (hd : decode cc pc = .ok (.invokevirtual idx, 3)) (w2 : Cond.methodLink own idx yX8_number ∈ p_T) : p_sd b (q_C l b w) d Q (q_Z b w p l e R s m args below meth c nL cells slots Qw) (o_call 8 k_X8_number 4) pc := s_cV K hd m_ok_X8_number n_ok_X8_number w_c_X8_number w2 w_i_X8_number w_e_X8_number w_I_RX8 y_ok_X8_number (by decide) (hcl := rfl) (by decide)
theorem y_ok_X8_readsTeller : yX8_readsTeller.cls ≠ "java/lang/invoke/MethodHandle" ∧ yX8_readsTeller.cls ≠ "java/lang/invoke/VarHandle" ∧ (parseMethodDescriptor yX8_readsTeller.desc).map (fun d => d.parameters.length) = some 0 := by decide +kernel
theorem m_ok_X8_readsTeller : p_gm p_ms k_X8_readsTeller = (yX8_readsTeller, cX8_readsTeller, (some .boolean)) := rfl
theorem n_ok_X8_readsTeller : p_g p_nls k_X8_readsTeller = 2 := rfl
theorem cV_X8_readsTeller {b : Bool} {w : pW} {p : Program} {l : Launch} {e : Env} {R : Room} {s : State} {m : MethodId} {args : Array Value} {below : List Frame} {meth : Method} {c : Code} {own : String} {cc : ByteArray} {nL cells slots pc : Nat} {Qw : State → Prop} {d : Nat} {Q : pQ} (K : q_X b w p s m args c own cc nL R d cells slots) {idx : Nat} (hd : decode cc pc = .ok (.invokevirtual idx, 3)) (w2 : Cond.methodLink own idx yX8_readsTeller ∈ p_T) : p_sd b (q_C l b w) d Q (q_Z b w p l e R s m args below meth c nL cells slots Qw) (o_call 8 k_X8_readsTeller 1) pc := s_cV K hd m_ok_X8_readsTeller n_ok_X8_readsTeller w_c_X8_readsTeller w2 w_i_X8_readsTeller w_e_X8_readsTeller w_I_RX8 y_ok_X8_readsTeller (by decide) (hcl := rfl) (by decide)
theorem y_ok_X8_readsFact : yX8_readsFact.cls ≠ "java/lang/invoke/MethodHandle" ∧ yX8_readsFact.cls ≠ "java/lang/invoke/VarHandle" ∧ (parseMethodDescriptor yX8_readsFact.desc).map (fun d => d.parameters.length) = some 0 := by decide +kernel
theorem m_ok_X8_readsFact : p_gm p_ms k_X8_readsFact = (yX8_readsFact, cX8_readsFact, (some .boolean)) := rfl
theorem n_ok_X8_readsFact : p_g p_nls k_X8_readsFact = 1 := rfl
theorem cV_X8_readsFact {b : Bool} {w : pW} {p : Program} {l : Launch} {e : Env} {R : Room} {s : State} {m : MethodId} {args : Array Value} {below : List Frame} {meth : Method} {c : Code} {own : String} {cc : ByteArray} {nL cells slots pc : Nat} {Qw : State → Prop} {d : Nat} {Q : pQ} (K : q_X b w p s m args c own cc nL R d cells slots) {idx : Nat} (hd : decode cc pc = .ok (.invokevirtual idx, 3)) (w2 : Cond.methodLink own idx yX8_readsFact ∈ p_T) : p_sd b (q_C l b w) d Q (q_Z b w p l e R s m args below meth c nL cells slots Qw) (o_call 8 k_X8_readsFact 1) pc := s_cV K hd m_ok_X8_readsFact n_ok_X8_readsFact w_c_X8_readsFact w2 w_i_X8_readsFact w_e_X8_readsFact w_I_RX8 y_ok_X8_readsFact (by decide) (hcl := rfl) (by decide)
theorem y_ok_X8_readsClaim : yX8_readsClaim.cls ≠ "java/lang/invoke/MethodHandle" ∧ yX8_readsClaim.cls ≠ "java/lang/invoke/VarHandle" ∧ (parseMethodDescriptor yX8_readsClaim.desc).map (fun d => d.parameters.length) = some 0 := by decide +kernel
theorem m_ok_X8_readsClaim : p_gm p_ms k_X8_readsClaim = (yX8_readsClaim, cX8_readsClaim, (some .boolean)) := rfl
theorem n_ok_X8_readsClaim : p_g p_nls k_X8_readsClaim = 1 := rfl
theorem cV_X8_readsClaim {b : Bool} {w : pW} {p : Program} {l : Launch} {e : Env} {R : Room} {s : State} {m : MethodId} {args : Array Value} {below : List Frame} {meth : Method} {c : Code} {own : String} {cc : ByteArray} {nL cells slots pc : Nat} {Qw : State → Prop} {d : Nat} {Q : pQ} (K : q_X b w p s m args c own cc nL R d cells slots) {idx : Nat} (hd : decode cc pc = .ok (.invokevirtual idx, 3)) (w2 : Cond.methodLink own idx yX8_readsClaim ∈ p_T) : p_sd b (q_C l b w) d Q (q_Z b w p l e R s m args below meth c nL cells slots Qw) (o_call 8 k_X8_readsClaim 1) pc := s_cV K hd m_ok_X8_readsClaim n_ok_X8_readsClaim w_c_X8_readsClaim w2 w_i_X8_readsClaim w_e_X8_readsClaim w_I_RX8 y_ok_X8_readsClaim (by decide) (hcl := rfl) (by decide)
theorem y_ok_X8_readsItem : yX8_readsItem.cls ≠ "java/lang/invoke/MethodHandle" ∧ yX8_readsItem.cls ≠ "java/lang/invoke/VarHandle" ∧ (parseMethodDescriptor yX8_readsItem.desc).map (fun d => d.parameters.length) = some 0 := by decide +kernel
theorem m_ok_X8_readsItem : p_gm p_ms k_X8_readsItem = (yX8_readsItem, cX8_readsItem, (some .boolean)) := rfl
theorem n_ok_X8_readsItem : p_g p_nls k_X8_readsItem = 2 := rfl
theorem cV_X8_readsItem {b : Bool} {w : pW} {p : Program} {l : Launch} {e : Env} {R : Room} {s : State} {m : MethodId} {args : Array Value} {below : List Frame} {meth : Method} {c : Code} {own : String} {cc : ByteArray} {nL cells slots pc : Nat} {Qw : State → Prop} {d : Nat} {Q : pQ} (K : q_X b w p s m args c own cc nL R d cells slots) {idx : Nat} (hd : decode cc pc = .ok (.invokevirtual idx, 3)) (w2 : Cond.methodLink own idx yX8_readsItem ∈ p_T) : p_sd b (q_C l b w) d Q (q_Z b w p l e R s m args below meth c nL cells slots Qw) (o_call 8 k_X8_readsItem 1) pc := s_cV K hd m_ok_X8_readsItem n_ok_X8_readsItem w_c_X8_readsItem w2 w_i_X8_readsItem w_e_X8_readsItem w_I_RX8 y_ok_X8_readsItem (by decide) (hcl := rfl) (by decide)
theorem y_ok_X8_fault : yX8_fault.cls ≠ "java/lang/invoke/MethodHandle" ∧ yX8_fault.cls ≠ "java/lang/invoke/VarHandle" ∧ (parseMethodDescriptor yX8_fault.desc).map (fun d => d.parameters.length) = some 0 := by decide +kernel
theorem m_ok_X8_fault : p_gm p_ms k_X8_fault = (yX8_fault, cX8_fault, (some .int)) := rfl
theorem n_ok_X8_fault : p_g p_nls k_X8_fault = 2 := rfl
theorem cV_X8_fault {b : Bool} {w : pW} {p : Program} {l : Launch} {e : Env} {R : Room} {s : State} {m : MethodId} {args : Array Value} {below : List Frame} {meth : Method} {c : Code} {own : String} {cc : ByteArray} {nL cells slots pc : Nat} {Qw : State → Prop} {d : Nat} {Q : pQ} (K : q_X b w p s m args c own cc nL R d cells slots) {idx : Nat} (hd : decode cc pc = .ok (.invokevirtual idx, 3)) (w2 : Cond.methodLink own idx yX8_fault ∈ p_T) : p_sd b (q_C l b w) d Q (q_Z b w p l e R s m args below meth c nL cells slots Qw) (o_call 8 k_X8_fault 1) pc := s_cV K hd m_ok_X8_fault n_ok_X8_fault w_c_X8_fault w2 w_i_X8_fault w_e_X8_fault w_I_RX8 y_ok_X8_fault (by decide) (hcl := rfl) (by decide)
theorem y_ok_X8_isFalse : yX8_isFalse.cls ≠ "java/lang/invoke/MethodHandle" ∧ yX8_isFalse.cls ≠ "java/lang/invoke/VarHandle" ∧ (parseMethodDescriptor yX8_isFalse.desc).map (fun d => d.parameters.length) = some 1 := by decide +kernel
theorem m_ok_X8_isFalse : p_gm p_ms k_X8_isFalse = (yX8_isFalse, cX8_isFalse, (some .boolean)) := rfl
theorem n_ok_X8_isFalse : p_g p_nls k_X8_isFalse = 2 := rfl
theorem cV_X8_isFalse {b : Bool} {w : pW} {p : Program} {l : Launch} {e : Env} {R : Room} {s : State} {m : MethodId} {args : Array Value} {below : List Frame} {meth : Method} {c : Code} {own : String} {cc : ByteArray} {nL cells slots pc : Nat} {Qw : State → Prop} {d : Nat} {Q : pQ} (K : q_X b w p s m args c own cc nL R d cells slots) {idx : Nat} (hd : decode cc pc = .ok (.invokevirtual idx, 3)) (w2 : Cond.methodLink own idx yX8_isFalse ∈ p_T) : p_sd b (q_C l b w) d Q (q_Z b w p l e R s m args below meth c nL cells slots Qw) (o_call 8 k_X8_isFalse 2) pc := s_cV K hd m_ok_X8_isFalse n_ok_X8_isFalse w_c_X8_isFalse w2 w_i_X8_isFalse w_e_X8_isFalse w_I_RX8 y_ok_X8_isFalse (by decide) (hcl := rfl) (by decide)
theorem y_ok_X8_hotter : yX8_hotter.cls ≠ "java/lang/invoke/MethodHandle" ∧ yX8_hotter.cls ≠ "java/lang/invoke/VarHandle" ∧ (parseMethodDescriptor yX8_hotter.desc).map (fun d => d.parameters.length) = some 3 := by decide +kernel
theorem m_ok_X8_hotter : p_gm p_ms k_X8_hotter = (yX8_hotter, cX8_hotter, (some .int)) := rfl
theorem n_ok_X8_hotter : p_g p_nls k_X8_hotter = 4 := rfl
theorem cS_X8_hotter {b : Bool} {w : pW} {p : Program} {l : Launch} {e : Env} {R : Room} {s : State} {m : MethodId} {args : Array Value} {below : List Frame} {meth : Method} {c : Code} {own : String} {cc : ByteArray} {nL cells slots pc : Nat} {Qw : State → Prop} {d : Nat} {Q : pQ} (K : q_X b w p s m args c own cc nL R d cells slots) {idx : Nat} (hd : decode cc pc = .ok (.invokestatic idx, 3)) (w2 : Cond.methodLink own idx yX8_hotter ∈ p_T) : p_sd b (q_C l b w) d Q (q_Z b w p l e R s m args below meth c nL cells slots Qw) (o_call 99 k_X8_hotter 3) pc := s_cS K hd m_ok_X8_hotter n_ok_X8_hotter w_c_X8_hotter w2 w_s_X8_hotter w_I_RX8 y_ok_X8_hotter (by decide)
theorem y_ok_X8_has : yX8_has.cls ≠ "java/lang/invoke/MethodHandle" ∧ yX8_has.cls ≠ "java/lang/invoke/VarHandle" ∧ (parseMethodDescriptor yX8_has.desc).map (fun d => d.parameters.length) = some 2 := by decide +kernel
theorem m_ok_X8_has : p_gm p_ms k_X8_has = (yX8_has, cX8_has, (some .boolean)) := rfl
theorem n_ok_X8_has : p_g p_nls k_X8_has = 2 := rfl
theorem cS_X8_has {b : Bool} {w : pW} {p : Program} {l : Launch} {e : Env} {R : Room} {s : State} {m : MethodId} {args : Array Value} {below : List Frame} {meth : Method} {c : Code} {own : String} {cc : ByteArray} {nL cells slots pc : Nat} {Qw : State → Prop} {d : Nat} {Q : pQ} (K : q_X b w p s m args c own cc nL R d cells slots) {idx : Nat} (hd : decode cc pc = .ok (.invokestatic idx, 3)) (w2 : Cond.methodLink own idx yX8_has ∈ p_T) : p_sd b (q_C l b w) d Q (q_Z b w p l e R s m args below meth c nL cells slots Qw) (o_call 99 k_X8_has 2) pc := s_cS K hd m_ok_X8_has n_ok_X8_has w_c_X8_has w2 w_s_X8_has w_I_RX8 y_ok_X8_has (by decide)
theorem y_ok_X8_evening : yX8_evening.cls ≠ "java/lang/invoke/MethodHandle" ∧ yX8_evening.cls ≠ "java/lang/invoke/VarHandle" ∧ (parseMethodDescriptor yX8_evening.desc).map (fun d => d.parameters.length) = some 1 := by decide +kernel
theorem m_ok_X8_evening : p_gm p_ms k_X8_evening = (yX8_evening, cX8_evening, none) := rfl
theorem n_ok_X8_evening : p_g p_nls k_X8_evening = 7 := rfl
theorem cV_X8_evening {b : Bool} {w : pW} {p : Program} {l : Launch} {e : Env} {R : Room} {s : State} {m : MethodId} {args : Array Value} {below : List Frame} {meth : Method} {c : Code} {own : String} {cc : ByteArray} {nL cells slots pc : Nat} {Qw : State → Prop} {d : Nat} {Q : pQ} (K : q_X b w p s m args c own cc nL R d cells slots) {idx : Nat} (hd : decode cc pc = .ok (.invokevirtual idx, 3)) (w2 : Cond.methodLink own idx yX8_evening ∈ p_T) : p_sd b (q_C l b w) d Q (q_Z b w p l e R s m args below meth c nL cells slots Qw) (o_call 8 k_X8_evening 2) pc := s_cV K hd m_ok_X8_evening n_ok_X8_evening w_c_X8_evening w2 w_i_X8_evening w_e_X8_evening w_I_RX8 y_ok_X8_evening (by decide) (hcl := rfl) (by decide)
theorem y_ok_X8_isTeller : yX8_isTeller.cls ≠ "java/lang/invoke/MethodHandle" ∧ yX8_isTeller.cls ≠ "java/lang/invoke/VarHandle" ∧ (parseMethodDescriptor yX8_isTeller.desc).map (fun d => d.parameters.length) = some 1 := by decide +kernel
theorem m_ok_X8_isTeller : p_gm p_ms k_X8_isTeller = (yX8_isTeller, cX8_isTeller, (some .boolean)) := rfl
theorem n_ok_X8_isTeller : p_g p_nls k_X8_isTeller = 2 := rfl
theorem cV_X8_isTeller {b : Bool} {w : pW} {p : Program} {l : Launch} {e : Env} {R : Room} {s : State} {m : MethodId} {args : Array Value} {below : List Frame} {meth : Method} {c : Code} {own : String} {cc : ByteArray} {nL cells slots pc : Nat} {Qw : State → Prop} {d : Nat} {Q : pQ} (K : q_X b w p s m args c own cc nL R d cells slots) {idx : Nat} (hd : decode cc pc = .ok (.invokevirtual idx, 3)) (w2 : Cond.methodLink own idx yX8_isTeller ∈ p_T) : p_sd b (q_C l b w) d Q (q_Z b w p l e R s m args below meth c nL cells slots Qw) (o_call 8 k_X8_isTeller 2) pc := s_cV K hd m_ok_X8_isTeller n_ok_X8_isTeller w_c_X8_isTeller w2 w_i_X8_isTeller w_e_X8_isTeller w_I_RX8 y_ok_X8_isTeller (by decide) (hcl := rfl) (by decide)
theorem y_ok_X8_isFact : yX8_isFact.cls ≠ "java/lang/invoke/MethodHandle" ∧ yX8_isFact.cls ≠ "java/lang/invoke/VarHandle" ∧ (parseMethodDescriptor yX8_isFact.desc).map (fun d => d.parameters.length) = some 1 := by decide +kernel
theorem m_ok_X8_isFact : p_gm p_ms k_X8_isFact = (yX8_isFact, cX8_isFact, (some .boolean)) := rfl
theorem n_ok_X8_isFact : p_g p_nls k_X8_isFact = 2 := rfl
theorem cV_X8_isFact {b : Bool} {w : pW} {p : Program} {l : Launch} {e : Env} {R : Room} {s : State} {m : MethodId} {args : Array Value} {below : List Frame} {meth : Method} {c : Code} {own : String} {cc : ByteArray} {nL cells slots pc : Nat} {Qw : State → Prop} {d : Nat} {Q : pQ} (K : q_X b w p s m args c own cc nL R d cells slots) {idx : Nat} (hd : decode cc pc = .ok (.invokevirtual idx, 3)) (w2 : Cond.methodLink own idx yX8_isFact ∈ p_T) : p_sd b (q_C l b w) d Q (q_Z b w p l e R s m args below meth c nL cells slots Qw) (o_call 8 k_X8_isFact 2) pc := s_cV K hd m_ok_X8_isFact n_ok_X8_isFact w_c_X8_isFact w2 w_i_X8_isFact w_e_X8_isFact w_I_RX8 y_ok_X8_isFact (by decide) (hcl := rfl) (by decide)
theorem y_ok_X8_isClaim : yX8_isClaim.cls ≠ "java/lang/invoke/MethodHandle" ∧ yX8_isClaim.cls ≠ "java/lang/invoke/VarHandle" ∧ (parseMethodDescriptor yX8_isClaim.desc).map (fun d => d.parameters.length) = some 1 := by decide +kernel
theorem m_ok_X8_isClaim : p_gm p_ms k_X8_isClaim = (yX8_isClaim, cX8_isClaim, (some .boolean)) := rfl
theorem n_ok_X8_isClaim : p_g p_nls k_X8_isClaim = 2 := rfl
theorem cV_X8_isClaim {b : Bool} {w : pW} {p : Program} {l : Launch} {e : Env} {R : Room} {s : State} {m : MethodId} {args : Array Value} {below : List Frame} {meth : Method} {c : Code} {own : String} {cc : ByteArray} {nL cells slots pc : Nat} {Qw : State → Prop} {d : Nat} {Q : pQ} (K : q_X b w p s m args c own cc nL R d cells slots) {idx : Nat} (hd : decode cc pc = .ok (.invokevirtual idx, 3)) (w2 : Cond.methodLink own idx yX8_isClaim ∈ p_T) : p_sd b (q_C l b w) d Q (q_Z b w p l e R s m args below meth c nL cells slots Qw) (o_call 8 k_X8_isClaim 2) pc := s_cV K hd m_ok_X8_isClaim n_ok_X8_isClaim w_c_X8_isClaim w2 w_i_X8_isClaim w_e_X8_isClaim w_I_RX8 y_ok_X8_isClaim (by decide) (hcl := rfl) (by decide)
theorem y_ok_X8_lays : yX8_lays.cls ≠ "java/lang/invoke/MethodHandle" ∧ yX8_lays.cls ≠ "java/lang/invoke/VarHandle" ∧ (parseMethodDescriptor yX8_lays.desc).map (fun d => d.parameters.length) = some 2 := by decide +kernel
theorem m_ok_X8_lays : p_gm p_ms k_X8_lays = (yX8_lays, cX8_lays, none) := rfl
theorem n_ok_X8_lays : p_g p_nls k_X8_lays = 4 := rfl
theorem cV_X8_lays {b : Bool} {w : pW} {p : Program} {l : Launch} {e : Env} {R : Room} {s : State} {m : MethodId} {args : Array Value} {below : List Frame} {meth : Method} {c : Code} {own : String} {cc : ByteArray} {nL cells slots pc : Nat} {Qw : State → Prop} {d : Nat} {Q : pQ} (K : q_X b w p s m args c own cc nL R d cells slots) {idx : Nat} (hd : decode cc pc = .ok (.invokevirtual idx, 3)) (w2 : Cond.methodLink own idx yX8_lays ∈ p_T) : p_sd b (q_C l b w) d Q (q_Z b w p l e R s m args below meth c nL cells slots Qw) (o_call 8 k_X8_lays 3) pc := s_cV K hd m_ok_X8_lays n_ok_X8_lays w_c_X8_lays w2 w_i_X8_lays w_e_X8_lays w_I_RX8 y_ok_X8_lays (by decide) (hcl := rfl) (by decide)
theorem y_ok_X8_notes : yX8_notes.cls ≠ "java/lang/invoke/MethodHandle" ∧ yX8_notes.cls ≠ "java/lang/invoke/VarHandle" ∧ (parseMethodDescriptor yX8_notes.desc).map (fun d => d.parameters.length) = some 0 := by decide +kernel
theorem m_ok_X8_notes : p_gm p_ms k_X8_notes = (yX8_notes, cX8_notes, none) := rfl
theorem n_ok_X8_notes : p_g p_nls k_X8_notes = 2 := rfl
theorem cV_X8_notes {b : Bool} {w : pW} {p : Program} {l : Launch} {e : Env} {R : Room} {s : State} {m : MethodId} {args : Array Value} {below : List Frame} {meth : Method} {c : Code} {own : String} {cc : ByteArray} {nL cells slots pc : Nat} {Qw : State → Prop} {d : Nat} {Q : pQ} (K : q_X b w p s m args c own cc nL R d cells slots) {idx : Nat} (hd : decode cc pc = .ok (.invokevirtual idx, 3)) (w2 : Cond.methodLink own idx yX8_notes ∈ p_T) : p_sd b (q_C l b w) d Q (q_Z b w p l e R s m args below meth c nL cells slots Qw) (o_call 8 k_X8_notes 1) pc := s_cV K hd m_ok_X8_notes n_ok_X8_notes w_c_X8_notes w2 w_i_X8_notes w_e_X8_notes w_I_RX8 y_ok_X8_notes (by decide) (hcl := rfl) (by decide)
theorem y_ok_X8_copies : yX8_copies.cls ≠ "java/lang/invoke/MethodHandle" ∧ yX8_copies.cls ≠ "java/lang/invoke/VarHandle" ∧ (parseMethodDescriptor yX8_copies.desc).map (fun d => d.parameters.length) = some 2 := by decide +kernel
theorem m_ok_X8_copies : p_gm p_ms k_X8_copies = (yX8_copies, cX8_copies, none) := rfl
theorem n_ok_X8_copies : p_g p_nls k_X8_copies = 3 := rfl
theorem cV_X8_copies {b : Bool} {w : pW} {p : Program} {l : Launch} {e : Env} {R : Room} {s : State} {m : MethodId} {args : Array Value} {below : List Frame} {meth : Method} {c : Code} {own : String} {cc : ByteArray} {nL cells slots pc : Nat} {Qw : State → Prop} {d : Nat} {Q : pQ} (K : q_X b w p s m args c own cc nL R d cells slots) {idx : Nat} (hd : decode cc pc = .ok (.invokevirtual idx, 3)) (w2 : Cond.methodLink own idx yX8_copies ∈ p_T) : p_sd b (q_C l b w) d Q (q_Z b w p l e R s m args below meth c nL cells slots Qw) (o_call 8 k_X8_copies 3) pc := s_cV K hd m_ok_X8_copies n_ok_X8_copies w_c_X8_copies w2 w_i_X8_copies w_e_X8_copies w_I_RX8 y_ok_X8_copies (by decide) (hcl := rfl) (by decide)
theorem y_ok_X8_shifts : yX8_shifts.cls ≠ "java/lang/invoke/MethodHandle" ∧ yX8_shifts.cls ≠ "java/lang/invoke/VarHandle" ∧ (parseMethodDescriptor yX8_shifts.desc).map (fun d => d.parameters.length) = some 2 := by decide +kernel
theorem m_ok_X8_shifts : p_gm p_ms k_X8_shifts = (yX8_shifts, cX8_shifts, none) := rfl
theorem n_ok_X8_shifts : p_g p_nls k_X8_shifts = 8 := rfl
theorem cV_X8_shifts {b : Bool} {w : pW} {p : Program} {l : Launch} {e : Env} {R : Room} {s : State} {m : MethodId} {args : Array Value} {below : List Frame} {meth : Method} {c : Code} {own : String} {cc : ByteArray} {nL cells slots pc : Nat} {Qw : State → Prop} {d : Nat} {Q : pQ} (K : q_X b w p s m args c own cc nL R d cells slots) {idx : Nat} (hd : decode cc pc = .ok (.invokevirtual idx, 3)) (w2 : Cond.methodLink own idx yX8_shifts ∈ p_T) : p_sd b (q_C l b w) d Q (q_Z b w p l e R s m args below meth c nL cells slots Qw) (o_call 8 k_X8_shifts 3) pc := s_cV K hd m_ok_X8_shifts n_ok_X8_shifts w_c_X8_shifts w2 w_i_X8_shifts w_e_X8_shifts w_I_RX8 y_ok_X8_shifts (by decide) (hcl := rfl) (by decide)
theorem y_ok_X8_takes : yX8_takes.cls ≠ "java/lang/invoke/MethodHandle" ∧ yX8_takes.cls ≠ "java/lang/invoke/VarHandle" ∧ (parseMethodDescriptor yX8_takes.desc).map (fun d => d.parameters.length) = some 2 := by decide +kernel
theorem m_ok_X8_takes : p_gm p_ms k_X8_takes = (yX8_takes, cX8_takes, none) := rfl
theorem n_ok_X8_takes : p_g p_nls k_X8_takes = 4 := rfl
theorem cV_X8_takes {b : Bool} {w : pW} {p : Program} {l : Launch} {e : Env} {R : Room} {s : State} {m : MethodId} {args : Array Value} {below : List Frame} {meth : Method} {c : Code} {own : String} {cc : ByteArray} {nL cells slots pc : Nat} {Qw : State → Prop} {d : Nat} {Q : pQ} (K : q_X b w p s m args c own cc nL R d cells slots) {idx : Nat} (hd : decode cc pc = .ok (.invokevirtual idx, 3)) (w2 : Cond.methodLink own idx yX8_takes ∈ p_T) : p_sd b (q_C l b w) d Q (q_Z b w p l e R s m args below meth c nL cells slots Qw) (o_call 8 k_X8_takes 3) pc := s_cV K hd m_ok_X8_takes n_ok_X8_takes w_c_X8_takes w2 w_i_X8_takes w_e_X8_takes w_I_RX8 y_ok_X8_takes (by decide) (hcl := rfl) (by decide)
theorem y_ok_X8_without : yX8_without.cls ≠ "java/lang/invoke/MethodHandle" ∧ yX8_without.cls ≠ "java/lang/invoke/VarHandle" ∧ (parseMethodDescriptor yX8_without.desc).map (fun d => d.parameters.length) = some 1 := by decide +kernel
theorem m_ok_X8_without : p_gm p_ms k_X8_without = (yX8_without, cX8_without, none) := rfl
theorem n_ok_X8_without : p_g p_nls k_X8_without = 4 := rfl
theorem cV_X8_without {b : Bool} {w : pW} {p : Program} {l : Launch} {e : Env} {R : Room} {s : State} {m : MethodId} {args : Array Value} {below : List Frame} {meth : Method} {c : Code} {own : String} {cc : ByteArray} {nL cells slots pc : Nat} {Qw : State → Prop} {d : Nat} {Q : pQ} (K : q_X b w p s m args c own cc nL R d cells slots) {idx : Nat} (hd : decode cc pc = .ok (.invokevirtual idx, 3)) (w2 : Cond.methodLink own idx yX8_without ∈ p_T) : p_sd b (q_C l b w) d Q (q_Z b w p l e R s m args below meth c nL cells slots Qw) (o_call 8 k_X8_without 2) pc := s_cV K hd m_ok_X8_without n_ok_X8_without w_c_X8_without w2 w_i_X8_without w_e_X8_without w_I_RX8 y_ok_X8_without (by decide) (hcl := rfl) (by decide)
theorem y_ok_X8_bits : yX8_bits.cls ≠ "java/lang/invoke/MethodHandle" ∧ yX8_bits.cls ≠ "java/lang/invoke/VarHandle" ∧ (parseMethodDescriptor yX8_bits.desc).map (fun d => d.parameters.length) = some 1 := by decide +kernel
theorem m_ok_X8_bits : p_gm p_ms k_X8_bits = (yX8_bits, cX8_bits, (some .int)) := rfl
theorem n_ok_X8_bits : p_g p_nls k_X8_bits = 3 := rfl
theorem cS_X8_bits {b : Bool} {w : pW} {p : Program} {l : Launch} {e : Env} {R : Room} {s : State} {m : MethodId} {args : Array Value} {below : List Frame} {meth : Method} {c : Code} {own : String} {cc : ByteArray} {nL cells slots pc : Nat} {Qw : State → Prop} {d : Nat} {Q : pQ} (K : q_X b w p s m args c own cc nL R d cells slots) {idx : Nat} (hd : decode cc pc = .ok (.invokestatic idx, 3)) (w2 : Cond.methodLink own idx yX8_bits ∈ p_T) : p_sd b (q_C l b w) d Q (q_Z b w p l e R s m args below meth c nL cells slots Qw) (o_call 99 k_X8_bits 1) pc := s_cS K hd m_ok_X8_bits n_ok_X8_bits w_c_X8_bits w2 w_s_X8_bits w_I_RX8 y_ok_X8_bits (by decide)
theorem y_ok_X8_nextRow : yX8_nextRow.cls ≠ "java/lang/invoke/MethodHandle" ∧ yX8_nextRow.cls ≠ "java/lang/invoke/VarHandle" ∧ (parseMethodDescriptor yX8_nextRow.desc).map (fun d => d.parameters.length) = some 0 := by decide +kernel
theorem m_ok_X8_nextRow : p_gm p_ms k_X8_nextRow = (yX8_nextRow, cX8_nextRow, (some .boolean)) := rfl
theorem n_ok_X8_nextRow : p_g p_nls k_X8_nextRow = 7 := rfl
theorem cV_X8_nextRow {b : Bool} {w : pW} {p : Program} {l : Launch} {e : Env} {R : Room} {s : State} {m : MethodId} {args : Array Value} {below : List Frame} {meth : Method} {c : Code} {own : String} {cc : ByteArray} {nL cells slots pc : Nat} {Qw : State → Prop} {d : Nat} {Q : pQ} (K : q_X b w p s m args c own cc nL R d cells slots) {idx : Nat} (hd : decode cc pc = .ok (.invokevirtual idx, 3)) (w2 : Cond.methodLink own idx yX8_nextRow ∈ p_T) : p_sd b (q_C l b w) d Q (q_Z b w p l e R s m args below meth c nL cells slots Qw) (o_call 8 k_X8_nextRow 1) pc := s_cV K hd m_ok_X8_nextRow n_ok_X8_nextRow w_c_X8_nextRow w2 w_i_X8_nextRow w_e_X8_nextRow w_I_RX8 y_ok_X8_nextRow (by decide) (hcl := rfl) (by decide)
theorem y_ok_X8_gone : yX8_gone.cls ≠ "java/lang/invoke/MethodHandle" ∧ yX8_gone.cls ≠ "java/lang/invoke/VarHandle" ∧ (parseMethodDescriptor yX8_gone.desc).map (fun d => d.parameters.length) = some 0 := by decide +kernel
theorem m_ok_X8_gone : p_gm p_ms k_X8_gone = (yX8_gone, cX8_gone, (some .int)) := rfl
theorem n_ok_X8_gone : p_g p_nls k_X8_gone = 3 := rfl
theorem cV_X8_gone {b : Bool} {w : pW} {p : Program} {l : Launch} {e : Env} {R : Room} {s : State} {m : MethodId} {args : Array Value} {below : List Frame} {meth : Method} {c : Code} {own : String} {cc : ByteArray} {nL cells slots pc : Nat} {Qw : State → Prop} {d : Nat} {Q : pQ} (K : q_X b w p s m args c own cc nL R d cells slots) {idx : Nat} (hd : decode cc pc = .ok (.invokevirtual idx, 3)) (w2 : Cond.methodLink own idx yX8_gone ∈ p_T) : p_sd b (q_C l b w) d Q (q_Z b w p l e R s m args below meth c nL cells slots Qw) (o_call 8 k_X8_gone 1) pc := s_cV K hd m_ok_X8_gone n_ok_X8_gone w_c_X8_gone w2 w_i_X8_gone w_e_X8_gone w_I_RX8 y_ok_X8_gone (by decide) (hcl := rfl) (by decide)
theorem y_ok_X8_goneBy : yX8_goneBy.cls ≠ "java/lang/invoke/MethodHandle" ∧ yX8_goneBy.cls ≠ "java/lang/invoke/VarHandle" ∧ (parseMethodDescriptor yX8_goneBy.desc).map (fun d => d.parameters.length) = some 2 := by decide +kernel
theorem m_ok_X8_goneBy : p_gm p_ms k_X8_goneBy = (yX8_goneBy, cX8_goneBy, (some .int)) := rfl
theorem n_ok_X8_goneBy : p_g p_nls k_X8_goneBy = 5 := rfl
theorem cV_X8_goneBy {b : Bool} {w : pW} {p : Program} {l : Launch} {e : Env} {R : Room} {s : State} {m : MethodId} {args : Array Value} {below : List Frame} {meth : Method} {c : Code} {own : String} {cc : ByteArray} {nL cells slots pc : Nat} {Qw : State → Prop} {d : Nat} {Q : pQ} (K : q_X b w p s m args c own cc nL R d cells slots) {idx : Nat} (hd : decode cc pc = .ok (.invokevirtual idx, 3)) (w2 : Cond.methodLink own idx yX8_goneBy ∈ p_T) : p_sd b (q_C l b w) d Q (q_Z b w p l e R s m args below meth c nL cells slots Qw) (o_call 8 k_X8_goneBy 3) pc := s_cV K hd m_ok_X8_goneBy n_ok_X8_goneBy w_c_X8_goneBy w2 w_i_X8_goneBy w_e_X8_goneBy w_I_RX8 y_ok_X8_goneBy (by decide) (hcl := rfl) (by decide)
theorem y_ok_X8_isSo : yX8_isSo.cls ≠ "java/lang/invoke/MethodHandle" ∧ yX8_isSo.cls ≠ "java/lang/invoke/VarHandle" ∧ (parseMethodDescriptor yX8_isSo.desc).map (fun d => d.parameters.length) = some 0 := by decide +kernel
theorem m_ok_X8_isSo : p_gm p_ms k_X8_isSo = (yX8_isSo, cX8_isSo, (some .boolean)) := rfl
theorem n_ok_X8_isSo : p_g p_nls k_X8_isSo = 4 := rfl
theorem cV_X8_isSo {b : Bool} {w : pW} {p : Program} {l : Launch} {e : Env} {R : Room} {s : State} {m : MethodId} {args : Array Value} {below : List Frame} {meth : Method} {c : Code} {own : String} {cc : ByteArray} {nL cells slots pc : Nat} {Qw : State → Prop} {d : Nat} {Q : pQ} (K : q_X b w p s m args c own cc nL R d cells slots) {idx : Nat} (hd : decode cc pc = .ok (.invokevirtual idx, 3)) (w2 : Cond.methodLink own idx yX8_isSo ∈ p_T) : p_sd b (q_C l b w) d Q (q_Z b w p l e R s m args below meth c nL cells slots Qw) (o_call 8 k_X8_isSo 1) pc := s_cV K hd m_ok_X8_isSo n_ok_X8_isSo w_c_X8_isSo w2 w_i_X8_isSo w_e_X8_isSo w_I_RX8 y_ok_X8_isSo (by decide) (hcl := rfl) (by decide)
theorem y_ok_X8_common : yX8_common.cls ≠ "java/lang/invoke/MethodHandle" ∧ yX8_common.cls ≠ "java/lang/invoke/VarHandle" ∧ (parseMethodDescriptor yX8_common.desc).map (fun d => d.parameters.length) = some 2 := by decide +kernel
theorem m_ok_X8_common : p_gm p_ms k_X8_common = (yX8_common, cX8_common, (some .long)) := rfl
theorem n_ok_X8_common : p_g p_nls k_X8_common = 10 := rfl
theorem cS_X8_common {b : Bool} {w : pW} {p : Program} {l : Launch} {e : Env} {R : Room} {s : State} {m : MethodId} {args : Array Value} {below : List Frame} {meth : Method} {c : Code} {own : String} {cc : ByteArray} {nL cells slots pc : Nat} {Qw : State → Prop} {d : Nat} {Q : pQ} (K : q_X b w p s m args c own cc nL R d cells slots) {idx : Nat} (hd : decode cc pc = .ok (.invokestatic idx, 3)) (w2 : Cond.methodLink own idx yX8_common ∈ p_T) : p_sd b (q_C l b w) d Q (q_Z b w p l e R s m args below meth c nL cells slots Qw) (o_call 99 k_X8_common 2) pc := s_cS K hd m_ok_X8_common n_ok_X8_common w_c_X8_common w2 w_s_X8_common w_I_RX8 y_ok_X8_common (by decide)
theorem y_ok_X8_falseMany : yX8_falseMany.cls ≠ "java/lang/invoke/MethodHandle" ∧ yX8_falseMany.cls ≠ "java/lang/invoke/VarHandle" ∧ (parseMethodDescriptor yX8_falseMany.desc).map (fun d => d.parameters.length) = some 0 := by decide +kernel
theorem m_ok_X8_falseMany : p_gm p_ms k_X8_falseMany = (yX8_falseMany, cX8_falseMany, (some .int)) := rfl
theorem n_ok_X8_falseMany : p_g p_nls k_X8_falseMany = 3 := rfl
theorem cV_X8_falseMany {b : Bool} {w : pW} {p : Program} {l : Launch} {e : Env} {R : Room} {s : State} {m : MethodId} {args : Array Value} {below : List Frame} {meth : Method} {c : Code} {own : String} {cc : ByteArray} {nL cells slots pc : Nat} {Qw : State → Prop} {d : Nat} {Q : pQ} (K : q_X b w p s m args c own cc nL R d cells slots) {idx : Nat} (hd : decode cc pc = .ok (.invokevirtual idx, 3)) (w2 : Cond.methodLink own idx yX8_falseMany ∈ p_T) : p_sd b (q_C l b w) d Q (q_Z b w p l e R s m args below meth c nL cells slots Qw) (o_call 8 k_X8_falseMany 1) pc := s_cV K hd m_ok_X8_falseMany n_ok_X8_falseMany w_c_X8_falseMany w2 w_i_X8_falseMany w_e_X8_falseMany w_I_RX8 y_ok_X8_falseMany (by decide) (hcl := rfl) (by decide)
theorem y_ok_X7_write : yX7_write.cls ≠ "java/lang/invoke/MethodHandle" ∧ yX7_write.cls ≠ "java/lang/invoke/VarHandle" ∧ (parseMethodDescriptor yX7_write.desc).map (fun d => d.parameters.length) = some 1 := by decide +kernel
theorem m_ok_X7_write : p_gm p_ms k_X7_write = (yX7_write, cX7_write, (some .int)) := rfl
theorem n_ok_X7_write : p_g p_nls k_X7_write = 2 := rfl
theorem cV_X7_write {b : Bool} {w : pW} {p : Program} {l : Launch} {e : Env} {R : Room} {s : State} {m : MethodId} {args : Array Value} {below : List Frame} {meth : Method} {c : Code} {own : String} {cc : ByteArray} {nL cells slots pc : Nat} {Qw : State → Prop} {d : Nat} {Q : pQ} (K : q_X b w p s m args c own cc nL R d cells slots) {idx : Nat} (hd : decode cc pc = .ok (.invokevirtual idx, 3)) (w2 : Cond.methodLink own idx yX7_write ∈ p_T) : p_sd b (q_C l b w) d Q (q_Z b w p l e R s m args below meth c nL cells slots Qw) (o_call 7 k_X7_write 2) pc := s_cV K hd m_ok_X7_write n_ok_X7_write w_c_X7_write w2 w_i_X7_write w_e_X7_write w_I_RX7 y_ok_X7_write (by decide) (hcl := rfl) (by decide)
theorem y_ok_X8_write : yX8_write.cls ≠ "java/lang/invoke/MethodHandle" ∧ yX8_write.cls ≠ "java/lang/invoke/VarHandle" ∧ (parseMethodDescriptor yX8_write.desc).map (fun d => d.parameters.length) = some 1 := by decide +kernel
theorem m_ok_X8_write : p_gm p_ms k_X8_write = (yX8_write, cX8_write, (some .int)) := rfl
theorem n_ok_X8_write : p_g p_nls k_X8_write = 2 := rfl
theorem cV_X8_write {b : Bool} {w : pW} {p : Program} {l : Launch} {e : Env} {R : Room} {s : State} {m : MethodId} {args : Array Value} {below : List Frame} {meth : Method} {c : Code} {own : String} {cc : ByteArray} {nL cells slots pc : Nat} {Qw : State → Prop} {d : Nat} {Q : pQ} (K : q_X b w p s m args c own cc nL R d cells slots) {idx : Nat} (hd : decode cc pc = .ok (.invokevirtual idx, 3)) (w2 : Cond.methodLink own idx yX8_write ∈ p_T) : p_sd b (q_C l b w) d Q (q_Z b w p l e R s m args below meth c nL cells slots Qw) (o_call 8 k_X8_write 2) pc := s_cV K hd m_ok_X8_write n_ok_X8_write w_c_X8_write w2 w_i_X8_write w_e_X8_write w_I_RX8 y_ok_X8_write (by decide) (hcl := rfl) (by decide)
theorem y_ok_X7_wipe : yX7_wipe.cls ≠ "java/lang/invoke/MethodHandle" ∧ yX7_wipe.cls ≠ "java/lang/invoke/VarHandle" ∧ (parseMethodDescriptor yX7_wipe.desc).map (fun d => d.parameters.length) = some 0 := by decide +kernel
theorem m_ok_X7_wipe : p_gm p_ms k_X7_wipe = (yX7_wipe, cX7_wipe, (some .int)) := rfl
theorem n_ok_X7_wipe : p_g p_nls k_X7_wipe = 2 := rfl
theorem cV_X7_wipe {b : Bool} {w : pW} {p : Program} {l : Launch} {e : Env} {R : Room} {s : State} {m : MethodId} {args : Array Value} {below : List Frame} {meth : Method} {c : Code} {own : String} {cc : ByteArray} {nL cells slots pc : Nat} {Qw : State → Prop} {d : Nat} {Q : pQ} (K : q_X b w p s m args c own cc nL R d cells slots) {idx : Nat} (hd : decode cc pc = .ok (.invokevirtual idx, 3)) (w2 : Cond.methodLink own idx yX7_wipe ∈ p_T) : p_sd b (q_C l b w) d Q (q_Z b w p l e R s m args below meth c nL cells slots Qw) (o_call 7 k_X7_wipe 1) pc := s_cV K hd m_ok_X7_wipe n_ok_X7_wipe w_c_X7_wipe w2 w_i_X7_wipe w_e_X7_wipe w_I_RX7 y_ok_X7_wipe (by decide) (hcl := rfl) (by decide)
theorem y_ok_X8_wipe : yX8_wipe.cls ≠ "java/lang/invoke/MethodHandle" ∧ yX8_wipe.cls ≠ "java/lang/invoke/VarHandle" ∧ (parseMethodDescriptor yX8_wipe.desc).map (fun d => d.parameters.length) = some 0 := by decide +kernel
theorem m_ok_X8_wipe : p_gm p_ms k_X8_wipe = (yX8_wipe, cX8_wipe, (some .int)) := rfl
theorem n_ok_X8_wipe : p_g p_nls k_X8_wipe = 2 := rfl
theorem cV_X8_wipe {b : Bool} {w : pW} {p : Program} {l : Launch} {e : Env} {R : Room} {s : State} {m : MethodId} {args : Array Value} {below : List Frame} {meth : Method} {c : Code} {own : String} {cc : ByteArray} {nL cells slots pc : Nat} {Qw : State → Prop} {d : Nat} {Q : pQ} (K : q_X b w p s m args c own cc nL R d cells slots) {idx : Nat} (hd : decode cc pc = .ok (.invokevirtual idx, 3)) (w2 : Cond.methodLink own idx yX8_wipe ∈ p_T) : p_sd b (q_C l b w) d Q (q_Z b w p l e R s m args below meth c nL cells slots Qw) (o_call 8 k_X8_wipe 1) pc := s_cV K hd m_ok_X8_wipe n_ok_X8_wipe w_c_X8_wipe w2 w_i_X8_wipe w_e_X8_wipe w_I_RX8 y_ok_X8_wipe (by decide) (hcl := rfl) (by decide)
theorem y_ok_X7_fault : yX7_fault.cls ≠ "java/lang/invoke/MethodHandle" ∧ yX7_fault.cls ≠ "java/lang/invoke/VarHandle" ∧ (parseMethodDescriptor yX7_fault.desc).map (fun d => d.parameters.length) = some 0 := by decide +kernel
theorem m_ok_X7_fault : p_gm p_ms k_X7_fault = (yX7_fault, cX7_fault, (some .int)) := rfl
theorem n_ok_X7_fault : p_g p_nls k_X7_fault = 1 := rfl
theorem cV_X7_fault {b : Bool} {w : pW} {p : Program} {l : Launch} {e : Env} {R : Room} {s : State} {m : MethodId} {args : Array Value} {below : List Frame} {meth : Method} {c : Code} {own : String} {cc : ByteArray} {nL cells slots pc : Nat} {Qw : State → Prop} {d : Nat} {Q : pQ} (K : q_X b w p s m args c own cc nL R d cells slots) {idx : Nat} (hd : decode cc pc = .ok (.invokevirtual idx, 3)) (w2 : Cond.methodLink own idx yX7_fault ∈ p_T) : p_sd b (q_C l b w) d Q (q_Z b w p l e R s m args below meth c nL cells slots Qw) (o_call 7 k_X7_fault 1) pc := s_cV K hd m_ok_X7_fault n_ok_X7_fault w_c_X7_fault w2 w_i_X7_fault w_e_X7_fault w_I_RX7 y_ok_X7_fault (by decide) (hcl := rfl) (by decide)
theorem y_ok_X7_lay : yX7_lay.cls ≠ "java/lang/invoke/MethodHandle" ∧ yX7_lay.cls ≠ "java/lang/invoke/VarHandle" ∧ (parseMethodDescriptor yX7_lay.desc).map (fun d => d.parameters.length) = some 0 := by decide +kernel
theorem m_ok_X7_lay : p_gm p_ms k_X7_lay = (yX7_lay, cX7_lay, (some .int)) := rfl
theorem n_ok_X7_lay : p_g p_nls k_X7_lay = 1 := rfl
theorem cV_X7_lay {b : Bool} {w : pW} {p : Program} {l : Launch} {e : Env} {R : Room} {s : State} {m : MethodId} {args : Array Value} {below : List Frame} {meth : Method} {c : Code} {own : String} {cc : ByteArray} {nL cells slots pc : Nat} {Qw : State → Prop} {d : Nat} {Q : pQ} (K : q_X b w p s m args c own cc nL R d cells slots) {idx : Nat} (hd : decode cc pc = .ok (.invokevirtual idx, 3)) (w2 : Cond.methodLink own idx yX7_lay ∈ p_T) : p_sd b (q_C l b w) d Q (q_Z b w p l e R s m args below meth c nL cells slots Qw) (o_call 7 k_X7_lay 1) pc := s_cV K hd m_ok_X7_lay n_ok_X7_lay w_c_X7_lay w2 w_i_X7_lay w_e_X7_lay w_I_RX7 y_ok_X7_lay (by decide) (hcl := rfl) (by decide)
theorem y_ok_X8_lay : yX8_lay.cls ≠ "java/lang/invoke/MethodHandle" ∧ yX8_lay.cls ≠ "java/lang/invoke/VarHandle" ∧ (parseMethodDescriptor yX8_lay.desc).map (fun d => d.parameters.length) = some 0 := by decide +kernel
theorem m_ok_X8_lay : p_gm p_ms k_X8_lay = (yX8_lay, cX8_lay, (some .int)) := rfl
theorem n_ok_X8_lay : p_g p_nls k_X8_lay = 2 := rfl
theorem cV_X8_lay {b : Bool} {w : pW} {p : Program} {l : Launch} {e : Env} {R : Room} {s : State} {m : MethodId} {args : Array Value} {below : List Frame} {meth : Method} {c : Code} {own : String} {cc : ByteArray} {nL cells slots pc : Nat} {Qw : State → Prop} {d : Nat} {Q : pQ} (K : q_X b w p s m args c own cc nL R d cells slots) {idx : Nat} (hd : decode cc pc = .ok (.invokevirtual idx, 3)) (w2 : Cond.methodLink own idx yX8_lay ∈ p_T) : p_sd b (q_C l b w) d Q (q_Z b w p l e R s m args below meth c nL cells slots Qw) (o_call 8 k_X8_lay 1) pc := s_cV K hd m_ok_X8_lay n_ok_X8_lay w_c_X8_lay w2 w_i_X8_lay w_e_X8_lay w_I_RX8 y_ok_X8_lay (by decide) (hcl := rfl) (by decide)
theorem y_ok_X7_teller : yX7_teller.cls ≠ "java/lang/invoke/MethodHandle" ∧ yX7_teller.cls ≠ "java/lang/invoke/VarHandle" ∧ (parseMethodDescriptor yX7_teller.desc).map (fun d => d.parameters.length) = some 2 := by decide +kernel
theorem m_ok_X7_teller : p_gm p_ms k_X7_teller = (yX7_teller, cX7_teller, (some .int)) := rfl
theorem n_ok_X7_teller : p_g p_nls k_X7_teller = 3 := rfl
theorem cV_X7_teller {b : Bool} {w : pW} {p : Program} {l : Launch} {e : Env} {R : Room} {s : State} {m : MethodId} {args : Array Value} {below : List Frame} {meth : Method} {c : Code} {own : String} {cc : ByteArray} {nL cells slots pc : Nat} {Qw : State → Prop} {d : Nat} {Q : pQ} (K : q_X b w p s m args c own cc nL R d cells slots) {idx : Nat} (hd : decode cc pc = .ok (.invokevirtual idx, 3)) (w2 : Cond.methodLink own idx yX7_teller ∈ p_T) : p_sd b (q_C l b w) d Q (q_Z b w p l e R s m args below meth c nL cells slots Qw) (o_call 7 k_X7_teller 3) pc := s_cV K hd m_ok_X7_teller n_ok_X7_teller w_c_X7_teller w2 w_i_X7_teller w_e_X7_teller w_I_RX7 y_ok_X7_teller (by decide) (hcl := rfl) (by decide)
theorem y_ok_X8_teller : yX8_teller.cls ≠ "java/lang/invoke/MethodHandle" ∧ yX8_teller.cls ≠ "java/lang/invoke/VarHandle" ∧ (parseMethodDescriptor yX8_teller.desc).map (fun d => d.parameters.length) = some 2 := by decide +kernel
theorem m_ok_X8_teller : p_gm p_ms k_X8_teller = (yX8_teller, cX8_teller, (some .int)) := rfl
theorem n_ok_X8_teller : p_g p_nls k_X8_teller = 3 := rfl
theorem cV_X8_teller {b : Bool} {w : pW} {p : Program} {l : Launch} {e : Env} {R : Room} {s : State} {m : MethodId} {args : Array Value} {below : List Frame} {meth : Method} {c : Code} {own : String} {cc : ByteArray} {nL cells slots pc : Nat} {Qw : State → Prop} {d : Nat} {Q : pQ} (K : q_X b w p s m args c own cc nL R d cells slots) {idx : Nat} (hd : decode cc pc = .ok (.invokevirtual idx, 3)) (w2 : Cond.methodLink own idx yX8_teller ∈ p_T) : p_sd b (q_C l b w) d Q (q_Z b w p l e R s m args below meth c nL cells slots Qw) (o_call 8 k_X8_teller 3) pc := s_cV K hd m_ok_X8_teller n_ok_X8_teller w_c_X8_teller w2 w_i_X8_teller w_e_X8_teller w_I_RX8 y_ok_X8_teller (by decide) (hcl := rfl) (by decide)
theorem y_ok_X7_fact : yX7_fact.cls ≠ "java/lang/invoke/MethodHandle" ∧ yX7_fact.cls ≠ "java/lang/invoke/VarHandle" ∧ (parseMethodDescriptor yX7_fact.desc).map (fun d => d.parameters.length) = some 1 := by decide +kernel
theorem m_ok_X7_fact : p_gm p_ms k_X7_fact = (yX7_fact, cX7_fact, (some .int)) := rfl
theorem n_ok_X7_fact : p_g p_nls k_X7_fact = 2 := rfl
theorem cV_X7_fact {b : Bool} {w : pW} {p : Program} {l : Launch} {e : Env} {R : Room} {s : State} {m : MethodId} {args : Array Value} {below : List Frame} {meth : Method} {c : Code} {own : String} {cc : ByteArray} {nL cells slots pc : Nat} {Qw : State → Prop} {d : Nat} {Q : pQ} (K : q_X b w p s m args c own cc nL R d cells slots) {idx : Nat} (hd : decode cc pc = .ok (.invokevirtual idx, 3)) (w2 : Cond.methodLink own idx yX7_fact ∈ p_T) : p_sd b (q_C l b w) d Q (q_Z b w p l e R s m args below meth c nL cells slots Qw) (o_call 7 k_X7_fact 2) pc := s_cV K hd m_ok_X7_fact n_ok_X7_fact w_c_X7_fact w2 w_i_X7_fact w_e_X7_fact w_I_RX7 y_ok_X7_fact (by decide) (hcl := rfl) (by decide)
theorem y_ok_X8_fact : yX8_fact.cls ≠ "java/lang/invoke/MethodHandle" ∧ yX8_fact.cls ≠ "java/lang/invoke/VarHandle" ∧ (parseMethodDescriptor yX8_fact.desc).map (fun d => d.parameters.length) = some 1 := by decide +kernel
theorem m_ok_X8_fact : p_gm p_ms k_X8_fact = (yX8_fact, cX8_fact, (some .int)) := rfl
theorem n_ok_X8_fact : p_g p_nls k_X8_fact = 2 := rfl
theorem cV_X8_fact {b : Bool} {w : pW} {p : Program} {l : Launch} {e : Env} {R : Room} {s : State} {m : MethodId} {args : Array Value} {below : List Frame} {meth : Method} {c : Code} {own : String} {cc : ByteArray} {nL cells slots pc : Nat} {Qw : State → Prop} {d : Nat} {Q : pQ} (K : q_X b w p s m args c own cc nL R d cells slots) {idx : Nat} (hd : decode cc pc = .ok (.invokevirtual idx, 3)) (w2 : Cond.methodLink own idx yX8_fact ∈ p_T) : p_sd b (q_C l b w) d Q (q_Z b w p l e R s m args below meth c nL cells slots Qw) (o_call 8 k_X8_fact 2) pc := s_cV K hd m_ok_X8_fact n_ok_X8_fact w_c_X8_fact w2 w_i_X8_fact w_e_X8_fact w_I_RX8 y_ok_X8_fact (by decide) (hcl := rfl) (by decide)
theorem y_ok_X7_claim : yX7_claim.cls ≠ "java/lang/invoke/MethodHandle" ∧ yX7_claim.cls ≠ "java/lang/invoke/VarHandle" ∧ (parseMethodDescriptor yX7_claim.desc).map (fun d => d.parameters.length) = some 2 := by decide +kernel
theorem m_ok_X7_claim : p_gm p_ms k_X7_claim = (yX7_claim, cX7_claim, (some .int)) := rfl
theorem n_ok_X7_claim : p_g p_nls k_X7_claim = 3 := rfl
theorem cV_X7_claim {b : Bool} {w : pW} {p : Program} {l : Launch} {e : Env} {R : Room} {s : State} {m : MethodId} {args : Array Value} {below : List Frame} {meth : Method} {c : Code} {own : String} {cc : ByteArray} {nL cells slots pc : Nat} {Qw : State → Prop} {d : Nat} {Q : pQ} (K : q_X b w p s m args c own cc nL R d cells slots) {idx : Nat} (hd : decode cc pc = .ok (.invokevirtual idx, 3)) (w2 : Cond.methodLink own idx yX7_claim ∈ p_T) : p_sd b (q_C l b w) d Q (q_Z b w p l e R s m args below meth c nL cells slots Qw) (o_call 7 k_X7_claim 3) pc := s_cV K hd m_ok_X7_claim n_ok_X7_claim w_c_X7_claim w2 w_i_X7_claim w_e_X7_claim w_I_RX7 y_ok_X7_claim (by decide) (hcl := rfl) (by decide)
theorem y_ok_X8_claim : yX8_claim.cls ≠ "java/lang/invoke/MethodHandle" ∧ yX8_claim.cls ≠ "java/lang/invoke/VarHandle" ∧ (parseMethodDescriptor yX8_claim.desc).map (fun d => d.parameters.length) = some 2 := by decide +kernel
theorem m_ok_X8_claim : p_gm p_ms k_X8_claim = (yX8_claim, cX8_claim, (some .int)) := rfl
theorem n_ok_X8_claim : p_g p_nls k_X8_claim = 3 := rfl
theorem cV_X8_claim {b : Bool} {w : pW} {p : Program} {l : Launch} {e : Env} {R : Room} {s : State} {m : MethodId} {args : Array Value} {below : List Frame} {meth : Method} {c : Code} {own : String} {cc : ByteArray} {nL cells slots pc : Nat} {Qw : State → Prop} {d : Nat} {Q : pQ} (K : q_X b w p s m args c own cc nL R d cells slots) {idx : Nat} (hd : decode cc pc = .ok (.invokevirtual idx, 3)) (w2 : Cond.methodLink own idx yX8_claim ∈ p_T) : p_sd b (q_C l b w) d Q (q_Z b w p l e R s m args below meth c nL cells slots Qw) (o_call 8 k_X8_claim 3) pc := s_cV K hd m_ok_X8_claim n_ok_X8_claim w_c_X8_claim w2 w_i_X8_claim w_e_X8_claim w_I_RX8 y_ok_X8_claim (by decide) (hcl := rfl) (by decide)
theorem y_ok_X7_turn : yX7_turn.cls ≠ "java/lang/invoke/MethodHandle" ∧ yX7_turn.cls ≠ "java/lang/invoke/VarHandle" ∧ (parseMethodDescriptor yX7_turn.desc).map (fun d => d.parameters.length) = some 1 := by decide +kernel
theorem m_ok_X7_turn : p_gm p_ms k_X7_turn = (yX7_turn, cX7_turn, (some .int)) := rfl
theorem n_ok_X7_turn : p_g p_nls k_X7_turn = 2 := rfl
theorem cV_X7_turn {b : Bool} {w : pW} {p : Program} {l : Launch} {e : Env} {R : Room} {s : State} {m : MethodId} {args : Array Value} {below : List Frame} {meth : Method} {c : Code} {own : String} {cc : ByteArray} {nL cells slots pc : Nat} {Qw : State → Prop} {d : Nat} {Q : pQ} (K : q_X b w p s m args c own cc nL R d cells slots) {idx : Nat} (hd : decode cc pc = .ok (.invokevirtual idx, 3)) (w2 : Cond.methodLink own idx yX7_turn ∈ p_T) : p_sd b (q_C l b w) d Q (q_Z b w p l e R s m args below meth c nL cells slots Qw) (o_call 7 k_X7_turn 2) pc := s_cV K hd m_ok_X7_turn n_ok_X7_turn w_c_X7_turn w2 w_i_X7_turn w_e_X7_turn w_I_RX7 y_ok_X7_turn (by decide) (hcl := rfl) (by decide)
theorem y_ok_X8_turn : yX8_turn.cls ≠ "java/lang/invoke/MethodHandle" ∧ yX8_turn.cls ≠ "java/lang/invoke/VarHandle" ∧ (parseMethodDescriptor yX8_turn.desc).map (fun d => d.parameters.length) = some 1 := by decide +kernel
theorem m_ok_X8_turn : p_gm p_ms k_X8_turn = (yX8_turn, cX8_turn, (some .int)) := rfl
theorem n_ok_X8_turn : p_g p_nls k_X8_turn = 2 := rfl
theorem cV_X8_turn {b : Bool} {w : pW} {p : Program} {l : Launch} {e : Env} {R : Room} {s : State} {m : MethodId} {args : Array Value} {below : List Frame} {meth : Method} {c : Code} {own : String} {cc : ByteArray} {nL cells slots pc : Nat} {Qw : State → Prop} {d : Nat} {Q : pQ} (K : q_X b w p s m args c own cc nL R d cells slots) {idx : Nat} (hd : decode cc pc = .ok (.invokevirtual idx, 3)) (w2 : Cond.methodLink own idx yX8_turn ∈ p_T) : p_sd b (q_C l b w) d Q (q_Z b w p l e R s m args below meth c nL cells slots Qw) (o_call 8 k_X8_turn 2) pc := s_cV K hd m_ok_X8_turn n_ok_X8_turn w_c_X8_turn w2 w_i_X8_turn w_e_X8_turn w_I_RX8 y_ok_X8_turn (by decide) (hcl := rfl) (by decide)
theorem y_ok_X7_add : yX7_add.cls ≠ "java/lang/invoke/MethodHandle" ∧ yX7_add.cls ≠ "java/lang/invoke/VarHandle" ∧ (parseMethodDescriptor yX7_add.desc).map (fun d => d.parameters.length) = some 4 := by decide +kernel
theorem m_ok_X7_add : p_gm p_ms k_X7_add = (yX7_add, cX7_add, (some .int)) := rfl
theorem n_ok_X7_add : p_g p_nls k_X7_add = 5 := rfl
theorem cV_X7_add {b : Bool} {w : pW} {p : Program} {l : Launch} {e : Env} {R : Room} {s : State} {m : MethodId} {args : Array Value} {below : List Frame} {meth : Method} {c : Code} {own : String} {cc : ByteArray} {nL cells slots pc : Nat} {Qw : State → Prop} {d : Nat} {Q : pQ} (K : q_X b w p s m args c own cc nL R d cells slots) {idx : Nat} (hd : decode cc pc = .ok (.invokevirtual idx, 3)) (w2 : Cond.methodLink own idx yX7_add ∈ p_T) : p_sd b (q_C l b w) d Q (q_Z b w p l e R s m args below meth c nL cells slots Qw) (o_call 7 k_X7_add 5) pc := s_cV K hd m_ok_X7_add n_ok_X7_add w_c_X7_add w2 w_i_X7_add w_e_X7_add w_I_RX7 y_ok_X7_add (by decide) (hcl := rfl) (by decide)
theorem y_ok_X8_add : yX8_add.cls ≠ "java/lang/invoke/MethodHandle" ∧ yX8_add.cls ≠ "java/lang/invoke/VarHandle" ∧ (parseMethodDescriptor yX8_add.desc).map (fun d => d.parameters.length) = some 4 := by decide +kernel
theorem m_ok_X8_add : p_gm p_ms k_X8_add = (yX8_add, cX8_add, (some .int)) := rfl
theorem n_ok_X8_add : p_g p_nls k_X8_add = 5 := rfl
theorem cV_X8_add {b : Bool} {w : pW} {p : Program} {l : Launch} {e : Env} {R : Room} {s : State} {m : MethodId} {args : Array Value} {below : List Frame} {meth : Method} {c : Code} {own : String} {cc : ByteArray} {nL cells slots pc : Nat} {Qw : State → Prop} {d : Nat} {Q : pQ} (K : q_X b w p s m args c own cc nL R d cells slots) {idx : Nat} (hd : decode cc pc = .ok (.invokevirtual idx, 3)) (w2 : Cond.methodLink own idx yX8_add ∈ p_T) : p_sd b (q_C l b w) d Q (q_Z b w p l e R s m args below meth c nL cells slots Qw) (o_call 8 k_X8_add 5) pc := s_cV K hd m_ok_X8_add n_ok_X8_add w_c_X8_add w2 w_i_X8_add w_e_X8_add w_I_RX8 y_ok_X8_add (by decide) (hcl := rfl) (by decide)
theorem y_ok_X7_strike : yX7_strike.cls ≠ "java/lang/invoke/MethodHandle" ∧ yX7_strike.cls ≠ "java/lang/invoke/VarHandle" ∧ (parseMethodDescriptor yX7_strike.desc).map (fun d => d.parameters.length) = some 1 := by decide +kernel
theorem m_ok_X7_strike : p_gm p_ms k_X7_strike = (yX7_strike, cX7_strike, (some .int)) := rfl
theorem n_ok_X7_strike : p_g p_nls k_X7_strike = 2 := rfl
theorem cV_X7_strike {b : Bool} {w : pW} {p : Program} {l : Launch} {e : Env} {R : Room} {s : State} {m : MethodId} {args : Array Value} {below : List Frame} {meth : Method} {c : Code} {own : String} {cc : ByteArray} {nL cells slots pc : Nat} {Qw : State → Prop} {d : Nat} {Q : pQ} (K : q_X b w p s m args c own cc nL R d cells slots) {idx : Nat} (hd : decode cc pc = .ok (.invokevirtual idx, 3)) (w2 : Cond.methodLink own idx yX7_strike ∈ p_T) : p_sd b (q_C l b w) d Q (q_Z b w p l e R s m args below meth c nL cells slots Qw) (o_call 7 k_X7_strike 2) pc := s_cV K hd m_ok_X7_strike n_ok_X7_strike w_c_X7_strike w2 w_i_X7_strike w_e_X7_strike w_I_RX7 y_ok_X7_strike (by decide) (hcl := rfl) (by decide)
theorem y_ok_X8_strike : yX8_strike.cls ≠ "java/lang/invoke/MethodHandle" ∧ yX8_strike.cls ≠ "java/lang/invoke/VarHandle" ∧ (parseMethodDescriptor yX8_strike.desc).map (fun d => d.parameters.length) = some 1 := by decide +kernel
theorem m_ok_X8_strike : p_gm p_ms k_X8_strike = (yX8_strike, cX8_strike, (some .int)) := rfl
theorem n_ok_X8_strike : p_g p_nls k_X8_strike = 3 := rfl
theorem cV_X8_strike {b : Bool} {w : pW} {p : Program} {l : Launch} {e : Env} {R : Room} {s : State} {m : MethodId} {args : Array Value} {below : List Frame} {meth : Method} {c : Code} {own : String} {cc : ByteArray} {nL cells slots pc : Nat} {Qw : State → Prop} {d : Nat} {Q : pQ} (K : q_X b w p s m args c own cc nL R d cells slots) {idx : Nat} (hd : decode cc pc = .ok (.invokevirtual idx, 3)) (w2 : Cond.methodLink own idx yX8_strike ∈ p_T) : p_sd b (q_C l b w) d Q (q_Z b w p l e R s m args below meth c nL cells slots Qw) (o_call 8 k_X8_strike 2) pc := s_cV K hd m_ok_X8_strike n_ok_X8_strike w_c_X8_strike w2 w_i_X8_strike w_e_X8_strike w_I_RX8 y_ok_X8_strike (by decide) (hcl := rfl) (by decide)
theorem y_ok_X7_shift : yX7_shift.cls ≠ "java/lang/invoke/MethodHandle" ∧ yX7_shift.cls ≠ "java/lang/invoke/VarHandle" ∧ (parseMethodDescriptor yX7_shift.desc).map (fun d => d.parameters.length) = some 2 := by decide +kernel
theorem m_ok_X7_shift : p_gm p_ms k_X7_shift = (yX7_shift, cX7_shift, (some .int)) := rfl
theorem n_ok_X7_shift : p_g p_nls k_X7_shift = 3 := rfl
theorem cV_X7_shift {b : Bool} {w : pW} {p : Program} {l : Launch} {e : Env} {R : Room} {s : State} {m : MethodId} {args : Array Value} {below : List Frame} {meth : Method} {c : Code} {own : String} {cc : ByteArray} {nL cells slots pc : Nat} {Qw : State → Prop} {d : Nat} {Q : pQ} (K : q_X b w p s m args c own cc nL R d cells slots) {idx : Nat} (hd : decode cc pc = .ok (.invokevirtual idx, 3)) (w2 : Cond.methodLink own idx yX7_shift ∈ p_T) : p_sd b (q_C l b w) d Q (q_Z b w p l e R s m args below meth c nL cells slots Qw) (o_call 7 k_X7_shift 3) pc := s_cV K hd m_ok_X7_shift n_ok_X7_shift w_c_X7_shift w2 w_i_X7_shift w_e_X7_shift w_I_RX7 y_ok_X7_shift (by decide) (hcl := rfl) (by decide)
theorem y_ok_X8_shift : yX8_shift.cls ≠ "java/lang/invoke/MethodHandle" ∧ yX8_shift.cls ≠ "java/lang/invoke/VarHandle" ∧ (parseMethodDescriptor yX8_shift.desc).map (fun d => d.parameters.length) = some 2 := by decide +kernel
theorem m_ok_X8_shift : p_gm p_ms k_X8_shift = (yX8_shift, cX8_shift, (some .int)) := rfl
theorem n_ok_X8_shift : p_g p_nls k_X8_shift = 3 := rfl
theorem cV_X8_shift {b : Bool} {w : pW} {p : Program} {l : Launch} {e : Env} {R : Room} {s : State} {m : MethodId} {args : Array Value} {below : List Frame} {meth : Method} {c : Code} {own : String} {cc : ByteArray} {nL cells slots pc : Nat} {Qw : State → Prop} {d : Nat} {Q : pQ} (K : q_X b w p s m args c own cc nL R d cells slots) {idx : Nat} (hd : decode cc pc = .ok (.invokevirtual idx, 3)) (w2 : Cond.methodLink own idx yX8_shift ∈ p_T) : p_sd b (q_C l b w) d Q (q_Z b w p l e R s m args below meth c nL cells slots Qw) (o_call 8 k_X8_shift 3) pc := s_cV K hd m_ok_X8_shift n_ok_X8_shift w_c_X8_shift w2 w_i_X8_shift w_e_X8_shift w_I_RX8 y_ok_X8_shift (by decide) (hcl := rfl) (by decide)
theorem y_ok_X7_grip : yX7_grip.cls ≠ "java/lang/invoke/MethodHandle" ∧ yX7_grip.cls ≠ "java/lang/invoke/VarHandle" ∧ (parseMethodDescriptor yX7_grip.desc).map (fun d => d.parameters.length) = some 2 := by decide +kernel
theorem m_ok_X7_grip : p_gm p_ms k_X7_grip = (yX7_grip, cX7_grip, (some .int)) := rfl
theorem n_ok_X7_grip : p_g p_nls k_X7_grip = 4 := rfl
theorem cV_X7_grip {b : Bool} {w : pW} {p : Program} {l : Launch} {e : Env} {R : Room} {s : State} {m : MethodId} {args : Array Value} {below : List Frame} {meth : Method} {c : Code} {own : String} {cc : ByteArray} {nL cells slots pc : Nat} {Qw : State → Prop} {d : Nat} {Q : pQ} (K : q_X b w p s m args c own cc nL R d cells slots) {idx : Nat} (hd : decode cc pc = .ok (.invokevirtual idx, 3)) (w2 : Cond.methodLink own idx yX7_grip ∈ p_T) : p_sd b (q_C l b w) d Q (q_Z b w p l e R s m args below meth c nL cells slots Qw) (o_call 7 k_X7_grip 3) pc := s_cV K hd m_ok_X7_grip n_ok_X7_grip w_c_X7_grip w2 w_i_X7_grip w_e_X7_grip w_I_RX7 y_ok_X7_grip (by decide) (hcl := rfl) (by decide)
theorem y_ok_X8_grip : yX8_grip.cls ≠ "java/lang/invoke/MethodHandle" ∧ yX8_grip.cls ≠ "java/lang/invoke/VarHandle" ∧ (parseMethodDescriptor yX8_grip.desc).map (fun d => d.parameters.length) = some 2 := by decide +kernel
theorem m_ok_X8_grip : p_gm p_ms k_X8_grip = (yX8_grip, cX8_grip, (some .int)) := rfl
theorem n_ok_X8_grip : p_g p_nls k_X8_grip = 4 := rfl
theorem cV_X8_grip {b : Bool} {w : pW} {p : Program} {l : Launch} {e : Env} {R : Room} {s : State} {m : MethodId} {args : Array Value} {below : List Frame} {meth : Method} {c : Code} {own : String} {cc : ByteArray} {nL cells slots pc : Nat} {Qw : State → Prop} {d : Nat} {Q : pQ} (K : q_X b w p s m args c own cc nL R d cells slots) {idx : Nat} (hd : decode cc pc = .ok (.invokevirtual idx, 3)) (w2 : Cond.methodLink own idx yX8_grip ∈ p_T) : p_sd b (q_C l b w) d Q (q_Z b w p l e R s m args below meth c nL cells slots Qw) (o_call 8 k_X8_grip 3) pc := s_cV K hd m_ok_X8_grip n_ok_X8_grip w_c_X8_grip w2 w_i_X8_grip w_e_X8_grip w_I_RX8 y_ok_X8_grip (by decide) (hcl := rfl) (by decide)
theorem y_ok_X7_undo : yX7_undo.cls ≠ "java/lang/invoke/MethodHandle" ∧ yX7_undo.cls ≠ "java/lang/invoke/VarHandle" ∧ (parseMethodDescriptor yX7_undo.desc).map (fun d => d.parameters.length) = some 0 := by decide +kernel
theorem m_ok_X7_undo : p_gm p_ms k_X7_undo = (yX7_undo, cX7_undo, (some .int)) := rfl
theorem n_ok_X7_undo : p_g p_nls k_X7_undo = 1 := rfl
theorem cV_X7_undo {b : Bool} {w : pW} {p : Program} {l : Launch} {e : Env} {R : Room} {s : State} {m : MethodId} {args : Array Value} {below : List Frame} {meth : Method} {c : Code} {own : String} {cc : ByteArray} {nL cells slots pc : Nat} {Qw : State → Prop} {d : Nat} {Q : pQ} (K : q_X b w p s m args c own cc nL R d cells slots) {idx : Nat} (hd : decode cc pc = .ok (.invokevirtual idx, 3)) (w2 : Cond.methodLink own idx yX7_undo ∈ p_T) : p_sd b (q_C l b w) d Q (q_Z b w p l e R s m args below meth c nL cells slots Qw) (o_call 7 k_X7_undo 1) pc := s_cV K hd m_ok_X7_undo n_ok_X7_undo w_c_X7_undo w2 w_i_X7_undo w_e_X7_undo w_I_RX7 y_ok_X7_undo (by decide) (hcl := rfl) (by decide)
theorem y_ok_X8_undo : yX8_undo.cls ≠ "java/lang/invoke/MethodHandle" ∧ yX8_undo.cls ≠ "java/lang/invoke/VarHandle" ∧ (parseMethodDescriptor yX8_undo.desc).map (fun d => d.parameters.length) = some 0 := by decide +kernel
theorem m_ok_X8_undo : p_gm p_ms k_X8_undo = (yX8_undo, cX8_undo, (some .int)) := rfl
theorem n_ok_X8_undo : p_g p_nls k_X8_undo = 1 := rfl
theorem cV_X8_undo {b : Bool} {w : pW} {p : Program} {l : Launch} {e : Env} {R : Room} {s : State} {m : MethodId} {args : Array Value} {below : List Frame} {meth : Method} {c : Code} {own : String} {cc : ByteArray} {nL cells slots pc : Nat} {Qw : State → Prop} {d : Nat} {Q : pQ} (K : q_X b w p s m args c own cc nL R d cells slots) {idx : Nat} (hd : decode cc pc = .ok (.invokevirtual idx, 3)) (w2 : Cond.methodLink own idx yX8_undo ∈ p_T) : p_sd b (q_C l b w) d Q (q_Z b w p l e R s m args below meth c nL cells slots Qw) (o_call 8 k_X8_undo 1) pc := s_cV K hd m_ok_X8_undo n_ok_X8_undo w_c_X8_undo w2 w_i_X8_undo w_e_X8_undo w_I_RX8 y_ok_X8_undo (by decide) (hcl := rfl) (by decide)
theorem y_ok_X7_drops : yX7_drops.cls ≠ "java/lang/invoke/MethodHandle" ∧ yX7_drops.cls ≠ "java/lang/invoke/VarHandle" ∧ (parseMethodDescriptor yX7_drops.desc).map (fun d => d.parameters.length) = some 1 := by decide +kernel
theorem m_ok_X7_drops : p_gm p_ms k_X7_drops = (yX7_drops, cX7_drops, (some .int)) := rfl
theorem n_ok_X7_drops : p_g p_nls k_X7_drops = 3 := rfl
theorem cV_X7_drops {b : Bool} {w : pW} {p : Program} {l : Launch} {e : Env} {R : Room} {s : State} {m : MethodId} {args : Array Value} {below : List Frame} {meth : Method} {c : Code} {own : String} {cc : ByteArray} {nL cells slots pc : Nat} {Qw : State → Prop} {d : Nat} {Q : pQ} (K : q_X b w p s m args c own cc nL R d cells slots) {idx : Nat} (hd : decode cc pc = .ok (.invokevirtual idx, 3)) (w2 : Cond.methodLink own idx yX7_drops ∈ p_T) : p_sd b (q_C l b w) d Q (q_Z b w p l e R s m args below meth c nL cells slots Qw) (o_call 7 k_X7_drops 2) pc := s_cV K hd m_ok_X7_drops n_ok_X7_drops w_c_X7_drops w2 w_i_X7_drops w_e_X7_drops w_I_RX7 y_ok_X7_drops (by decide) (hcl := rfl) (by decide)
theorem y_ok_X8_drops : yX8_drops.cls ≠ "java/lang/invoke/MethodHandle" ∧ yX8_drops.cls ≠ "java/lang/invoke/VarHandle" ∧ (parseMethodDescriptor yX8_drops.desc).map (fun d => d.parameters.length) = some 1 := by decide +kernel
theorem m_ok_X8_drops : p_gm p_ms k_X8_drops = (yX8_drops, cX8_drops, (some .int)) := rfl
theorem n_ok_X8_drops : p_g p_nls k_X8_drops = 2 := rfl
theorem cV_X8_drops {b : Bool} {w : pW} {p : Program} {l : Launch} {e : Env} {R : Room} {s : State} {m : MethodId} {args : Array Value} {below : List Frame} {meth : Method} {c : Code} {own : String} {cc : ByteArray} {nL cells slots pc : Nat} {Qw : State → Prop} {d : Nat} {Q : pQ} (K : q_X b w p s m args c own cc nL R d cells slots) {idx : Nat} (hd : decode cc pc = .ok (.invokevirtual idx, 3)) (w2 : Cond.methodLink own idx yX8_drops ∈ p_T) : p_sd b (q_C l b w) d Q (q_Z b w p l e R s m args below meth c nL cells slots Qw) (o_call 8 k_X8_drops 2) pc := s_cV K hd m_ok_X8_drops n_ok_X8_drops w_c_X8_drops w2 w_i_X8_drops w_e_X8_drops w_I_RX8 y_ok_X8_drops (by decide) (hcl := rfl) (by decide)
theorem y_ok_X8_told : yX8_told.cls ≠ "java/lang/invoke/MethodHandle" ∧ yX8_told.cls ≠ "java/lang/invoke/VarHandle" ∧ (parseMethodDescriptor yX8_told.desc).map (fun d => d.parameters.length) = some 0 := by decide +kernel
theorem m_ok_X8_told : p_gm p_ms k_X8_told = (yX8_told, cX8_told, (some .int)) := rfl
theorem n_ok_X8_told : p_g p_nls k_X8_told = 1 := rfl
theorem cV_X8_told {b : Bool} {w : pW} {p : Program} {l : Launch} {e : Env} {R : Room} {s : State} {m : MethodId} {args : Array Value} {below : List Frame} {meth : Method} {c : Code} {own : String} {cc : ByteArray} {nL cells slots pc : Nat} {Qw : State → Prop} {d : Nat} {Q : pQ} (K : q_X b w p s m args c own cc nL R d cells slots) {idx : Nat} (hd : decode cc pc = .ok (.invokevirtual idx, 3)) (w2 : Cond.methodLink own idx yX8_told ∈ p_T) : p_sd b (q_C l b w) d Q (q_Z b w p l e R s m args below meth c nL cells slots Qw) (o_call 8 k_X8_told 1) pc := s_cV K hd m_ok_X8_told n_ok_X8_told w_c_X8_told w2 w_i_X8_told w_e_X8_told w_I_RX8 y_ok_X8_told (by decide) (hcl := rfl) (by decide)
theorem y_ok_X7_hot : yX7_hot.cls ≠ "java/lang/invoke/MethodHandle" ∧ yX7_hot.cls ≠ "java/lang/invoke/VarHandle" ∧ (parseMethodDescriptor yX7_hot.desc).map (fun d => d.parameters.length) = some 1 := by decide +kernel
theorem m_ok_X7_hot : p_gm p_ms k_X7_hot = (yX7_hot, cX7_hot, (some .int)) := rfl
theorem n_ok_X7_hot : p_g p_nls k_X7_hot = 2 := rfl
theorem cV_X7_hot {b : Bool} {w : pW} {p : Program} {l : Launch} {e : Env} {R : Room} {s : State} {m : MethodId} {args : Array Value} {below : List Frame} {meth : Method} {c : Code} {own : String} {cc : ByteArray} {nL cells slots pc : Nat} {Qw : State → Prop} {d : Nat} {Q : pQ} (K : q_X b w p s m args c own cc nL R d cells slots) {idx : Nat} (hd : decode cc pc = .ok (.invokevirtual idx, 3)) (w2 : Cond.methodLink own idx yX7_hot ∈ p_T) : p_sd b (q_C l b w) d Q (q_Z b w p l e R s m args below meth c nL cells slots Qw) (o_call 7 k_X7_hot 2) pc := s_cV K hd m_ok_X7_hot n_ok_X7_hot w_c_X7_hot w2 w_i_X7_hot w_e_X7_hot w_I_RX7 y_ok_X7_hot (by decide) (hcl := rfl) (by decide)
theorem y_ok_X8_hot : yX8_hot.cls ≠ "java/lang/invoke/MethodHandle" ∧ yX8_hot.cls ≠ "java/lang/invoke/VarHandle" ∧ (parseMethodDescriptor yX8_hot.desc).map (fun d => d.parameters.length) = some 1 := by decide +kernel
theorem m_ok_X8_hot : p_gm p_ms k_X8_hot = (yX8_hot, cX8_hot, (some .int)) := rfl
theorem n_ok_X8_hot : p_g p_nls k_X8_hot = 2 := rfl
theorem cV_X8_hot {b : Bool} {w : pW} {p : Program} {l : Launch} {e : Env} {R : Room} {s : State} {m : MethodId} {args : Array Value} {below : List Frame} {meth : Method} {c : Code} {own : String} {cc : ByteArray} {nL cells slots pc : Nat} {Qw : State → Prop} {d : Nat} {Q : pQ} (K : q_X b w p s m args c own cc nL R d cells slots) {idx : Nat} (hd : decode cc pc = .ok (.invokevirtual idx, 3)) (w2 : Cond.methodLink own idx yX8_hot ∈ p_T) : p_sd b (q_C l b w) d Q (q_Z b w p l e R s m args below meth c nL cells slots Qw) (o_call 8 k_X8_hot 2) pc := s_cV K hd m_ok_X8_hot n_ok_X8_hot w_c_X8_hot w2 w_i_X8_hot w_e_X8_hot w_I_RX8 y_ok_X8_hot (by decide) (hcl := rfl) (by decide)
theorem y_ok_X7_hottest : yX7_hottest.cls ≠ "java/lang/invoke/MethodHandle" ∧ yX7_hottest.cls ≠ "java/lang/invoke/VarHandle" ∧ (parseMethodDescriptor yX7_hottest.desc).map (fun d => d.parameters.length) = some 0 := by decide +kernel
theorem m_ok_X7_hottest : p_gm p_ms k_X7_hottest = (yX7_hottest, cX7_hottest, (some .int)) := rfl
theorem n_ok_X7_hottest : p_g p_nls k_X7_hottest = 1 := rfl
theorem cV_X7_hottest {b : Bool} {w : pW} {p : Program} {l : Launch} {e : Env} {R : Room} {s : State} {m : MethodId} {args : Array Value} {below : List Frame} {meth : Method} {c : Code} {own : String} {cc : ByteArray} {nL cells slots pc : Nat} {Qw : State → Prop} {d : Nat} {Q : pQ} (K : q_X b w p s m args c own cc nL R d cells slots) {idx : Nat} (hd : decode cc pc = .ok (.invokevirtual idx, 3)) (w2 : Cond.methodLink own idx yX7_hottest ∈ p_T) : p_sd b (q_C l b w) d Q (q_Z b w p l e R s m args below meth c nL cells slots Qw) (o_call 7 k_X7_hottest 1) pc := s_cV K hd m_ok_X7_hottest n_ok_X7_hottest w_c_X7_hottest w2 w_i_X7_hottest w_e_X7_hottest w_I_RX7 y_ok_X7_hottest (by decide) (hcl := rfl) (by decide)
theorem y_ok_X8_hottest : yX8_hottest.cls ≠ "java/lang/invoke/MethodHandle" ∧ yX8_hottest.cls ≠ "java/lang/invoke/VarHandle" ∧ (parseMethodDescriptor yX8_hottest.desc).map (fun d => d.parameters.length) = some 0 := by decide +kernel
theorem m_ok_X8_hottest : p_gm p_ms k_X8_hottest = (yX8_hottest, cX8_hottest, (some .int)) := rfl
theorem n_ok_X8_hottest : p_g p_nls k_X8_hottest = 1 := rfl
theorem cV_X8_hottest {b : Bool} {w : pW} {p : Program} {l : Launch} {e : Env} {R : Room} {s : State} {m : MethodId} {args : Array Value} {below : List Frame} {meth : Method} {c : Code} {own : String} {cc : ByteArray} {nL cells slots pc : Nat} {Qw : State → Prop} {d : Nat} {Q : pQ} (K : q_X b w p s m args c own cc nL R d cells slots) {idx : Nat} (hd : decode cc pc = .ok (.invokevirtual idx, 3)) (w2 : Cond.methodLink own idx yX8_hottest ∈ p_T) : p_sd b (q_C l b w) d Q (q_Z b w p l e R s m args below meth c nL cells slots Qw) (o_call 8 k_X8_hottest 1) pc := s_cV K hd m_ok_X8_hottest n_ok_X8_hottest w_c_X8_hottest w2 w_i_X8_hottest w_e_X8_hottest w_I_RX8 y_ok_X8_hottest (by decide) (hcl := rfl) (by decide)
theorem y_ok_X7_order : yX7_order.cls ≠ "java/lang/invoke/MethodHandle" ∧ yX7_order.cls ≠ "java/lang/invoke/VarHandle" ∧ (parseMethodDescriptor yX7_order.desc).map (fun d => d.parameters.length) = some 1 := by decide +kernel
theorem m_ok_X7_order : p_gm p_ms k_X7_order = (yX7_order, cX7_order, (some .int)) := rfl
theorem n_ok_X7_order : p_g p_nls k_X7_order = 2 := rfl
theorem cV_X7_order {b : Bool} {w : pW} {p : Program} {l : Launch} {e : Env} {R : Room} {s : State} {m : MethodId} {args : Array Value} {below : List Frame} {meth : Method} {c : Code} {own : String} {cc : ByteArray} {nL cells slots pc : Nat} {Qw : State → Prop} {d : Nat} {Q : pQ} (K : q_X b w p s m args c own cc nL R d cells slots) {idx : Nat} (hd : decode cc pc = .ok (.invokevirtual idx, 3)) (w2 : Cond.methodLink own idx yX7_order ∈ p_T) : p_sd b (q_C l b w) d Q (q_Z b w p l e R s m args below meth c nL cells slots Qw) (o_call 7 k_X7_order 2) pc := s_cV K hd m_ok_X7_order n_ok_X7_order w_c_X7_order w2 w_i_X7_order w_e_X7_order w_I_RX7 y_ok_X7_order (by decide) (hcl := rfl) (by decide)
theorem y_ok_X8_order : yX8_order.cls ≠ "java/lang/invoke/MethodHandle" ∧ yX8_order.cls ≠ "java/lang/invoke/VarHandle" ∧ (parseMethodDescriptor yX8_order.desc).map (fun d => d.parameters.length) = some 1 := by decide +kernel
theorem m_ok_X8_order : p_gm p_ms k_X8_order = (yX8_order, cX8_order, (some .int)) := rfl
theorem n_ok_X8_order : p_g p_nls k_X8_order = 5 := rfl
theorem cV_X8_order {b : Bool} {w : pW} {p : Program} {l : Launch} {e : Env} {R : Room} {s : State} {m : MethodId} {args : Array Value} {below : List Frame} {meth : Method} {c : Code} {own : String} {cc : ByteArray} {nL cells slots pc : Nat} {Qw : State → Prop} {d : Nat} {Q : pQ} (K : q_X b w p s m args c own cc nL R d cells slots) {idx : Nat} (hd : decode cc pc = .ok (.invokevirtual idx, 3)) (w2 : Cond.methodLink own idx yX8_order ∈ p_T) : p_sd b (q_C l b w) d Q (q_Z b w p l e R s m args below meth c nL cells slots Qw) (o_call 8 k_X8_order 2) pc := s_cV K hd m_ok_X8_order n_ok_X8_order w_c_X8_order w2 w_i_X8_order w_e_X8_order w_I_RX8 y_ok_X8_order (by decide) (hcl := rfl) (by decide)
theorem y_ok_X7_leave : yX7_leave.cls ≠ "java/lang/invoke/MethodHandle" ∧ yX7_leave.cls ≠ "java/lang/invoke/VarHandle" ∧ (parseMethodDescriptor yX7_leave.desc).map (fun d => d.parameters.length) = some 2 := by decide +kernel
theorem m_ok_X7_leave : p_gm p_ms k_X7_leave = (yX7_leave, cX7_leave, (some .int)) := rfl
theorem n_ok_X7_leave : p_g p_nls k_X7_leave = 4 := rfl
theorem cV_X7_leave {b : Bool} {w : pW} {p : Program} {l : Launch} {e : Env} {R : Room} {s : State} {m : MethodId} {args : Array Value} {below : List Frame} {meth : Method} {c : Code} {own : String} {cc : ByteArray} {nL cells slots pc : Nat} {Qw : State → Prop} {d : Nat} {Q : pQ} (K : q_X b w p s m args c own cc nL R d cells slots) {idx : Nat} (hd : decode cc pc = .ok (.invokevirtual idx, 3)) (w2 : Cond.methodLink own idx yX7_leave ∈ p_T) : p_sd b (q_C l b w) d Q (q_Z b w p l e R s m args below meth c nL cells slots Qw) (o_call 7 k_X7_leave 3) pc := s_cV K hd m_ok_X7_leave n_ok_X7_leave w_c_X7_leave w2 w_i_X7_leave w_e_X7_leave w_I_RX7 y_ok_X7_leave (by decide) (hcl := rfl) (by decide)
theorem y_ok_X8_leave : yX8_leave.cls ≠ "java/lang/invoke/MethodHandle" ∧ yX8_leave.cls ≠ "java/lang/invoke/VarHandle" ∧ (parseMethodDescriptor yX8_leave.desc).map (fun d => d.parameters.length) = some 2 := by decide +kernel
theorem m_ok_X8_leave : p_gm p_ms k_X8_leave = (yX8_leave, cX8_leave, (some .int)) := rfl
theorem n_ok_X8_leave : p_g p_nls k_X8_leave = 6 := rfl
theorem cV_X8_leave {b : Bool} {w : pW} {p : Program} {l : Launch} {e : Env} {R : Room} {s : State} {m : MethodId} {args : Array Value} {below : List Frame} {meth : Method} {c : Code} {own : String} {cc : ByteArray} {nL cells slots pc : Nat} {Qw : State → Prop} {d : Nat} {Q : pQ} (K : q_X b w p s m args c own cc nL R d cells slots) {idx : Nat} (hd : decode cc pc = .ok (.invokevirtual idx, 3)) (w2 : Cond.methodLink own idx yX8_leave ∈ p_T) : p_sd b (q_C l b w) d Q (q_Z b w p l e R s m args below meth c nL cells slots Qw) (o_call 8 k_X8_leave 3) pc := s_cV K hd m_ok_X8_leave n_ok_X8_leave w_c_X8_leave w2 w_i_X8_leave w_e_X8_leave w_I_RX8 y_ok_X8_leave (by decide) (hcl := rfl) (by decide)
theorem y_ok_X7_holds : yX7_holds.cls ≠ "java/lang/invoke/MethodHandle" ∧ yX7_holds.cls ≠ "java/lang/invoke/VarHandle" ∧ (parseMethodDescriptor yX7_holds.desc).map (fun d => d.parameters.length) = some 2 := by decide +kernel
theorem m_ok_X7_holds : p_gm p_ms k_X7_holds = (yX7_holds, cX7_holds, (some .int)) := rfl
theorem n_ok_X7_holds : p_g p_nls k_X7_holds = 7 := rfl
theorem cV_X7_holds {b : Bool} {w : pW} {p : Program} {l : Launch} {e : Env} {R : Room} {s : State} {m : MethodId} {args : Array Value} {below : List Frame} {meth : Method} {c : Code} {own : String} {cc : ByteArray} {nL cells slots pc : Nat} {Qw : State → Prop} {d : Nat} {Q : pQ} (K : q_X b w p s m args c own cc nL R d cells slots) {idx : Nat} (hd : decode cc pc = .ok (.invokevirtual idx, 3)) (w2 : Cond.methodLink own idx yX7_holds ∈ p_T) : p_sd b (q_C l b w) d Q (q_Z b w p l e R s m args below meth c nL cells slots Qw) (o_call 7 k_X7_holds 3) pc := s_cV K hd m_ok_X7_holds n_ok_X7_holds w_c_X7_holds w2 w_i_X7_holds w_e_X7_holds w_I_RX7 y_ok_X7_holds (by decide) (hcl := rfl) (by decide)
theorem y_ok_X8_holds : yX8_holds.cls ≠ "java/lang/invoke/MethodHandle" ∧ yX8_holds.cls ≠ "java/lang/invoke/VarHandle" ∧ (parseMethodDescriptor yX8_holds.desc).map (fun d => d.parameters.length) = some 2 := by decide +kernel
theorem m_ok_X8_holds : p_gm p_ms k_X8_holds = (yX8_holds, cX8_holds, (some .int)) := rfl
theorem n_ok_X8_holds : p_g p_nls k_X8_holds = 7 := rfl
theorem cV_X8_holds {b : Bool} {w : pW} {p : Program} {l : Launch} {e : Env} {R : Room} {s : State} {m : MethodId} {args : Array Value} {below : List Frame} {meth : Method} {c : Code} {own : String} {cc : ByteArray} {nL cells slots pc : Nat} {Qw : State → Prop} {d : Nat} {Q : pQ} (K : q_X b w p s m args c own cc nL R d cells slots) {idx : Nat} (hd : decode cc pc = .ok (.invokevirtual idx, 3)) (w2 : Cond.methodLink own idx yX8_holds ∈ p_T) : p_sd b (q_C l b w) d Q (q_Z b w p l e R s m args below meth c nL cells slots Qw) (o_call 8 k_X8_holds 3) pc := s_cV K hd m_ok_X8_holds n_ok_X8_holds w_c_X8_holds w2 w_i_X8_holds w_e_X8_holds w_I_RX8 y_ok_X8_holds (by decide) (hcl := rfl) (by decide)
theorem y_ok_X7_seen : yX7_seen.cls ≠ "java/lang/invoke/MethodHandle" ∧ yX7_seen.cls ≠ "java/lang/invoke/VarHandle" ∧ (parseMethodDescriptor yX7_seen.desc).map (fun d => d.parameters.length) = some 2 := by decide +kernel
theorem m_ok_X7_seen : p_gm p_ms k_X7_seen = (yX7_seen, cX7_seen, (some .int)) := rfl
theorem n_ok_X7_seen : p_g p_nls k_X7_seen = 3 := rfl
theorem cV_X7_seen {b : Bool} {w : pW} {p : Program} {l : Launch} {e : Env} {R : Room} {s : State} {m : MethodId} {args : Array Value} {below : List Frame} {meth : Method} {c : Code} {own : String} {cc : ByteArray} {nL cells slots pc : Nat} {Qw : State → Prop} {d : Nat} {Q : pQ} (K : q_X b w p s m args c own cc nL R d cells slots) {idx : Nat} (hd : decode cc pc = .ok (.invokevirtual idx, 3)) (w2 : Cond.methodLink own idx yX7_seen ∈ p_T) : p_sd b (q_C l b w) d Q (q_Z b w p l e R s m args below meth c nL cells slots Qw) (o_call 7 k_X7_seen 3) pc := s_cV K hd m_ok_X7_seen n_ok_X7_seen w_c_X7_seen w2 w_i_X7_seen w_e_X7_seen w_I_RX7 y_ok_X7_seen (by decide) (hcl := rfl) (by decide)
theorem y_ok_X8_seen : yX8_seen.cls ≠ "java/lang/invoke/MethodHandle" ∧ yX8_seen.cls ≠ "java/lang/invoke/VarHandle" ∧ (parseMethodDescriptor yX8_seen.desc).map (fun d => d.parameters.length) = some 2 := by decide +kernel
theorem m_ok_X8_seen : p_gm p_ms k_X8_seen = (yX8_seen, cX8_seen, (some .int)) := rfl
theorem n_ok_X8_seen : p_g p_nls k_X8_seen = 3 := rfl
theorem cV_X8_seen {b : Bool} {w : pW} {p : Program} {l : Launch} {e : Env} {R : Room} {s : State} {m : MethodId} {args : Array Value} {below : List Frame} {meth : Method} {c : Code} {own : String} {cc : ByteArray} {nL cells slots pc : Nat} {Qw : State → Prop} {d : Nat} {Q : pQ} (K : q_X b w p s m args c own cc nL R d cells slots) {idx : Nat} (hd : decode cc pc = .ok (.invokevirtual idx, 3)) (w2 : Cond.methodLink own idx yX8_seen ∈ p_T) : p_sd b (q_C l b w) d Q (q_Z b w p l e R s m args below meth c nL cells slots Qw) (o_call 8 k_X8_seen 3) pc := s_cV K hd m_ok_X8_seen n_ok_X8_seen w_c_X8_seen w2 w_i_X8_seen w_e_X8_seen w_I_RX8 y_ok_X8_seen (by decide) (hcl := rfl) (by decide)
theorem y_ok_X7_forget : yX7_forget.cls ≠ "java/lang/invoke/MethodHandle" ∧ yX7_forget.cls ≠ "java/lang/invoke/VarHandle" ∧ (parseMethodDescriptor yX7_forget.desc).map (fun d => d.parameters.length) = some 0 := by decide +kernel
theorem m_ok_X7_forget : p_gm p_ms k_X7_forget = (yX7_forget, cX7_forget, (some .int)) := rfl
theorem n_ok_X7_forget : p_g p_nls k_X7_forget = 2 := rfl
theorem cV_X7_forget {b : Bool} {w : pW} {p : Program} {l : Launch} {e : Env} {R : Room} {s : State} {m : MethodId} {args : Array Value} {below : List Frame} {meth : Method} {c : Code} {own : String} {cc : ByteArray} {nL cells slots pc : Nat} {Qw : State → Prop} {d : Nat} {Q : pQ} (K : q_X b w p s m args c own cc nL R d cells slots) {idx : Nat} (hd : decode cc pc = .ok (.invokevirtual idx, 3)) (w2 : Cond.methodLink own idx yX7_forget ∈ p_T) : p_sd b (q_C l b w) d Q (q_Z b w p l e R s m args below meth c nL cells slots Qw) (o_call 7 k_X7_forget 1) pc := s_cV K hd m_ok_X7_forget n_ok_X7_forget w_c_X7_forget w2 w_i_X7_forget w_e_X7_forget w_I_RX7 y_ok_X7_forget (by decide) (hcl := rfl) (by decide)
theorem y_ok_X8_forget : yX8_forget.cls ≠ "java/lang/invoke/MethodHandle" ∧ yX8_forget.cls ≠ "java/lang/invoke/VarHandle" ∧ (parseMethodDescriptor yX8_forget.desc).map (fun d => d.parameters.length) = some 0 := by decide +kernel
theorem m_ok_X8_forget : p_gm p_ms k_X8_forget = (yX8_forget, cX8_forget, (some .int)) := rfl
theorem n_ok_X8_forget : p_g p_nls k_X8_forget = 2 := rfl
theorem cV_X8_forget {b : Bool} {w : pW} {p : Program} {l : Launch} {e : Env} {R : Room} {s : State} {m : MethodId} {args : Array Value} {below : List Frame} {meth : Method} {c : Code} {own : String} {cc : ByteArray} {nL cells slots pc : Nat} {Qw : State → Prop} {d : Nat} {Q : pQ} (K : q_X b w p s m args c own cc nL R d cells slots) {idx : Nat} (hd : decode cc pc = .ok (.invokevirtual idx, 3)) (w2 : Cond.methodLink own idx yX8_forget ∈ p_T) : p_sd b (q_C l b w) d Q (q_Z b w p l e R s m args below meth c nL cells slots Qw) (o_call 8 k_X8_forget 1) pc := s_cV K hd m_ok_X8_forget n_ok_X8_forget w_c_X8_forget w2 w_i_X8_forget w_e_X8_forget w_I_RX8 y_ok_X8_forget (by decide) (hcl := rfl) (by decide)
theorem y_ok_X7_worlds : yX7_worlds.cls ≠ "java/lang/invoke/MethodHandle" ∧ yX7_worlds.cls ≠ "java/lang/invoke/VarHandle" ∧ (parseMethodDescriptor yX7_worlds.desc).map (fun d => d.parameters.length) = some 1 := by decide +kernel
theorem m_ok_X7_worlds : p_gm p_ms k_X7_worlds = (yX7_worlds, cX7_worlds, (some .int)) := rfl
theorem n_ok_X7_worlds : p_g p_nls k_X7_worlds = 4 := rfl
theorem cV_X7_worlds {b : Bool} {w : pW} {p : Program} {l : Launch} {e : Env} {R : Room} {s : State} {m : MethodId} {args : Array Value} {below : List Frame} {meth : Method} {c : Code} {own : String} {cc : ByteArray} {nL cells slots pc : Nat} {Qw : State → Prop} {d : Nat} {Q : pQ} (K : q_X b w p s m args c own cc nL R d cells slots) {idx : Nat} (hd : decode cc pc = .ok (.invokevirtual idx, 3)) (w2 : Cond.methodLink own idx yX7_worlds ∈ p_T) : p_sd b (q_C l b w) d Q (q_Z b w p l e R s m args below meth c nL cells slots Qw) (o_call 7 k_X7_worlds 2) pc := s_cV K hd m_ok_X7_worlds n_ok_X7_worlds w_c_X7_worlds w2 w_i_X7_worlds w_e_X7_worlds w_I_RX7 y_ok_X7_worlds (by decide) (hcl := rfl) (by decide)
theorem y_ok_X8_worlds : yX8_worlds.cls ≠ "java/lang/invoke/MethodHandle" ∧ yX8_worlds.cls ≠ "java/lang/invoke/VarHandle" ∧ (parseMethodDescriptor yX8_worlds.desc).map (fun d => d.parameters.length) = some 1 := by decide +kernel
theorem m_ok_X8_worlds : p_gm p_ms k_X8_worlds = (yX8_worlds, cX8_worlds, (some .int)) := rfl
theorem n_ok_X8_worlds : p_g p_nls k_X8_worlds = 9 := rfl
theorem cV_X8_worlds {b : Bool} {w : pW} {p : Program} {l : Launch} {e : Env} {R : Room} {s : State} {m : MethodId} {args : Array Value} {below : List Frame} {meth : Method} {c : Code} {own : String} {cc : ByteArray} {nL cells slots pc : Nat} {Qw : State → Prop} {d : Nat} {Q : pQ} (K : q_X b w p s m args c own cc nL R d cells slots) {idx : Nat} (hd : decode cc pc = .ok (.invokevirtual idx, 3)) (w2 : Cond.methodLink own idx yX8_worlds ∈ p_T) : p_sd b (q_C l b w) d Q (q_Z b w p l e R s m args below meth c nL cells slots Qw) (o_call 8 k_X8_worlds 2) pc := s_cV K hd m_ok_X8_worlds n_ok_X8_worlds w_c_X8_worlds w2 w_i_X8_worlds w_e_X8_worlds w_I_RX8 y_ok_X8_worlds (by decide) (hcl := rfl) (by decide)
theorem y_ok_X7_next : yX7_next.cls ≠ "java/lang/invoke/MethodHandle" ∧ yX7_next.cls ≠ "java/lang/invoke/VarHandle" ∧ (parseMethodDescriptor yX7_next.desc).map (fun d => d.parameters.length) = some 2 := by decide +kernel
theorem m_ok_X7_next : p_gm p_ms k_X7_next = (yX7_next, cX7_next, (some .int)) := rfl
theorem n_ok_X7_next : p_g p_nls k_X7_next = 10 := rfl
theorem cV_X7_next {b : Bool} {w : pW} {p : Program} {l : Launch} {e : Env} {R : Room} {s : State} {m : MethodId} {args : Array Value} {below : List Frame} {meth : Method} {c : Code} {own : String} {cc : ByteArray} {nL cells slots pc : Nat} {Qw : State → Prop} {d : Nat} {Q : pQ} (K : q_X b w p s m args c own cc nL R d cells slots) {idx : Nat} (hd : decode cc pc = .ok (.invokevirtual idx, 3)) (w2 : Cond.methodLink own idx yX7_next ∈ p_T) : p_sd b (q_C l b w) d Q (q_Z b w p l e R s m args below meth c nL cells slots Qw) (o_call 7 k_X7_next 3) pc := s_cV K hd m_ok_X7_next n_ok_X7_next w_c_X7_next w2 w_i_X7_next w_e_X7_next w_I_RX7 y_ok_X7_next (by decide) (hcl := rfl) (by decide)
theorem y_ok_X8_next : yX8_next.cls ≠ "java/lang/invoke/MethodHandle" ∧ yX8_next.cls ≠ "java/lang/invoke/VarHandle" ∧ (parseMethodDescriptor yX8_next.desc).map (fun d => d.parameters.length) = some 2 := by decide +kernel
theorem m_ok_X8_next : p_gm p_ms k_X8_next = (yX8_next, cX8_next, (some .int)) := rfl
theorem n_ok_X8_next : p_g p_nls k_X8_next = 11 := rfl
theorem cV_X8_next {b : Bool} {w : pW} {p : Program} {l : Launch} {e : Env} {R : Room} {s : State} {m : MethodId} {args : Array Value} {below : List Frame} {meth : Method} {c : Code} {own : String} {cc : ByteArray} {nL cells slots pc : Nat} {Qw : State → Prop} {d : Nat} {Q : pQ} (K : q_X b w p s m args c own cc nL R d cells slots) {idx : Nat} (hd : decode cc pc = .ok (.invokevirtual idx, 3)) (w2 : Cond.methodLink own idx yX8_next ∈ p_T) : p_sd b (q_C l b w) d Q (q_Z b w p l e R s m args below meth c nL cells slots Qw) (o_call 8 k_X8_next 3) pc := s_cV K hd m_ok_X8_next n_ok_X8_next w_c_X8_next w2 w_i_X8_next w_e_X8_next w_I_RX8 y_ok_X8_next (by decide) (hcl := rfl) (by decide)
theorem y_ok_X7_kinds : yX7_kinds.cls ≠ "java/lang/invoke/MethodHandle" ∧ yX7_kinds.cls ≠ "java/lang/invoke/VarHandle" ∧ (parseMethodDescriptor yX7_kinds.desc).map (fun d => d.parameters.length) = some 1 := by decide +kernel
theorem m_ok_X7_kinds : p_gm p_ms k_X7_kinds = (yX7_kinds, cX7_kinds, (some .int)) := rfl
theorem n_ok_X7_kinds : p_g p_nls k_X7_kinds = 4 := rfl
theorem cV_X7_kinds {b : Bool} {w : pW} {p : Program} {l : Launch} {e : Env} {R : Room} {s : State} {m : MethodId} {args : Array Value} {below : List Frame} {meth : Method} {c : Code} {own : String} {cc : ByteArray} {nL cells slots pc : Nat} {Qw : State → Prop} {d : Nat} {Q : pQ} (K : q_X b w p s m args c own cc nL R d cells slots) {idx : Nat} (hd : decode cc pc = .ok (.invokevirtual idx, 3)) (w2 : Cond.methodLink own idx yX7_kinds ∈ p_T) : p_sd b (q_C l b w) d Q (q_Z b w p l e R s m args below meth c nL cells slots Qw) (o_call 7 k_X7_kinds 2) pc := s_cV K hd m_ok_X7_kinds n_ok_X7_kinds w_c_X7_kinds w2 w_i_X7_kinds w_e_X7_kinds w_I_RX7 y_ok_X7_kinds (by decide) (hcl := rfl) (by decide)
theorem y_ok_X8_kinds : yX8_kinds.cls ≠ "java/lang/invoke/MethodHandle" ∧ yX8_kinds.cls ≠ "java/lang/invoke/VarHandle" ∧ (parseMethodDescriptor yX8_kinds.desc).map (fun d => d.parameters.length) = some 1 := by decide +kernel
theorem m_ok_X8_kinds : p_gm p_ms k_X8_kinds = (yX8_kinds, cX8_kinds, (some .int)) := rfl
theorem n_ok_X8_kinds : p_g p_nls k_X8_kinds = 5 := rfl
theorem cV_X8_kinds {b : Bool} {w : pW} {p : Program} {l : Launch} {e : Env} {R : Room} {s : State} {m : MethodId} {args : Array Value} {below : List Frame} {meth : Method} {c : Code} {own : String} {cc : ByteArray} {nL cells slots pc : Nat} {Qw : State → Prop} {d : Nat} {Q : pQ} (K : q_X b w p s m args c own cc nL R d cells slots) {idx : Nat} (hd : decode cc pc = .ok (.invokevirtual idx, 3)) (w2 : Cond.methodLink own idx yX8_kinds ∈ p_T) : p_sd b (q_C l b w) d Q (q_Z b w p l e R s m args below meth c nL cells slots Qw) (o_call 8 k_X8_kinds 2) pc := s_cV K hd m_ok_X8_kinds n_ok_X8_kinds w_c_X8_kinds w2 w_i_X8_kinds w_e_X8_kinds w_I_RX8 y_ok_X8_kinds (by decide) (hcl := rfl) (by decide)
theorem y_ok_X7_grips : yX7_grips.cls ≠ "java/lang/invoke/MethodHandle" ∧ yX7_grips.cls ≠ "java/lang/invoke/VarHandle" ∧ (parseMethodDescriptor yX7_grips.desc).map (fun d => d.parameters.length) = some 2 := by decide +kernel
theorem m_ok_X7_grips : p_gm p_ms k_X7_grips = (yX7_grips, cX7_grips, (some .int)) := rfl
theorem n_ok_X7_grips : p_g p_nls k_X7_grips = 6 := rfl
theorem cV_X7_grips {b : Bool} {w : pW} {p : Program} {l : Launch} {e : Env} {R : Room} {s : State} {m : MethodId} {args : Array Value} {below : List Frame} {meth : Method} {c : Code} {own : String} {cc : ByteArray} {nL cells slots pc : Nat} {Qw : State → Prop} {d : Nat} {Q : pQ} (K : q_X b w p s m args c own cc nL R d cells slots) {idx : Nat} (hd : decode cc pc = .ok (.invokevirtual idx, 3)) (w2 : Cond.methodLink own idx yX7_grips ∈ p_T) : p_sd b (q_C l b w) d Q (q_Z b w p l e R s m args below meth c nL cells slots Qw) (o_call 7 k_X7_grips 3) pc := s_cV K hd m_ok_X7_grips n_ok_X7_grips w_c_X7_grips w2 w_i_X7_grips w_e_X7_grips w_I_RX7 y_ok_X7_grips (by decide) (hcl := rfl) (by decide)
theorem y_ok_X8_grips : yX8_grips.cls ≠ "java/lang/invoke/MethodHandle" ∧ yX8_grips.cls ≠ "java/lang/invoke/VarHandle" ∧ (parseMethodDescriptor yX8_grips.desc).map (fun d => d.parameters.length) = some 2 := by decide +kernel
theorem m_ok_X8_grips : p_gm p_ms k_X8_grips = (yX8_grips, cX8_grips, (some .int)) := rfl
theorem n_ok_X8_grips : p_g p_nls k_X8_grips = 8 := rfl
theorem cV_X8_grips {b : Bool} {w : pW} {p : Program} {l : Launch} {e : Env} {R : Room} {s : State} {m : MethodId} {args : Array Value} {below : List Frame} {meth : Method} {c : Code} {own : String} {cc : ByteArray} {nL cells slots pc : Nat} {Qw : State → Prop} {d : Nat} {Q : pQ} (K : q_X b w p s m args c own cc nL R d cells slots) {idx : Nat} (hd : decode cc pc = .ok (.invokevirtual idx, 3)) (w2 : Cond.methodLink own idx yX8_grips ∈ p_T) : p_sd b (q_C l b w) d Q (q_Z b w p l e R s m args below meth c nL cells slots Qw) (o_call 8 k_X8_grips 3) pc := s_cV K hd m_ok_X8_grips n_ok_X8_grips w_c_X8_grips w2 w_i_X8_grips w_e_X8_grips w_I_RX8 y_ok_X8_grips (by decide) (hcl := rfl) (by decide)
theorem y_ok_X7_likely : yX7_likely.cls ≠ "java/lang/invoke/MethodHandle" ∧ yX7_likely.cls ≠ "java/lang/invoke/VarHandle" ∧ (parseMethodDescriptor yX7_likely.desc).map (fun d => d.parameters.length) = some 3 := by decide +kernel
theorem m_ok_X7_likely : p_gm p_ms k_X7_likely = (yX7_likely, cX7_likely, (some .int)) := rfl
theorem n_ok_X7_likely : p_g p_nls k_X7_likely = 8 := rfl
theorem cV_X7_likely {b : Bool} {w : pW} {p : Program} {l : Launch} {e : Env} {R : Room} {s : State} {m : MethodId} {args : Array Value} {below : List Frame} {meth : Method} {c : Code} {own : String} {cc : ByteArray} {nL cells slots pc : Nat} {Qw : State → Prop} {d : Nat} {Q : pQ} (K : q_X b w p s m args c own cc nL R d cells slots) {idx : Nat} (hd : decode cc pc = .ok (.invokevirtual idx, 3)) (w2 : Cond.methodLink own idx yX7_likely ∈ p_T) : p_sd b (q_C l b w) d Q (q_Z b w p l e R s m args below meth c nL cells slots Qw) (o_call 7 k_X7_likely 4) pc := s_cV K hd m_ok_X7_likely n_ok_X7_likely w_c_X7_likely w2 w_i_X7_likely w_e_X7_likely w_I_RX7 y_ok_X7_likely (by decide) (hcl := rfl) (by decide)
theorem y_ok_X8_likely : yX8_likely.cls ≠ "java/lang/invoke/MethodHandle" ∧ yX8_likely.cls ≠ "java/lang/invoke/VarHandle" ∧ (parseMethodDescriptor yX8_likely.desc).map (fun d => d.parameters.length) = some 3 := by decide +kernel
theorem m_ok_X8_likely : p_gm p_ms k_X8_likely = (yX8_likely, cX8_likely, (some .int)) := rfl
theorem n_ok_X8_likely : p_g p_nls k_X8_likely = 13 := rfl
theorem cV_X8_likely {b : Bool} {w : pW} {p : Program} {l : Launch} {e : Env} {R : Room} {s : State} {m : MethodId} {args : Array Value} {below : List Frame} {meth : Method} {c : Code} {own : String} {cc : ByteArray} {nL cells slots pc : Nat} {Qw : State → Prop} {d : Nat} {Q : pQ} (K : q_X b w p s m args c own cc nL R d cells slots) {idx : Nat} (hd : decode cc pc = .ok (.invokevirtual idx, 3)) (w2 : Cond.methodLink own idx yX8_likely ∈ p_T) : p_sd b (q_C l b w) d Q (q_Z b w p l e R s m args below meth c nL cells slots Qw) (o_call 8 k_X8_likely 4) pc := s_cV K hd m_ok_X8_likely n_ok_X8_likely w_c_X8_likely w2 w_i_X8_likely w_e_X8_likely w_I_RX8 y_ok_X8_likely (by decide) (hcl := rfl) (by decide)
theorem y_ok_X7_evenings : yX7_evenings.cls ≠ "java/lang/invoke/MethodHandle" ∧ yX7_evenings.cls ≠ "java/lang/invoke/VarHandle" ∧ (parseMethodDescriptor yX7_evenings.desc).map (fun d => d.parameters.length) = some 3 := by decide +kernel
theorem m_ok_X7_evenings : p_gm p_ms k_X7_evenings = (yX7_evenings, cX7_evenings, (some .int)) := rfl
theorem n_ok_X7_evenings : p_g p_nls k_X7_evenings = 8 := rfl
theorem cV_X7_evenings {b : Bool} {w : pW} {p : Program} {l : Launch} {e : Env} {R : Room} {s : State} {m : MethodId} {args : Array Value} {below : List Frame} {meth : Method} {c : Code} {own : String} {cc : ByteArray} {nL cells slots pc : Nat} {Qw : State → Prop} {d : Nat} {Q : pQ} (K : q_X b w p s m args c own cc nL R d cells slots) {idx : Nat} (hd : decode cc pc = .ok (.invokevirtual idx, 3)) (w2 : Cond.methodLink own idx yX7_evenings ∈ p_T) : p_sd b (q_C l b w) d Q (q_Z b w p l e R s m args below meth c nL cells slots Qw) (o_call 7 k_X7_evenings 4) pc := s_cV K hd m_ok_X7_evenings n_ok_X7_evenings w_c_X7_evenings w2 w_i_X7_evenings w_e_X7_evenings w_I_RX7 y_ok_X7_evenings (by decide) (hcl := rfl) (by decide)
theorem y_ok_X8_evenings : yX8_evenings.cls ≠ "java/lang/invoke/MethodHandle" ∧ yX8_evenings.cls ≠ "java/lang/invoke/VarHandle" ∧ (parseMethodDescriptor yX8_evenings.desc).map (fun d => d.parameters.length) = some 3 := by decide +kernel
theorem m_ok_X8_evenings : p_gm p_ms k_X8_evenings = (yX8_evenings, cX8_evenings, (some .int)) := rfl
theorem n_ok_X8_evenings : p_g p_nls k_X8_evenings = 11 := rfl
theorem cV_X8_evenings {b : Bool} {w : pW} {p : Program} {l : Launch} {e : Env} {R : Room} {s : State} {m : MethodId} {args : Array Value} {below : List Frame} {meth : Method} {c : Code} {own : String} {cc : ByteArray} {nL cells slots pc : Nat} {Qw : State → Prop} {d : Nat} {Q : pQ} (K : q_X b w p s m args c own cc nL R d cells slots) {idx : Nat} (hd : decode cc pc = .ok (.invokevirtual idx, 3)) (w2 : Cond.methodLink own idx yX8_evenings ∈ p_T) : p_sd b (q_C l b w) d Q (q_Z b w p l e R s m args below meth c nL cells slots Qw) (o_call 8 k_X8_evenings 4) pc := s_cV K hd m_ok_X8_evenings n_ok_X8_evenings w_c_X8_evenings w2 w_i_X8_evenings w_e_X8_evenings w_I_RX8 y_ok_X8_evenings (by decide) (hcl := rfl) (by decide)
theorem y_ok_X7_keep : yX7_keep.cls ≠ "java/lang/invoke/MethodHandle" ∧ yX7_keep.cls ≠ "java/lang/invoke/VarHandle" ∧ (parseMethodDescriptor yX7_keep.desc).map (fun d => d.parameters.length) = some 0 := by decide +kernel
theorem m_ok_X7_keep : p_gm p_ms k_X7_keep = (yX7_keep, cX7_keep, (some .int)) := rfl
theorem n_ok_X7_keep : p_g p_nls k_X7_keep = 1 := rfl
theorem cV_X7_keep {b : Bool} {w : pW} {p : Program} {l : Launch} {e : Env} {R : Room} {s : State} {m : MethodId} {args : Array Value} {below : List Frame} {meth : Method} {c : Code} {own : String} {cc : ByteArray} {nL cells slots pc : Nat} {Qw : State → Prop} {d : Nat} {Q : pQ} (K : q_X b w p s m args c own cc nL R d cells slots) {idx : Nat} (hd : decode cc pc = .ok (.invokevirtual idx, 3)) (w2 : Cond.methodLink own idx yX7_keep ∈ p_T) : p_sd b (q_C l b w) d Q (q_Z b w p l e R s m args below meth c nL cells slots Qw) (o_call 7 k_X7_keep 1) pc := s_cV K hd m_ok_X7_keep n_ok_X7_keep w_c_X7_keep w2 w_i_X7_keep w_e_X7_keep w_I_RX7 y_ok_X7_keep (by decide) (hcl := rfl) (by decide)
theorem y_ok_X8_keep : yX8_keep.cls ≠ "java/lang/invoke/MethodHandle" ∧ yX8_keep.cls ≠ "java/lang/invoke/VarHandle" ∧ (parseMethodDescriptor yX8_keep.desc).map (fun d => d.parameters.length) = some 0 := by decide +kernel
theorem m_ok_X8_keep : p_gm p_ms k_X8_keep = (yX8_keep, cX8_keep, (some .int)) := rfl
theorem n_ok_X8_keep : p_g p_nls k_X8_keep = 1 := rfl
theorem cV_X8_keep {b : Bool} {w : pW} {p : Program} {l : Launch} {e : Env} {R : Room} {s : State} {m : MethodId} {args : Array Value} {below : List Frame} {meth : Method} {c : Code} {own : String} {cc : ByteArray} {nL cells slots pc : Nat} {Qw : State → Prop} {d : Nat} {Q : pQ} (K : q_X b w p s m args c own cc nL R d cells slots) {idx : Nat} (hd : decode cc pc = .ok (.invokevirtual idx, 3)) (w2 : Cond.methodLink own idx yX8_keep ∈ p_T) : p_sd b (q_C l b w) d Q (q_Z b w p l e R s m args below meth c nL cells slots Qw) (o_call 8 k_X8_keep 1) pc := s_cV K hd m_ok_X8_keep n_ok_X8_keep w_c_X8_keep w2 w_i_X8_keep w_e_X8_keep w_I_RX8 y_ok_X8_keep (by decide) (hcl := rfl) (by decide)
theorem y_ok_X7_back : yX7_back.cls ≠ "java/lang/invoke/MethodHandle" ∧ yX7_back.cls ≠ "java/lang/invoke/VarHandle" ∧ (parseMethodDescriptor yX7_back.desc).map (fun d => d.parameters.length) = some 0 := by decide +kernel
theorem m_ok_X7_back : p_gm p_ms k_X7_back = (yX7_back, cX7_back, (some .int)) := rfl
theorem n_ok_X7_back : p_g p_nls k_X7_back = 1 := rfl
theorem cV_X7_back {b : Bool} {w : pW} {p : Program} {l : Launch} {e : Env} {R : Room} {s : State} {m : MethodId} {args : Array Value} {below : List Frame} {meth : Method} {c : Code} {own : String} {cc : ByteArray} {nL cells slots pc : Nat} {Qw : State → Prop} {d : Nat} {Q : pQ} (K : q_X b w p s m args c own cc nL R d cells slots) {idx : Nat} (hd : decode cc pc = .ok (.invokevirtual idx, 3)) (w2 : Cond.methodLink own idx yX7_back ∈ p_T) : p_sd b (q_C l b w) d Q (q_Z b w p l e R s m args below meth c nL cells slots Qw) (o_call 7 k_X7_back 1) pc := s_cV K hd m_ok_X7_back n_ok_X7_back w_c_X7_back w2 w_i_X7_back w_e_X7_back w_I_RX7 y_ok_X7_back (by decide) (hcl := rfl) (by decide)
theorem y_ok_X8_back : yX8_back.cls ≠ "java/lang/invoke/MethodHandle" ∧ yX8_back.cls ≠ "java/lang/invoke/VarHandle" ∧ (parseMethodDescriptor yX8_back.desc).map (fun d => d.parameters.length) = some 0 := by decide +kernel
theorem m_ok_X8_back : p_gm p_ms k_X8_back = (yX8_back, cX8_back, (some .int)) := rfl
theorem n_ok_X8_back : p_g p_nls k_X8_back = 1 := rfl
theorem cV_X8_back {b : Bool} {w : pW} {p : Program} {l : Launch} {e : Env} {R : Room} {s : State} {m : MethodId} {args : Array Value} {below : List Frame} {meth : Method} {c : Code} {own : String} {cc : ByteArray} {nL cells slots pc : Nat} {Qw : State → Prop} {d : Nat} {Q : pQ} (K : q_X b w p s m args c own cc nL R d cells slots) {idx : Nat} (hd : decode cc pc = .ok (.invokevirtual idx, 3)) (w2 : Cond.methodLink own idx yX8_back ∈ p_T) : p_sd b (q_C l b w) d Q (q_Z b w p l e R s m args below meth c nL cells slots Qw) (o_call 8 k_X8_back 1) pc := s_cV K hd m_ok_X8_back n_ok_X8_back w_c_X8_back w2 w_i_X8_back w_e_X8_back w_I_RX8 y_ok_X8_back (by decide) (hcl := rfl) (by decide)
theorem y_ok_X7_count : yX7_count.cls ≠ "java/lang/invoke/MethodHandle" ∧ yX7_count.cls ≠ "java/lang/invoke/VarHandle" ∧ (parseMethodDescriptor yX7_count.desc).map (fun d => d.parameters.length) = some 1 := by decide +kernel
theorem m_ok_X7_count : p_gm p_ms k_X7_count = (yX7_count, cX7_count, (some .int)) := rfl
theorem n_ok_X7_count : p_g p_nls k_X7_count = 2 := rfl
theorem cV_X7_count {b : Bool} {w : pW} {p : Program} {l : Launch} {e : Env} {R : Room} {s : State} {m : MethodId} {args : Array Value} {below : List Frame} {meth : Method} {c : Code} {own : String} {cc : ByteArray} {nL cells slots pc : Nat} {Qw : State → Prop} {d : Nat} {Q : pQ} (K : q_X b w p s m args c own cc nL R d cells slots) {idx : Nat} (hd : decode cc pc = .ok (.invokevirtual idx, 3)) (w2 : Cond.methodLink own idx yX7_count ∈ p_T) : p_sd b (q_C l b w) d Q (q_Z b w p l e R s m args below meth c nL cells slots Qw) (o_call 7 k_X7_count 2) pc := s_cV K hd m_ok_X7_count n_ok_X7_count w_c_X7_count w2 w_i_X7_count w_e_X7_count w_I_RX7 y_ok_X7_count (by decide) (hcl := rfl) (by decide)
theorem y_ok_X8_count : yX8_count.cls ≠ "java/lang/invoke/MethodHandle" ∧ yX8_count.cls ≠ "java/lang/invoke/VarHandle" ∧ (parseMethodDescriptor yX8_count.desc).map (fun d => d.parameters.length) = some 1 := by decide +kernel
theorem m_ok_X8_count : p_gm p_ms k_X8_count = (yX8_count, cX8_count, (some .int)) := rfl
theorem n_ok_X8_count : p_g p_nls k_X8_count = 2 := rfl
theorem cV_X8_count {b : Bool} {w : pW} {p : Program} {l : Launch} {e : Env} {R : Room} {s : State} {m : MethodId} {args : Array Value} {below : List Frame} {meth : Method} {c : Code} {own : String} {cc : ByteArray} {nL cells slots pc : Nat} {Qw : State → Prop} {d : Nat} {Q : pQ} (K : q_X b w p s m args c own cc nL R d cells slots) {idx : Nat} (hd : decode cc pc = .ok (.invokevirtual idx, 3)) (w2 : Cond.methodLink own idx yX8_count ∈ p_T) : p_sd b (q_C l b w) d Q (q_Z b w p l e R s m args below meth c nL cells slots Qw) (o_call 8 k_X8_count 2) pc := s_cV K hd m_ok_X8_count n_ok_X8_count w_c_X8_count w2 w_i_X8_count w_e_X8_count w_I_RX8 y_ok_X8_count (by decide) (hcl := rfl) (by decide)
