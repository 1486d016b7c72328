set_option maxRecDepth 100000 in
theorem xb_0 : Cond.code yX0_init cX0_init 1 none ∈ xbig := xb_m 215 rfl rfl
theorem xb_1 : Cond.methodLink RX0 3 objectInit ∈ xbig := xb_m 216 (by decide +kernel) rfl
theorem xb_2 : Cond.instanceMethod objectInit ∈ xbig := xb_m 71 (by decide +kernel) rfl
set_option maxRecDepth 100000 in
theorem xb_3 : Cond.code objectInit ⟨#[0xb1]⟩ 1 none ∈ xbig := xb_m 72 rfl rfl
theorem xb_4 : Cond.fieldLink RX0 9 "WalkingLaw$Diary" "members" "[I" ∈ xbig := xb_m 217 (by decide +kernel) rfl
theorem xb_5 : Cond.fieldLink RX0 15 "WalkingLaw$Diary" "parishes" "[I" ∈ xbig := xb_m 218 (by decide +kernel) rfl
theorem xb_6 : Cond.fieldLink RX0 18 "WalkingLaw$Diary" "hoursGone" "[I" ∈ xbig := xb_m 219 (by decide +kernel) rfl
theorem xb_7 : Cond.fieldLink RX0 21 "WalkingLaw$Diary" "fitting" "[I" ∈ xbig := xb_m 222 (by decide +kernel) rfl
set_option maxRecDepth 100000 in
theorem xb_8 : Cond.code yX0_append cX0_append 4 (some .boolean) ∈ xbig := xb_m 573 rfl rfl
theorem xb_9 : Cond.fieldLink RX0 24 "WalkingLaw$Diary" "lines" "I" ∈ xbig := xb_m 220 (by decide +kernel) rfl
set_option maxRecDepth 100000 in
theorem xb_10 : Cond.code yX1_parishAt cX1_parishAt 3 (some .int) ∈ xbig := xb_m 375 rfl rfl
theorem xb_11 : Cond.fieldLink RX1 39 "WalkingLaw$Road" "parishes" "I" ∈ xbig := xb_m 102 (by decide +kernel) rfl
theorem xb_12 : Cond.fieldLink RX1 21 "WalkingLaw$Road" "firstMiles" "[I" ∈ xbig := xb_m 113 (by decide +kernel) rfl
set_option maxRecDepth 100000 in
theorem xb_13 : Cond.code yX4_parishOf cX4_parishOf 2 (some .int) ∈ xbig := xb_m 371 rfl rfl
theorem xb_14 : Cond.fieldLink RX4 28 "WalkingLaw$Walk" "road" "LWalkingLaw$Road;" ∈ xbig := xb_m 185 (by decide +kernel) rfl
theorem xb_15 : Cond.fieldLink RX4 9 "WalkingLaw$Walk" "miles" "[I" ∈ xbig := xb_m 187 (by decide +kernel) rfl
theorem xb_16 : Cond.methodLink RX4 48 yX1_parishAt ∈ xbig := xb_m 372 (by decide +kernel) rfl
theorem xb_17 : Cond.instanceMethod yX1_parishAt ∈ xbig := xb_m 373 (by decide +kernel) rfl
theorem xb_18 : Cond.selects RX1 yX1_parishAt yX1_parishAt ∈ xbig := xb_m 374 (by decide +kernel) rfl
theorem xb_19 : Cond.initialized RX1 ∈ xbig := xb_m 58 (by decide +kernel) rfl
set_option maxRecDepth 100000 in
theorem xb_20 : Cond.code yX0_isSo cX0_isSo 3 (some .boolean) ∈ xbig := xb_m 589 rfl rfl
theorem xb_21 : Cond.methodLink RX0 46 yX4_parishOf ∈ xbig := xb_m 590 (by decide +kernel) rfl
theorem xb_22 : Cond.instanceMethod yX4_parishOf ∈ xbig := xb_m 369 (by decide +kernel) rfl
theorem xb_23 : Cond.selects RX4 yX4_parishOf yX4_parishOf ∈ xbig := xb_m 370 (by decide +kernel) rfl
theorem xb_24 : Cond.initialized RX4 ∈ xbig := xb_m 59 (by decide +kernel) rfl
set_option maxRecDepth 100000 in
theorem xb_25 : Cond.code yX1_strideFrom cX1_strideFrom 3 (some .int) ∈ xbig := xb_m 391 rfl rfl
theorem xb_26 : Cond.fieldLink RX1 24 "WalkingLaw$Road" "kinds" "[I" ∈ xbig := xb_m 121 (by decide +kernel) rfl
theorem xb_27 : Cond.fieldLink RX1 15 "WalkingLaw$Road" "muddy" "[I" ∈ xbig := xb_m 108 (by decide +kernel) rfl
theorem xb_28 : Cond.fieldLink RX1 27 "WalkingLaw$Road" "paces" "[I" ∈ xbig := xb_m 123 (by decide +kernel) rfl
theorem xb_29 : Cond.methodLink RX1 55 yX1_parishAt ∈ xbig := xb_m 392 (by decide +kernel) rfl
set_option maxRecDepth 100000 in
theorem xb_30 : Cond.code yX4_thoseIn cX4_thoseIn 6 (some .int) ∈ xbig := xb_m 355 rfl rfl
set_option maxRecDepth 100000 in
theorem xb_31 : Cond.code yJ6_bitCount_0f7a4 cJ6_bitCount_0f7a4 1 (some .int) ∈ xbig := xb_m 403 rfl rfl
theorem xb_32 : Cond.constant RJ6 265 (1431655765) ∈ xbig := xb_m 404 (by decide +kernel) rfl
theorem xb_33 : Cond.constant RJ6 266 (858993459) ∈ xbig := xb_m 405 (by decide +kernel) rfl
theorem xb_34 : Cond.constant RJ6 267 (252645135) ∈ xbig := xb_m 406 (by decide +kernel) rfl
set_option maxRecDepth 100000 in
theorem xb_35 : Cond.code yX4_clearInns cX4_clearInns 5 none ∈ xbig := xb_m 399 rfl rfl
theorem xb_36 : Cond.methodLink RX4 80 yX4_thoseIn ∈ xbig := xb_m 400 (by decide +kernel) rfl
theorem xb_37 : Cond.instanceMethod yX4_thoseIn ∈ xbig := xb_m 353 (by decide +kernel) rfl
theorem xb_38 : Cond.selects RX4 yX4_thoseIn yX4_thoseIn ∈ xbig := xb_m 354 (by decide +kernel) rfl
theorem xb_39 : Cond.methodLink RX4 83 yJ6_bitCount_0f7a4 ∈ xbig := xb_m 401 (by decide +kernel) rfl
theorem xb_40 : Cond.static yJ6_bitCount_0f7a4 ∈ xbig := xb_m 402 (by decide +kernel) rfl
theorem xb_41 : Cond.initialized RJ6 ∈ xbig := xb_m 64 (by decide +kernel) rfl
set_option maxRecDepth 100000 in
theorem xb_42 : Cond.code yX5_lowestOf cX5_lowestOf 1 (some .int) ∈ xbig := xb_m 416 rfl rfl
set_option maxRecDepth 100000 in
theorem xb_43 : Cond.code yX4_swayed cX4_swayed 5 (some .int) ∈ xbig := xb_m 413 rfl rfl
theorem xb_44 : Cond.static yX5_lowestOf ∈ xbig := xb_m 415 (by decide +kernel) rfl
theorem xb_45 : Cond.initialized RX5 ∈ xbig := xb_m 56 (by decide +kernel) rfl
set_option maxRecDepth 100000 in
theorem xb_46 : Cond.code yX4_changeMinds cX4_changeMinds 4 none ∈ xbig := xb_m 410 rfl rfl
theorem xb_47 : Cond.fieldLink RX4 15 "WalkingLaw$Walk" "backers" "[I" ∈ xbig := xb_m 189 (by decide +kernel) rfl
theorem xb_48 : Cond.methodLink RX4 94 yX4_swayed ∈ xbig := xb_m 411 (by decide +kernel) rfl
theorem xb_49 : Cond.static yX4_swayed ∈ xbig := xb_m 412 (by decide +kernel) rfl
theorem xb_50 : Cond.methodLink RX4 69 Lib.Math.min.name ∈ xbig := xb_m 393 (by decide +kernel) rfl
theorem xb_51 : Cond.static Lib.Math.min.name ∈ xbig := xb_m 394 (by decide +kernel) rfl
theorem xb_52 : Cond.initialized "java/lang/Math" ∈ xbig := xb_m 63 (by decide +kernel) rfl
set_option maxRecDepth 100000 in
theorem xb_53 : Cond.code Lib.Math.min.name Lib.Math.min.code 2 (some .int) ∈ xbig := xb_m 395 rfl rfl
theorem xb_54 : Cond.fieldLink RX4 32 "WalkingLaw$Walk" "hour" "I" ∈ xbig := xb_m 195 (by decide +kernel) rfl
theorem xb_55 : Cond.methodLink RX4 65 yX1_strideFrom ∈ xbig := xb_m 388 (by decide +kernel) rfl
theorem xb_56 : Cond.instanceMethod yX1_strideFrom ∈ xbig := xb_m 389 (by decide +kernel) rfl
theorem xb_57 : Cond.selects RX1 yX1_strideFrom yX1_strideFrom ∈ xbig := xb_m 390 (by decide +kernel) rfl
theorem xb_58 : Cond.methodLink RX4 74 yX4_clearInns ∈ xbig := xb_m 396 (by decide +kernel) rfl
theorem xb_59 : Cond.instanceMethod yX4_clearInns ∈ xbig := xb_m 398 (by decide +kernel) rfl
theorem xb_60 : Cond.selects RX4 yX4_clearInns yX4_clearInns ∈ xbig := xb_m 7 (by decide +kernel) rfl
theorem xb_61 : Cond.methodLink RX4 77 yX4_changeMinds ∈ xbig := xb_m 407 (by decide +kernel) rfl
theorem xb_62 : Cond.instanceMethod yX4_changeMinds ∈ xbig := xb_m 409 (by decide +kernel) rfl
theorem xb_63 : Cond.selects RX4 yX4_changeMinds yX4_changeMinds ∈ xbig := xb_m 8 (by decide +kernel) rfl
set_option maxRecDepth 100000 in
theorem xb_64 : Cond.code yX4_goHour cX4_goHour 3 none ∈ xbig := xb_m 387 rfl rfl
theorem xb_65 : Cond.methodLink RX0 28 yX0_isSo ∈ xbig := xb_m 586 (by decide +kernel) rfl
theorem xb_66 : Cond.instanceMethod yX0_isSo ∈ xbig := xb_m 588 (by decide +kernel) rfl
theorem xb_67 : Cond.selects RX0 yX0_isSo yX0_isSo ∈ xbig := xb_m 19 (by decide +kernel) rfl
theorem xb_68 : Cond.initialized RX0 ∈ xbig := xb_m 60 (by decide +kernel) rfl
theorem xb_69 : Cond.methodLink RX0 32 yX4_goHour ∈ xbig := xb_m 591 (by decide +kernel) rfl
theorem xb_70 : Cond.instanceMethod yX4_goHour ∈ xbig := xb_m 385 (by decide +kernel) rfl
theorem xb_71 : Cond.selects RX4 yX4_goHour yX4_goHour ∈ xbig := xb_m 386 (by decide +kernel) rfl
set_option maxRecDepth 100000 in
theorem xb_72 : Cond.code yX0_falseLines cX0_falseLines 5 (some .int) ∈ xbig := xb_m 585 rfl rfl
set_option maxRecDepth 100000 in
theorem xb_73 : Cond.code yX0_noteFitting cX0_noteFitting 6 none ∈ xbig := xb_m 603 rfl rfl
theorem xb_74 : Cond.methodLink RX0 50 Lib.Math.max.name ∈ xbig := xb_m 604 (by decide +kernel) rfl
theorem xb_75 : Cond.static Lib.Math.max.name ∈ xbig := xb_m 605 (by decide +kernel) rfl
set_option maxRecDepth 100000 in
theorem xb_76 : Cond.code Lib.Math.max.name Lib.Math.max.code 2 (some .int) ∈ xbig := xb_m 606 rfl rfl
theorem xb_77 : Cond.methodLink RX0 56 Lib.Math.min.name ∈ xbig := xb_m 607 (by decide +kernel) rfl
set_option maxRecDepth 100000 in
theorem xb_78 : Cond.code yX0_mostFitting cX0_mostFitting 3 (some .int) ∈ xbig := xb_m 611 rfl rfl
theorem xb_79 : Cond.methodLink RX0 38 yX0_noteFitting ∈ xbig := xb_m 600 (by decide +kernel) rfl
theorem xb_80 : Cond.instanceMethod yX0_noteFitting ∈ xbig := xb_m 602 (by decide +kernel) rfl
theorem xb_81 : Cond.selects RX0 yX0_noteFitting yX0_noteFitting ∈ xbig := xb_m 20 (by decide +kernel) rfl
theorem xb_82 : Cond.methodLink RX0 42 yX0_mostFitting ∈ xbig := xb_m 608 (by decide +kernel) rfl
theorem xb_83 : Cond.instanceMethod yX0_mostFitting ∈ xbig := xb_m 610 (by decide +kernel) rfl
theorem xb_84 : Cond.selects RX0 yX0_mostFitting yX0_mostFitting ∈ xbig := xb_m 21 (by decide +kernel) rfl
set_option maxRecDepth 100000 in
theorem xb_85 : Cond.code yX0_bestDelay cX0_bestDelay 4 (some .int) ∈ xbig := xb_m 599 rfl rfl
set_option maxRecDepth 100000 in
theorem xb_86 : Cond.code yX1_clear cX1_clear 2 none ∈ xbig := xb_m 101 rfl rfl
theorem xb_87 : Cond.fieldLink RX1 43 "WalkingLaw$Road" "end" "I" ∈ xbig := xb_m 115 (by decide +kernel) rfl
theorem xb_88 : Cond.fieldLink RX1 46 "WalkingLaw$Road" "members" "I" ∈ xbig := xb_m 118 (by decide +kernel) rfl
theorem xb_89 : Cond.fieldLink RX1 33 "WalkingLaw$Road" "ofKind" "[I" ∈ xbig := xb_m 127 (by decide +kernel) rfl
theorem xb_90 : Cond.fieldLink RX1 49 "WalkingLaw$Road" "quorum" "I" ∈ xbig := xb_m 129 (by decide +kernel) rfl
theorem xb_91 : Cond.fieldLink RX1 52 "WalkingLaw$Road" "bills" "I" ∈ xbig := xb_m 133 (by decide +kernel) rfl
set_option maxRecDepth 100000 in
theorem xb_92 : Cond.code yX1_init cX1_init 1 none ∈ xbig := xb_m 96 rfl rfl
theorem xb_93 : Cond.methodLink RX1 3 objectInit ∈ xbig := xb_m 97 (by decide +kernel) rfl
theorem xb_94 : Cond.fieldLink RX1 9 "WalkingLaw$Road" "lengths" "[I" ∈ xbig := xb_m 106 (by decide +kernel) rfl
theorem xb_95 : Cond.fieldLink RX1 18 "WalkingLaw$Road" "beds" "[I" ∈ xbig := xb_m 110 (by decide +kernel) rfl
theorem xb_96 : Cond.fieldLink RX1 30 "WalkingLaw$Road" "minds" "[I" ∈ xbig := xb_m 125 (by decide +kernel) rfl
theorem xb_97 : Cond.methodLink RX1 36 yX1_clear ∈ xbig := xb_m 98 (by decide +kernel) rfl
theorem xb_98 : Cond.instanceMethod yX1_clear ∈ xbig := xb_m 99 (by decide +kernel) rfl
theorem xb_99 : Cond.selects RX1 yX1_clear yX1_clear ∈ xbig := xb_m 100 (by decide +kernel) rfl
set_option maxRecDepth 100000 in
theorem xb_100 : Cond.code yX1_addParish cX1_addParish 4 (some .boolean) ∈ xbig := xb_m 166 rfl rfl
set_option maxRecDepth 100000 in
theorem xb_101 : Cond.code yX1_addMember cX1_addMember 4 (some .boolean) ∈ xbig := xb_m 170 rfl rfl
set_option maxRecDepth 100000 in
theorem xb_102 : Cond.code yX1_setQuorum cX1_setQuorum 2 (some .boolean) ∈ xbig := xb_m 334 rfl rfl
set_option maxRecDepth 100000 in
theorem xb_103 : Cond.code yX1_setBills cX1_setBills 2 (some .boolean) ∈ xbig := xb_m 338 rfl rfl
set_option maxRecDepth 100000 in
theorem xb_104 : Cond.code yX1_outspoken cX1_outspoken 1 (some .int) ∈ xbig := xb_m 440 rfl rfl
set_option maxRecDepth 100000 in
theorem xb_105 : Cond.code yX1_paceOf cX1_paceOf 4 (some .int) ∈ xbig := xb_m 552 rfl rfl
set_option maxRecDepth 100000 in
theorem xb_106 : Cond.code yX1_slowestOf cX1_slowestOf 4 (some .int) ∈ xbig := xb_m 560 rfl rfl
theorem xb_107 : Cond.methodLink RX1 59 Lib.Math.min.name ∈ xbig := xb_m 561 (by decide +kernel) rfl
set_option maxRecDepth 100000 in
theorem xb_108 : Cond.code yX2_init cX2_init 1 none ∈ xbig := xb_m 238 rfl rfl
theorem xb_109 : Cond.methodLink RX2 3 objectInit ∈ xbig := xb_m 239 (by decide +kernel) rfl
theorem xb_110 : Cond.classLink RX2 9 "[[I" ∈ xbig := xb_m 240 (by decide +kernel) rfl
theorem xb_111 : Cond.fieldLink RX2 11 "WalkingLaw$Rows" "passing" "[[I" ∈ xbig := xb_m 242 (by decide +kernel) rfl
theorem xb_112 : Cond.fieldLink RX2 16 "WalkingLaw$Rows" "row" "[I" ∈ xbig := xb_m 243 (by decide +kernel) rfl
theorem xb_113 : Cond.fieldLink RX2 20 "WalkingLaw$Rows" "best" "[I" ∈ xbig := xb_m 244 (by decide +kernel) rfl
set_option maxRecDepth 100000 in
theorem xb_114 : Cond.code yX4_yesOf cX4_yesOf 7 (some .int) ∈ xbig := xb_m 436 rfl rfl
theorem xb_115 : Cond.methodLink RX4 111 yX1_outspoken ∈ xbig := xb_m 437 (by decide +kernel) rfl
theorem xb_116 : Cond.instanceMethod yX1_outspoken ∈ xbig := xb_m 438 (by decide +kernel) rfl
theorem xb_117 : Cond.selects RX1 yX1_outspoken yX1_outspoken ∈ xbig := xb_m 439 (by decide +kernel) rfl
set_option maxRecDepth 100000 in
theorem xb_118 : Cond.code yX4_noOf cX4_noOf 6 (some .int) ∈ xbig := xb_m 448 rfl rfl
theorem xb_119 : Cond.methodLink RX4 100 yX4_yesOf ∈ xbig := xb_m 433 (by decide +kernel) rfl
theorem xb_120 : Cond.instanceMethod yX4_yesOf ∈ xbig := xb_m 435 (by decide +kernel) rfl
theorem xb_121 : Cond.selects RX4 yX4_yesOf yX4_yesOf ∈ xbig := xb_m 10 (by decide +kernel) rfl
theorem xb_122 : Cond.methodLink RX4 104 yX4_noOf ∈ xbig := xb_m 445 (by decide +kernel) rfl
theorem xb_123 : Cond.instanceMethod yX4_noOf ∈ xbig := xb_m 447 (by decide +kernel) rfl
theorem xb_124 : Cond.selects RX4 yX4_noOf yX4_noOf ∈ xbig := xb_m 11 (by decide +kernel) rfl
set_option maxRecDepth 100000 in
theorem xb_125 : Cond.code yX4_passesIn cX4_passesIn 5 (some .boolean) ∈ xbig := xb_m 452 rfl rfl
theorem xb_126 : Cond.methodLink RX2 64 yX4_parishOf ∈ xbig := xb_m 515 (by decide +kernel) rfl
theorem xb_127 : Cond.methodLink RX2 68 yX4_passesIn ∈ xbig := xb_m 516 (by decide +kernel) rfl
theorem xb_128 : Cond.instanceMethod yX4_passesIn ∈ xbig := xb_m 450 (by decide +kernel) rfl
theorem xb_129 : Cond.selects RX4 yX4_passesIn yX4_passesIn ∈ xbig := xb_m 451 (by decide +kernel) rfl
set_option maxRecDepth 100000 in
theorem xb_130 : Cond.code yX2_notePassing cX2_notePassing 5 none ∈ xbig := xb_m 514 rfl rfl
theorem xb_131 : Cond.methodLink RX2 56 yX2_notePassing ∈ xbig := xb_m 511 (by decide +kernel) rfl
theorem xb_132 : Cond.instanceMethod yX2_notePassing ∈ xbig := xb_m 513 (by decide +kernel) rfl
theorem xb_133 : Cond.selects RX2 yX2_notePassing yX2_notePassing ∈ xbig := xb_m 14 (by decide +kernel) rfl
theorem xb_134 : Cond.initialized RX2 ∈ xbig := xb_m 61 (by decide +kernel) rfl
theorem xb_135 : Cond.methodLink RX2 60 yX4_goHour ∈ xbig := xb_m 517 (by decide +kernel) rfl
set_option maxRecDepth 100000 in
theorem xb_136 : Cond.code yX2_findPassing cX2_findPassing 5 none ∈ xbig := xb_m 510 rfl rfl
set_option maxRecDepth 100000 in
theorem xb_137 : Cond.code yX2_setRow cX2_setRow 5 (some .boolean) ∈ xbig := xb_m 521 rfl rfl
set_option maxRecDepth 100000 in
theorem xb_138 : Cond.code yX2_compare cX2_compare 5 none ∈ xbig := xb_m 525 rfl rfl
theorem xb_139 : Cond.fieldLink RX2 42 "WalkingLaw$Rows" "most" "I" ∈ xbig := xb_m 246 (by decide +kernel) rfl
theorem xb_140 : Cond.methodLink RX2 23 yX2_findPassing ∈ xbig := xb_m 507 (by decide +kernel) rfl
theorem xb_141 : Cond.instanceMethod yX2_findPassing ∈ xbig := xb_m 509 (by decide +kernel) rfl
theorem xb_142 : Cond.selects RX2 yX2_findPassing yX2_findPassing ∈ xbig := xb_m 13 (by decide +kernel) rfl
theorem xb_143 : Cond.methodLink RX2 45 yX2_setRow ∈ xbig := xb_m 518 (by decide +kernel) rfl
theorem xb_144 : Cond.instanceMethod yX2_setRow ∈ xbig := xb_m 520 (by decide +kernel) rfl
theorem xb_145 : Cond.selects RX2 yX2_setRow yX2_setRow ∈ xbig := xb_m 15 (by decide +kernel) rfl
theorem xb_146 : Cond.methodLink RX2 49 yX2_compare ∈ xbig := xb_m 522 (by decide +kernel) rfl
theorem xb_147 : Cond.instanceMethod yX2_compare ∈ xbig := xb_m 524 (by decide +kernel) rfl
theorem xb_148 : Cond.selects RX2 yX2_compare yX2_compare ∈ xbig := xb_m 16 (by decide +kernel) rfl
set_option maxRecDepth 100000 in
theorem xb_149 : Cond.code yX2_weigh cX2_weigh 5 none ∈ xbig := xb_m 506 rfl rfl
set_option maxRecDepth 100000 in
theorem xb_150 : Cond.code yX3_init cX3_init 1 none ∈ xbig := xb_m 77 rfl rfl
theorem xb_151 : Cond.methodLink RX3 3 objectInit ∈ xbig := xb_m 78 (by decide +kernel) rfl
theorem xb_152 : Cond.fieldLink RX3 9 "WalkingLaw$Text" "bytes" "[B" ∈ xbig := xb_m 79 (by decide +kernel) rfl
theorem xb_153 : Cond.fieldLink RX3 15 "WalkingLaw$Text" "numbers" "[I" ∈ xbig := xb_m 80 (by decide +kernel) rfl
set_option maxRecDepth 100000 in
theorem xb_154 : Cond.code yX3_append cX3_append 5 (some .boolean) ∈ xbig := xb_m 292 rfl rfl
theorem xb_155 : Cond.fieldLink RX3 19 "WalkingLaw$Text" "length" "I" ∈ xbig := xb_m 81 (by decide +kernel) rfl
set_option maxRecDepth 100000 in
theorem xb_156 : Cond.code yX3_byteAt cX3_byteAt 2 (some .int) ∈ xbig := xb_m 313 rfl rfl
set_option maxRecDepth 100000 in
theorem xb_157 : Cond.code yX3_numbersBehind cX3_numbersBehind 1 (some .int) ∈ xbig := xb_m 316 rfl rfl
set_option maxRecDepth 100000 in
theorem xb_158 : Cond.code yX3_isFigure cX3_isFigure 3 (some .boolean) ∈ xbig := xb_m 324 rfl rfl
theorem xb_159 : Cond.methodLink RX3 32 yX3_byteAt ∈ xbig := xb_m 310 (by decide +kernel) rfl
theorem xb_160 : Cond.instanceMethod yX3_byteAt ∈ xbig := xb_m 312 (by decide +kernel) rfl
theorem xb_161 : Cond.selects RX3 yX3_byteAt yX3_byteAt ∈ xbig := xb_m 1 (by decide +kernel) rfl
theorem xb_162 : Cond.initialized RX3 ∈ xbig := xb_m 57 (by decide +kernel) rfl
set_option maxRecDepth 100000 in
theorem xb_163 : Cond.code yX3_takeNumber cX3_takeNumber 6 (some .int) ∈ xbig := xb_m 320 rfl rfl
theorem xb_164 : Cond.methodLink RX3 47 yX3_isFigure ∈ xbig := xb_m 321 (by decide +kernel) rfl
theorem xb_165 : Cond.instanceMethod yX3_isFigure ∈ xbig := xb_m 323 (by decide +kernel) rfl
theorem xb_166 : Cond.selects RX3 yX3_isFigure yX3_isFigure ∈ xbig := xb_m 3 (by decide +kernel) rfl
theorem xb_167 : Cond.methodLink RX3 51 yX1_addParish ∈ xbig := xb_m 329 (by decide +kernel) rfl
theorem xb_168 : Cond.instanceMethod yX1_addParish ∈ xbig := xb_m 164 (by decide +kernel) rfl
theorem xb_169 : Cond.selects RX1 yX1_addParish yX1_addParish ∈ xbig := xb_m 165 (by decide +kernel) rfl
theorem xb_170 : Cond.methodLink RX3 55 yX1_addMember ∈ xbig := xb_m 330 (by decide +kernel) rfl
theorem xb_171 : Cond.instanceMethod yX1_addMember ∈ xbig := xb_m 168 (by decide +kernel) rfl
theorem xb_172 : Cond.selects RX1 yX1_addMember yX1_addMember ∈ xbig := xb_m 169 (by decide +kernel) rfl
theorem xb_173 : Cond.methodLink RX3 58 yX1_setQuorum ∈ xbig := xb_m 331 (by decide +kernel) rfl
theorem xb_174 : Cond.instanceMethod yX1_setQuorum ∈ xbig := xb_m 332 (by decide +kernel) rfl
theorem xb_175 : Cond.selects RX1 yX1_setQuorum yX1_setQuorum ∈ xbig := xb_m 333 (by decide +kernel) rfl
theorem xb_176 : Cond.methodLink RX3 61 yX1_setBills ∈ xbig := xb_m 335 (by decide +kernel) rfl
theorem xb_177 : Cond.instanceMethod yX1_setBills ∈ xbig := xb_m 336 (by decide +kernel) rfl
theorem xb_178 : Cond.selects RX1 yX1_setBills yX1_setBills ∈ xbig := xb_m 337 (by decide +kernel) rfl
set_option maxRecDepth 100000 in
theorem xb_179 : Cond.code yX3_addItem cX3_addItem 3 (some .boolean) ∈ xbig := xb_m 328 rfl rfl
theorem xb_180 : Cond.methodLink RX3 36 yX3_numbersBehind ∈ xbig := xb_m 314 (by decide +kernel) rfl
theorem xb_181 : Cond.static yX3_numbersBehind ∈ xbig := xb_m 315 (by decide +kernel) rfl
theorem xb_182 : Cond.methodLink RX3 39 yX3_takeNumber ∈ xbig := xb_m 317 (by decide +kernel) rfl
theorem xb_183 : Cond.instanceMethod yX3_takeNumber ∈ xbig := xb_m 319 (by decide +kernel) rfl
theorem xb_184 : Cond.selects RX3 yX3_takeNumber yX3_takeNumber ∈ xbig := xb_m 2 (by decide +kernel) rfl
theorem xb_185 : Cond.methodLink RX3 43 yX3_addItem ∈ xbig := xb_m 325 (by decide +kernel) rfl
theorem xb_186 : Cond.instanceMethod yX3_addItem ∈ xbig := xb_m 327 (by decide +kernel) rfl
theorem xb_187 : Cond.selects RX3 yX3_addItem yX3_addItem ∈ xbig := xb_m 4 (by decide +kernel) rfl
set_option maxRecDepth 100000 in
theorem xb_188 : Cond.code yX3_takeItem cX3_takeItem 7 (some .int) ∈ xbig := xb_m 309 rfl rfl
theorem xb_189 : Cond.methodLink RX3 23 yX1_clear ∈ xbig := xb_m 305 (by decide +kernel) rfl
theorem xb_190 : Cond.methodLink RX3 28 yX3_takeItem ∈ xbig := xb_m 306 (by decide +kernel) rfl
theorem xb_191 : Cond.instanceMethod yX3_takeItem ∈ xbig := xb_m 308 (by decide +kernel) rfl
theorem xb_192 : Cond.selects RX3 yX3_takeItem yX3_takeItem ∈ xbig := xb_m 0 (by decide +kernel) rfl
set_option maxRecDepth 100000 in
theorem xb_193 : Cond.code yX3_tell cX3_tell 5 (some .int) ∈ xbig := xb_m 304 rfl rfl
set_option maxRecDepth 100000 in
theorem xb_194 : Cond.code yX4_setMind cX4_setMind 4 none ∈ xbig := xb_m 184 rfl rfl
set_option maxRecDepth 100000 in
theorem xb_195 : Cond.code yX4_begin cX4_begin 3 none ∈ xbig := xb_m 180 rfl rfl
theorem xb_196 : Cond.fieldLink RX4 18 "WalkingLaw$Walk" "passed" "[I" ∈ xbig := xb_m 190 (by decide +kernel) rfl
theorem xb_197 : Cond.fieldLink RX4 21 "WalkingLaw$Walk" "made" "[I" ∈ xbig := xb_m 193 (by decide +kernel) rfl
theorem xb_198 : Cond.methodLink RX4 44 yX4_setMind ∈ xbig := xb_m 181 (by decide +kernel) rfl
theorem xb_199 : Cond.instanceMethod yX4_setMind ∈ xbig := xb_m 182 (by decide +kernel) rfl
theorem xb_200 : Cond.selects RX4 yX4_setMind yX4_setMind ∈ xbig := xb_m 183 (by decide +kernel) rfl
set_option maxRecDepth 100000 in
theorem xb_201 : Cond.code yX4_init cX4_init 2 none ∈ xbig := xb_m 175 rfl rfl
theorem xb_202 : Cond.methodLink RX4 3 objectInit ∈ xbig := xb_m 176 (by decide +kernel) rfl
theorem xb_203 : Cond.methodLink RX4 24 yX4_begin ∈ xbig := xb_m 177 (by decide +kernel) rfl
theorem xb_204 : Cond.instanceMethod yX4_begin ∈ xbig := xb_m 178 (by decide +kernel) rfl
theorem xb_205 : Cond.selects RX4 yX4_begin yX4_begin ∈ xbig := xb_m 179 (by decide +kernel) rfl
set_option maxRecDepth 100000 in
theorem xb_206 : Cond.code yX4_become cX4_become 3 none ∈ xbig := xb_m 485 rfl rfl
set_option maxRecDepth 100000 in
theorem xb_207 : Cond.code yX4_mindOf cX4_mindOf 4 (some .int) ∈ xbig := xb_m 367 rfl rfl
set_option maxRecDepth 100000 in
theorem xb_208 : Cond.code yX4_arrived cX4_arrived 3 (some .int) ∈ xbig := xb_m 420 rfl rfl
theorem xb_209 : Cond.methodLink RX4 61 yX4_goHour ∈ xbig := xb_m 384 (by decide +kernel) rfl
set_option maxRecDepth 100000 in
theorem xb_210 : Cond.code yX4_goHours cX4_goHours 3 none ∈ xbig := xb_m 383 rfl rfl
set_option maxRecDepth 100000 in
theorem xb_211 : Cond.code yX4_yesIn cX4_yesIn 3 (some .int) ∈ xbig := xb_m 432 rfl rfl
set_option maxRecDepth 100000 in
theorem xb_212 : Cond.code yX4_noIn cX4_noIn 3 (some .int) ∈ xbig := xb_m 444 rfl rfl
theorem xb_213 : Cond.methodLink RX4 118 yX4_parishOf ∈ xbig := xb_m 461 (by decide +kernel) rfl
theorem xb_214 : Cond.methodLink RX4 121 yX4_passesIn ∈ xbig := xb_m 462 (by decide +kernel) rfl
set_option maxRecDepth 100000 in
theorem xb_215 : Cond.code yX4_readOut cX4_readOut 3 (some .boolean) ∈ xbig := xb_m 460 rfl rfl
theorem xb_216 : Cond.methodLink RX4 125 yX4_readOut ∈ xbig := xb_m 538 (by decide +kernel) rfl
theorem xb_217 : Cond.instanceMethod yX4_readOut ∈ xbig := xb_m 458 (by decide +kernel) rfl
theorem xb_218 : Cond.selects RX4 yX4_readOut yX4_readOut ∈ xbig := xb_m 459 (by decide +kernel) rfl
set_option maxRecDepth 100000 in
theorem xb_219 : Cond.code yX4_readAllFor cX4_readAllFor 4 none ∈ xbig := xb_m 537 rfl rfl
set_option maxRecDepth 100000 in
theorem xb_220 : Cond.code yX4_isHeld cX4_isHeld 2 (some .boolean) ∈ xbig := xb_m 470 rfl rfl
set_option maxRecDepth 100000 in
theorem xb_221 : Cond.code yX4_allHeld cX4_allHeld 3 (some .int) ∈ xbig := xb_m 542 rfl rfl
theorem xb_222 : Cond.methodLink RX4 129 yX4_isHeld ∈ xbig := xb_m 543 (by decide +kernel) rfl
theorem xb_223 : Cond.instanceMethod yX4_isHeld ∈ xbig := xb_m 468 (by decide +kernel) rfl
theorem xb_224 : Cond.selects RX4 yX4_isHeld yX4_isHeld ∈ xbig := xb_m 469 (by decide +kernel) rfl
theorem xb_225 : Cond.methodLink RX5 1 objectInit ∈ xbig := xb_m 70 (by decide +kernel) rfl
theorem xb_226 : Cond.classLink RX5 7 RX3 ∈ xbig := xb_m 73 (by decide +kernel) rfl
theorem xb_227 : Cond.instantiable RX3 3 ∈ xbig := xb_m 74 (by decide +kernel) rfl
theorem xb_228 : Cond.fieldLink RX5 10 "WalkingLaw" "text" "LWalkingLaw$Text;" ∈ xbig := xb_m 257 (by decide +kernel) rfl
theorem xb_229 : Cond.classLink RX5 16 RX1 ∈ xbig := xb_m 92 (by decide +kernel) rfl
theorem xb_230 : Cond.instantiable RX1 13 ∈ xbig := xb_m 93 (by decide +kernel) rfl
theorem xb_231 : Cond.fieldLink RX5 19 "WalkingLaw" "road" "LWalkingLaw$Road;" ∈ xbig := xb_m 258 (by decide +kernel) rfl
theorem xb_232 : Cond.fieldLink RX5 23 "WalkingLaw" "draft" "LWalkingLaw$Road;" ∈ xbig := xb_m 259 (by decide +kernel) rfl
theorem xb_233 : Cond.classLink RX5 33 RX4 ∈ xbig := xb_m 171 (by decide +kernel) rfl
theorem xb_234 : Cond.instantiable RX4 6 ∈ xbig := xb_m 172 (by decide +kernel) rfl
theorem xb_235 : Cond.fieldLink RX5 38 "WalkingLaw" "now" "LWalkingLaw$Walk;" ∈ xbig := xb_m 260 (by decide +kernel) rfl
theorem xb_236 : Cond.fieldLink RX5 42 "WalkingLaw" "trial" "LWalkingLaw$Walk;" ∈ xbig := xb_m 261 (by decide +kernel) rfl
theorem xb_237 : Cond.fieldLink RX5 45 "WalkingLaw" "kept" "[LWalkingLaw$Walk;" ∈ xbig := xb_m 262 (by decide +kernel) rfl
theorem xb_238 : Cond.fieldLink RX5 49 "WalkingLaw" "keptWalks" "I" ∈ xbig := xb_m 263 (by decide +kernel) rfl
theorem xb_239 : Cond.classLink RX5 53 RX0 ∈ xbig := xb_m 211 (by decide +kernel) rfl
theorem xb_240 : Cond.instantiable RX0 5 ∈ xbig := xb_m 212 (by decide +kernel) rfl
theorem xb_241 : Cond.fieldLink RX5 56 "WalkingLaw" "notes" "LWalkingLaw$Diary;" ∈ xbig := xb_m 264 (by decide +kernel) rfl
theorem xb_242 : Cond.classLink RX5 60 RX2 ∈ xbig := xb_m 234 (by decide +kernel) rfl
theorem xb_243 : Cond.instantiable RX2 4 ∈ xbig := xb_m 235 (by decide +kernel) rfl
theorem xb_244 : Cond.fieldLink RX5 63 "WalkingLaw" "rows" "LWalkingLaw$Rows;" ∈ xbig := xb_m 265 (by decide +kernel) rfl
theorem xb_245 : Cond.instanceMethod yX3_init ∈ xbig := xb_m 76 (by decide +kernel) rfl
theorem xb_246 : Cond.methodLink RX5 18 yX1_init ∈ xbig := xb_m 94 (by decide +kernel) rfl
theorem xb_247 : Cond.instanceMethod yX1_init ∈ xbig := xb_m 95 (by decide +kernel) rfl
theorem xb_248 : Cond.methodLink RX5 26 yX1_addParish ∈ xbig := xb_m 163 (by decide +kernel) rfl
theorem xb_249 : Cond.methodLink RX5 30 yX1_addMember ∈ xbig := xb_m 167 (by decide +kernel) rfl
theorem xb_250 : Cond.methodLink RX5 35 yX4_init ∈ xbig := xb_m 173 (by decide +kernel) rfl
theorem xb_251 : Cond.instanceMethod yX4_init ∈ xbig := xb_m 174 (by decide +kernel) rfl
theorem xb_252 : Cond.instanceMethod yX0_init ∈ xbig := xb_m 214 (by decide +kernel) rfl
theorem xb_253 : Cond.instanceMethod yX2_init ∈ xbig := xb_m 237 (by decide +kernel) rfl
set_option maxRecDepth 100000 in
theorem xb_254 : Cond.code yX5_init cX5_init 2 none ∈ xbig := xb_m 69 rfl rfl
set_option maxRecDepth 100000 in
theorem xb_255 : Cond.code yX5_write cX5_write 4 (some .int) ∈ xbig := xb_m 288 rfl rfl
theorem xb_256 : Cond.methodLink RX5 67 yX3_append ∈ xbig := xb_m 289 (by decide +kernel) rfl
theorem xb_257 : Cond.instanceMethod yX3_append ∈ xbig := xb_m 290 (by decide +kernel) rfl
theorem xb_258 : Cond.selects RX3 yX3_append yX3_append ∈ xbig := xb_m 291 (by decide +kernel) rfl
set_option maxRecDepth 100000 in
theorem xb_259 : Cond.code yX5_wipe cX5_wipe 2 (some .int) ∈ xbig := xb_m 296 rfl rfl
theorem xb_260 : Cond.methodLink RX5 74 yX3_tell ∈ xbig := xb_m 301 (by decide +kernel) rfl
theorem xb_261 : Cond.instanceMethod yX3_tell ∈ xbig := xb_m 302 (by decide +kernel) rfl
theorem xb_262 : Cond.selects RX3 yX3_tell yX3_tell ∈ xbig := xb_m 303 (by decide +kernel) rfl
set_option maxRecDepth 100000 in
theorem xb_263 : Cond.code yX5_fault cX5_fault 1 (some .int) ∈ xbig := xb_m 300 rfl rfl
theorem xb_264 : Cond.methodLink RX5 84 yX4_begin ∈ xbig := xb_m 343 (by decide +kernel) rfl
set_option maxRecDepth 100000 in
theorem xb_265 : Cond.code yX5_lay cX5_lay 2 (some .int) ∈ xbig := xb_m 342 rfl rfl
set_option maxRecDepth 100000 in
theorem xb_266 : Cond.code yX5_isParish cX5_isParish 2 (some .boolean) ∈ xbig := xb_m 351 rfl rfl
set_option maxRecDepth 100000 in
theorem xb_267 : Cond.code yX5_parish cX5_parish 3 (some .int) ∈ xbig := xb_m 347 rfl rfl
theorem xb_268 : Cond.methodLink RX5 90 yX5_isParish ∈ xbig := xb_m 348 (by decide +kernel) rfl
theorem xb_269 : Cond.instanceMethod yX5_isParish ∈ xbig := xb_m 350 (by decide +kernel) rfl
theorem xb_270 : Cond.selects RX5 yX5_isParish yX5_isParish ∈ xbig := xb_m 5 (by decide +kernel) rfl
theorem xb_271 : Cond.methodLink RX5 104 yX4_thoseIn ∈ xbig := xb_m 352 (by decide +kernel) rfl
set_option maxRecDepth 100000 in
theorem xb_272 : Cond.code yX5_isMember cX5_isMember 2 (some .boolean) ∈ xbig := xb_m 363 rfl rfl
theorem xb_273 : Cond.methodLink RX5 108 yX5_isMember ∈ xbig := xb_m 360 (by decide +kernel) rfl
theorem xb_274 : Cond.instanceMethod yX5_isMember ∈ xbig := xb_m 362 (by decide +kernel) rfl
theorem xb_275 : Cond.selects RX5 yX5_isMember yX5_isMember ∈ xbig := xb_m 6 (by decide +kernel) rfl
theorem xb_276 : Cond.methodLink RX5 117 yX4_mindOf ∈ xbig := xb_m 364 (by decide +kernel) rfl
theorem xb_277 : Cond.instanceMethod yX4_mindOf ∈ xbig := xb_m 365 (by decide +kernel) rfl
theorem xb_278 : Cond.selects RX4 yX4_mindOf yX4_mindOf ∈ xbig := xb_m 366 (by decide +kernel) rfl
theorem xb_279 : Cond.methodLink RX5 123 yX4_parishOf ∈ xbig := xb_m 368 (by decide +kernel) rfl
set_option maxRecDepth 100000 in
theorem xb_280 : Cond.code yX5_member cX5_member 3 (some .int) ∈ xbig := xb_m 359 rfl rfl
theorem xb_281 : Cond.methodLink RX5 129 yX4_goHours ∈ xbig := xb_m 380 (by decide +kernel) rfl
theorem xb_282 : Cond.instanceMethod yX4_goHours ∈ xbig := xb_m 381 (by decide +kernel) rfl
theorem xb_283 : Cond.selects RX4 yX4_goHours yX4_goHours ∈ xbig := xb_m 382 (by decide +kernel) rfl
theorem xb_284 : Cond.methodLink RX5 133 yX4_arrived ∈ xbig := xb_m 417 (by decide +kernel) rfl
theorem xb_285 : Cond.instanceMethod yX4_arrived ∈ xbig := xb_m 418 (by decide +kernel) rfl
theorem xb_286 : Cond.selects RX4 yX4_arrived yX4_arrived ∈ xbig := xb_m 419 (by decide +kernel) rfl
set_option maxRecDepth 100000 in
theorem xb_287 : Cond.code yX5_hours cX5_hours 2 (some .int) ∈ xbig := xb_m 379 rfl rfl
set_option maxRecDepth 100000 in
theorem xb_288 : Cond.code yX5_isBill cX5_isBill 2 (some .boolean) ∈ xbig := xb_m 428 rfl rfl
theorem xb_289 : Cond.methodLink RX5 137 yX5_isBill ∈ xbig := xb_m 425 (by decide +kernel) rfl
theorem xb_290 : Cond.instanceMethod yX5_isBill ∈ xbig := xb_m 427 (by decide +kernel) rfl
theorem xb_291 : Cond.selects RX5 yX5_isBill yX5_isBill ∈ xbig := xb_m 9 (by decide +kernel) rfl
theorem xb_292 : Cond.methodLink RX5 140 yX4_yesIn ∈ xbig := xb_m 429 (by decide +kernel) rfl
theorem xb_293 : Cond.instanceMethod yX4_yesIn ∈ xbig := xb_m 430 (by decide +kernel) rfl
theorem xb_294 : Cond.selects RX4 yX4_yesIn yX4_yesIn ∈ xbig := xb_m 431 (by decide +kernel) rfl
theorem xb_295 : Cond.methodLink RX5 144 yX4_noIn ∈ xbig := xb_m 441 (by decide +kernel) rfl
theorem xb_296 : Cond.instanceMethod yX4_noIn ∈ xbig := xb_m 442 (by decide +kernel) rfl
theorem xb_297 : Cond.selects RX4 yX4_noIn yX4_noIn ∈ xbig := xb_m 443 (by decide +kernel) rfl
theorem xb_298 : Cond.methodLink RX5 147 yX4_passesIn ∈ xbig := xb_m 449 (by decide +kernel) rfl
set_option maxRecDepth 100000 in
theorem xb_299 : Cond.code yX5_voices cX5_voices 4 (some .int) ∈ xbig := xb_m 424 rfl rfl
theorem xb_300 : Cond.methodLink RX5 150 yX4_readOut ∈ xbig := xb_m 457 (by decide +kernel) rfl
set_option maxRecDepth 100000 in
theorem xb_301 : Cond.code yX5_read cX5_read 2 (some .int) ∈ xbig := xb_m 456 rfl rfl
set_option maxRecDepth 100000 in
theorem xb_302 : Cond.code yX5_bill cX5_bill 3 (some .int) ∈ xbig := xb_m 466 rfl rfl
theorem xb_303 : Cond.methodLink RX5 156 yX4_isHeld ∈ xbig := xb_m 467 (by decide +kernel) rfl
set_option maxRecDepth 100000 in
theorem xb_304 : Cond.code yX5_isAhead cX5_isAhead 1 (some .boolean) ∈ xbig := xb_m 477 rfl rfl
theorem xb_305 : Cond.methodLink RX5 211 yX4_become ∈ xbig := xb_m 482 (by decide +kernel) rfl
theorem xb_306 : Cond.instanceMethod yX4_become ∈ xbig := xb_m 483 (by decide +kernel) rfl
theorem xb_307 : Cond.selects RX4 yX4_become yX4_become ∈ xbig := xb_m 484 (by decide +kernel) rfl
set_option maxRecDepth 100000 in
theorem xb_308 : Cond.code yX5_lookAhead cX5_lookAhead 2 none ∈ xbig := xb_m 481 rfl rfl
theorem xb_309 : Cond.methodLink RX5 162 yX5_isAhead ∈ xbig := xb_m 475 (by decide +kernel) rfl
theorem xb_310 : Cond.static yX5_isAhead ∈ xbig := xb_m 476 (by decide +kernel) rfl
theorem xb_311 : Cond.methodLink RX5 165 yX5_lookAhead ∈ xbig := xb_m 478 (by decide +kernel) rfl
theorem xb_312 : Cond.instanceMethod yX5_lookAhead ∈ xbig := xb_m 480 (by decide +kernel) rfl
theorem xb_313 : Cond.selects RX5 yX5_lookAhead yX5_lookAhead ∈ xbig := xb_m 12 (by decide +kernel) rfl
set_option maxRecDepth 100000 in
theorem xb_314 : Cond.code yX5_mile cX5_mile 3 (some .int) ∈ xbig := xb_m 474 rfl rfl
set_option maxRecDepth 100000 in
theorem xb_315 : Cond.code yX5_who cX5_who 3 (some .int) ∈ xbig := xb_m 489 rfl rfl
theorem xb_316 : Cond.methodLink RX5 168 yX4_goHour ∈ xbig := xb_m 494 (by decide +kernel) rfl
set_option maxRecDepth 100000 in
theorem xb_317 : Cond.code yX5_arrives cX5_arrives 2 (some .int) ∈ xbig := xb_m 493 rfl rfl
set_option maxRecDepth 100000 in
theorem xb_318 : Cond.code yX5_would cX5_would 3 (some .int) ∈ xbig := xb_m 498 rfl rfl
theorem xb_319 : Cond.methodLink RX5 171 yX2_weigh ∈ xbig := xb_m 503 (by decide +kernel) rfl
theorem xb_320 : Cond.instanceMethod yX2_weigh ∈ xbig := xb_m 504 (by decide +kernel) rfl
theorem xb_321 : Cond.selects RX2 yX2_weigh yX2_weigh ∈ xbig := xb_m 505 (by decide +kernel) rfl
set_option maxRecDepth 100000 in
theorem xb_322 : Cond.code yX5_order cX5_order 2 (some .int) ∈ xbig := xb_m 502 rfl rfl
theorem xb_323 : Cond.methodLink RX5 223 yX4_readAllFor ∈ xbig := xb_m 534 (by decide +kernel) rfl
theorem xb_324 : Cond.instanceMethod yX4_readAllFor ∈ xbig := xb_m 535 (by decide +kernel) rfl
theorem xb_325 : Cond.selects RX4 yX4_readAllFor yX4_readAllFor ∈ xbig := xb_m 536 (by decide +kernel) rfl
theorem xb_326 : Cond.methodLink RX5 226 yX4_allHeld ∈ xbig := xb_m 539 (by decide +kernel) rfl
theorem xb_327 : Cond.instanceMethod yX4_allHeld ∈ xbig := xb_m 540 (by decide +kernel) rfl
theorem xb_328 : Cond.selects RX4 yX4_allHeld yX4_allHeld ∈ xbig := xb_m 541 (by decide +kernel) rfl
set_option maxRecDepth 100000 in
theorem xb_329 : Cond.code yX5_heldAhead cX5_heldAhead 2 (some .int) ∈ xbig := xb_m 533 rfl rfl
theorem xb_330 : Cond.methodLink RX5 181 yX5_heldAhead ∈ xbig := xb_m 530 (by decide +kernel) rfl
theorem xb_331 : Cond.instanceMethod yX5_heldAhead ∈ xbig := xb_m 532 (by decide +kernel) rfl
theorem xb_332 : Cond.selects RX5 yX5_heldAhead yX5_heldAhead ∈ xbig := xb_m 17 (by decide +kernel) rfl
theorem xb_333 : Cond.methodLink RX5 184 yJ6_bitCount_0f7a4 ∈ xbig := xb_m 544 (by decide +kernel) rfl
set_option maxRecDepth 100000 in
theorem xb_334 : Cond.code yX5_back cX5_back 5 (some .int) ∈ xbig := xb_m 529 rfl rfl
set_option maxRecDepth 100000 in
theorem xb_335 : Cond.code yX5_isParty cX5_isParty 4 (some .boolean) ∈ xbig := xb_m 556 rfl rfl
theorem xb_336 : Cond.methodLink RX5 189 yX1_paceOf ∈ xbig := xb_m 549 (by decide +kernel) rfl
theorem xb_337 : Cond.instanceMethod yX1_paceOf ∈ xbig := xb_m 550 (by decide +kernel) rfl
theorem xb_338 : Cond.selects RX1 yX1_paceOf yX1_paceOf ∈ xbig := xb_m 551 (by decide +kernel) rfl
theorem xb_339 : Cond.methodLink RX5 229 yX1_slowestOf ∈ xbig := xb_m 557 (by decide +kernel) rfl
theorem xb_340 : Cond.instanceMethod yX1_slowestOf ∈ xbig := xb_m 558 (by decide +kernel) rfl
theorem xb_341 : Cond.selects RX1 yX1_slowestOf yX1_slowestOf ∈ xbig := xb_m 559 (by decide +kernel) rfl
theorem xb_342 : Cond.methodLink RX5 192 yX5_isParty ∈ xbig := xb_m 553 (by decide +kernel) rfl
theorem xb_343 : Cond.instanceMethod yX5_isParty ∈ xbig := xb_m 555 (by decide +kernel) rfl
theorem xb_344 : Cond.selects RX5 yX5_isParty yX5_isParty ∈ xbig := xb_m 18 (by decide +kernel) rfl
set_option maxRecDepth 100000 in
theorem xb_345 : Cond.code yX5_parties cX5_parties 8 (some .int) ∈ xbig := xb_m 548 rfl rfl
set_option maxRecDepth 100000 in
theorem xb_346 : Cond.code yX5_join cX5_join 4 (some .int) ∈ xbig := xb_m 565 rfl rfl
set_option maxRecDepth 100000 in
theorem xb_347 : Cond.code yX5_diary cX5_diary 4 (some .int) ∈ xbig := xb_m 569 rfl rfl
theorem xb_348 : Cond.methodLink RX5 196 yX0_append ∈ xbig := xb_m 570 (by decide +kernel) rfl
theorem xb_349 : Cond.instanceMethod yX0_append ∈ xbig := xb_m 571 (by decide +kernel) rfl
theorem xb_350 : Cond.selects RX0 yX0_append yX0_append ∈ xbig := xb_m 572 (by decide +kernel) rfl
set_option maxRecDepth 100000 in
theorem xb_351 : Cond.code yX5_noDiary cX5_noDiary 2 (some .int) ∈ xbig := xb_m 577 rfl rfl
theorem xb_352 : Cond.methodLink RX5 198 yX0_falseLines ∈ xbig := xb_m 582 (by decide +kernel) rfl
theorem xb_353 : Cond.instanceMethod yX0_falseLines ∈ xbig := xb_m 583 (by decide +kernel) rfl
theorem xb_354 : Cond.selects RX0 yX0_falseLines yX0_falseLines ∈ xbig := xb_m 584 (by decide +kernel) rfl
set_option maxRecDepth 100000 in
theorem xb_355 : Cond.code yX5_wrong cX5_wrong 1 (some .int) ∈ xbig := xb_m 581 rfl rfl
theorem xb_356 : Cond.methodLink RX5 202 yX0_bestDelay ∈ xbig := xb_m 596 (by decide +kernel) rfl
theorem xb_357 : Cond.instanceMethod yX0_bestDelay ∈ xbig := xb_m 597 (by decide +kernel) rfl
theorem xb_358 : Cond.selects RX0 yX0_bestDelay yX0_bestDelay ∈ xbig := xb_m 598 (by decide +kernel) rfl
set_option maxRecDepth 100000 in
theorem xb_359 : Cond.code yX5_late cX5_late 1 (some .int) ∈ xbig := xb_m 595 rfl rfl
set_option maxRecDepth 100000 in
theorem xb_360 : Cond.code yX5_isYear cX5_isYear 1 (some .boolean) ∈ xbig := xb_m 618 rfl rfl
set_option maxRecDepth 100000 in
theorem xb_361 : Cond.code yX5_drawnMind cX5_drawnMind 4 (some .int) ∈ xbig := xb_m 625 rfl rfl
theorem xb_362 : Cond.constantLong RX5 239 (7919) ∈ xbig := xb_m 626 (by decide +kernel) rfl
theorem xb_363 : Cond.constantLong RX5 241 (6151) ∈ xbig := xb_m 627 (by decide +kernel) rfl
theorem xb_364 : Cond.constantLong RX5 243 (65521) ∈ xbig := xb_m 628 (by decide +kernel) rfl
theorem xb_365 : Cond.constantLong RX5 245 (16) ∈ xbig := xb_m 629 (by decide +kernel) rfl
theorem xb_366 : Cond.methodLink RX5 232 yX5_drawnMind ∈ xbig := xb_m 623 (by decide +kernel) rfl
theorem xb_367 : Cond.static yX5_drawnMind ∈ xbig := xb_m 624 (by decide +kernel) rfl
theorem xb_368 : Cond.methodLink RX5 235 yX4_setMind ∈ xbig := xb_m 630 (by decide +kernel) rfl
set_option maxRecDepth 100000 in
theorem xb_369 : Cond.code yX5_heldInYear cX5_heldInYear 3 (some .int) ∈ xbig := xb_m 622 rfl rfl
theorem xb_370 : Cond.methodLink RX5 205 yX5_isYear ∈ xbig := xb_m 616 (by decide +kernel) rfl
theorem xb_371 : Cond.static yX5_isYear ∈ xbig := xb_m 617 (by decide +kernel) rfl
theorem xb_372 : Cond.methodLink RX5 208 yX5_heldInYear ∈ xbig := xb_m 619 (by decide +kernel) rfl
theorem xb_373 : Cond.instanceMethod yX5_heldInYear ∈ xbig := xb_m 621 (by decide +kernel) rfl
theorem xb_374 : Cond.selects RX5 yX5_heldInYear yX5_heldInYear ∈ xbig := xb_m 22 (by decide +kernel) rfl
set_option maxRecDepth 100000 in
theorem xb_375 : Cond.code yX5_year cX5_year 2 (some .int) ∈ xbig := xb_m 615 rfl rfl
set_option maxRecDepth 100000 in
theorem xb_376 : Cond.code yX5_ten cX5_ten 5 (some .int) ∈ xbig := xb_m 634 rfl rfl
set_option maxRecDepth 100000 in
theorem xb_377 : Cond.code yX5_keep cX5_keep 1 (some .int) ∈ xbig := xb_m 638 rfl rfl
set_option maxRecDepth 100000 in
theorem xb_378 : Cond.code yX5_again cX5_again 1 (some .int) ∈ xbig := xb_m 642 rfl rfl
set_option maxRecDepth 100000 in
theorem xb_379 : Cond.code yX5_count cX5_count 2 (some .int) ∈ xbig := xb_m 646 rfl rfl
set_option maxRecDepth 100000 in
theorem xb_380 : Cond.code yX6_begins cX6_begins 1 none ∈ xbig := xb_m 656 rfl rfl
theorem xb_381 : Cond.fieldLink RX6 17 "WalkingLawModel" "parishes" "[I" ∈ xbig := xb_m 669 (by decide +kernel) rfl
theorem xb_382 : Cond.fieldLink RX6 23 "WalkingLawModel" "members" "[I" ∈ xbig := xb_m 671 (by decide +kernel) rfl
theorem xb_383 : Cond.fieldLink RX6 13 "WalkingLawModel" "told" "[I" ∈ xbig := xb_m 668 (by decide +kernel) rfl
set_option maxRecDepth 100000 in
theorem xb_384 : Cond.code yX6_laid cX6_laid 3 none ∈ xbig := xb_m 664 rfl rfl
theorem xb_385 : Cond.fieldLink RX6 29 "WalkingLawModel" "slot" "[I" ∈ xbig := xb_m 673 (by decide +kernel) rfl
theorem xb_386 : Cond.fieldLink RX6 26 "WalkingLawModel" "member" "[I" ∈ xbig := xb_m 672 (by decide +kernel) rfl
set_option maxRecDepth 100000 in
theorem xb_387 : Cond.code yX6_takes cX6_takes 2 none ∈ xbig := xb_m 660 rfl rfl
theorem xb_388 : Cond.fieldLink RX6 20 "WalkingLawModel" "parish" "[I" ∈ xbig := xb_m 670 (by decide +kernel) rfl
theorem xb_389 : Cond.fieldLink RX6 89 "WalkingLawModel" "lines" "I" ∈ xbig := xb_m 675 (by decide +kernel) rfl
theorem xb_390 : Cond.fieldLink RX6 92 "WalkingLawModel" "kept" "I" ∈ xbig := xb_m 674 (by decide +kernel) rfl
theorem xb_391 : Cond.methodLink RX6 85 yX6_laid ∈ xbig := xb_m 661 (by decide +kernel) rfl
theorem xb_392 : Cond.instanceMethod yX6_laid ∈ xbig := xb_m 663 (by decide +kernel) rfl
theorem xb_393 : Cond.selects RX6 yX6_laid yX6_laid ∈ xbig := xb_m 25 (by decide +kernel) rfl
theorem xb_394 : Cond.initialized RX6 ∈ xbig := xb_m 62 (by decide +kernel) rfl
theorem xb_395 : Cond.methodLink RX6 1 objectInit ∈ xbig := xb_m 652 (by decide +kernel) rfl
theorem xb_396 : Cond.fieldLink RX6 7 "WalkingLawModel" "text" "[B" ∈ xbig := xb_m 666 (by decide +kernel) rfl
theorem xb_397 : Cond.fieldLink RX6 32 "WalkingLawModel" "line" "[I" ∈ xbig := xb_m 676 (by decide +kernel) rfl
theorem xb_398 : Cond.fieldLink RX6 35 "WalkingLawModel" "so" "[Z" ∈ xbig := xb_m 677 (by decide +kernel) rfl
theorem xb_399 : Cond.fieldLink RX6 39 "WalkingLawModel" "row" "[I" ∈ xbig := xb_m 678 (by decide +kernel) rfl
theorem xb_400 : Cond.fieldLink RX6 42 "WalkingLawModel" "best" "[I" ∈ xbig := xb_m 679 (by decide +kernel) rfl
theorem xb_401 : Cond.fieldLink RX6 45 "WalkingLawModel" "got" "[I" ∈ xbig := xb_m 681 (by decide +kernel) rfl
theorem xb_402 : Cond.methodLink RX6 48 yX6_begins ∈ xbig := xb_m 653 (by decide +kernel) rfl
theorem xb_403 : Cond.instanceMethod yX6_begins ∈ xbig := xb_m 655 (by decide +kernel) rfl
theorem xb_404 : Cond.selects RX6 yX6_begins yX6_begins ∈ xbig := xb_m 23 (by decide +kernel) rfl
theorem xb_405 : Cond.methodLink RX6 51 yX6_takes ∈ xbig := xb_m 657 (by decide +kernel) rfl
theorem xb_406 : Cond.instanceMethod yX6_takes ∈ xbig := xb_m 659 (by decide +kernel) rfl
theorem xb_407 : Cond.selects RX6 yX6_takes yX6_takes ∈ xbig := xb_m 24 (by decide +kernel) rfl
set_option maxRecDepth 100000 in
theorem xb_408 : Cond.code yX6_init cX6_init 1 none ∈ xbig := xb_m 651 rfl rfl
set_option maxRecDepth 100000 in
theorem xb_409 : Cond.code yX6_in cX6_in 6 (some .boolean) ∈ xbig := xb_m 731 rfl rfl
set_option maxRecDepth 100000 in
theorem xb_410 : Cond.code yX6_write cX6_write 5 (some .int) ∈ xbig := xb_m 727 rfl rfl
theorem xb_411 : Cond.constantLong RX6 54 (8) ∈ xbig := xb_m 728 (by decide +kernel) rfl
theorem xb_412 : Cond.fieldLink RX6 60 "WalkingLawModel" "length" "I" ∈ xbig := xb_m 665 (by decide +kernel) rfl
theorem xb_413 : Cond.methodLink RX6 56 yX6_in ∈ xbig := xb_m 729 (by decide +kernel) rfl
theorem xb_414 : Cond.static yX6_in ∈ xbig := xb_m 730 (by decide +kernel) rfl
set_option maxRecDepth 100000 in
theorem xb_415 : Cond.code yX6_wipe cX6_wipe 2 (some .int) ∈ xbig := xb_m 735 rfl rfl
set_option maxRecDepth 100000 in
theorem xb_416 : Cond.code yX6_number cX6_number 3 (some .int) ∈ xbig := xb_m 747 rfl rfl
theorem xb_417 : Cond.fieldLink RX6 64 "WalkingLawModel" "at" "I" ∈ xbig := xb_m 667 (by decide +kernel) rfl
theorem xb_418 : Cond.constantLong RX6 67 (48) ∈ xbig := xb_m 748 (by decide +kernel) rfl
theorem xb_419 : Cond.constantLong RX6 69 (57) ∈ xbig := xb_m 749 (by decide +kernel) rfl
theorem xb_420 : Cond.constantLong RX6 71 (2) ∈ xbig := xb_m 750 (by decide +kernel) rfl
set_option maxRecDepth 100000 in
theorem xb_421 : Cond.code yX6_isIn cX6_isIn 4 (some .boolean) ∈ xbig := xb_m 758 rfl rfl
set_option maxRecDepth 100000 in
theorem xb_422 : Cond.code yX6_isGood cX6_isGood 4 (some .boolean) ∈ xbig := xb_m 754 rfl rfl
theorem xb_423 : Cond.methodLink RX6 81 yX6_isIn ∈ xbig := xb_m 755 (by decide +kernel) rfl
theorem xb_424 : Cond.instanceMethod yX6_isIn ∈ xbig := xb_m 757 (by decide +kernel) rfl
theorem xb_425 : Cond.selects RX6 yX6_isIn yX6_isIn ∈ xbig := xb_m 29 (by decide +kernel) rfl
theorem xb_426 : Cond.methodLink RX6 73 yX6_number ∈ xbig := xb_m 744 (by decide +kernel) rfl
theorem xb_427 : Cond.instanceMethod yX6_number ∈ xbig := xb_m 746 (by decide +kernel) rfl
theorem xb_428 : Cond.selects RX6 yX6_number yX6_number ∈ xbig := xb_m 27 (by decide +kernel) rfl
theorem xb_429 : Cond.methodLink RX6 77 yX6_isGood ∈ xbig := xb_m 751 (by decide +kernel) rfl
theorem xb_430 : Cond.instanceMethod yX6_isGood ∈ xbig := xb_m 753 (by decide +kernel) rfl
theorem xb_431 : Cond.selects RX6 yX6_isGood yX6_isGood ∈ xbig := xb_m 28 (by decide +kernel) rfl
set_option maxRecDepth 100000 in
theorem xb_432 : Cond.code yX6_isItem cX6_isItem 5 (some .boolean) ∈ xbig := xb_m 743 rfl rfl
theorem xb_433 : Cond.methodLink RX6 95 yX6_isItem ∈ xbig := xb_m 740 (by decide +kernel) rfl
theorem xb_434 : Cond.instanceMethod yX6_isItem ∈ xbig := xb_m 742 (by decide +kernel) rfl
theorem xb_435 : Cond.selects RX6 yX6_isItem yX6_isItem ∈ xbig := xb_m 26 (by decide +kernel) rfl
set_option maxRecDepth 100000 in
theorem xb_436 : Cond.code yX6_fault cX6_fault 2 (some .int) ∈ xbig := xb_m 739 rfl rfl
theorem xb_437 : Cond.methodLink RX6 99 yX6_fault ∈ xbig := xb_m 763 (by decide +kernel) rfl
theorem xb_438 : Cond.instanceMethod yX6_fault ∈ xbig := xb_m 737 (by decide +kernel) rfl
theorem xb_439 : Cond.selects RX6 yX6_fault yX6_fault ∈ xbig := xb_m 738 (by decide +kernel) rfl
set_option maxRecDepth 100000 in
theorem xb_440 : Cond.code yX6_lay cX6_lay 1 (some .int) ∈ xbig := xb_m 762 rfl rfl
set_option maxRecDepth 100000 in
theorem xb_441 : Cond.code yX6_isParish cX6_isParish 2 (some .boolean) ∈ xbig := xb_m 771 rfl rfl
set_option maxRecDepth 100000 in
theorem xb_442 : Cond.code yX6_isMember cX6_isMember 2 (some .boolean) ∈ xbig := xb_m 792 rfl rfl
set_option maxRecDepth 100000 in
theorem xb_443 : Cond.code yX6_isBill cX6_isBill 2 (some .boolean) ∈ xbig := xb_m 833 rfl rfl
set_option maxRecDepth 100000 in
theorem xb_444 : Cond.code yX6_begin cX6_begin 4 (some .int) ∈ xbig := xb_m 784 rfl rfl
set_option maxRecDepth 100000 in
theorem xb_445 : Cond.code yX6_end cX6_end 1 (some .int) ∈ xbig := xb_m 806 rfl rfl
theorem xb_446 : Cond.methodLink RX6 102 yX6_begin ∈ xbig := xb_m 781 (by decide +kernel) rfl
theorem xb_447 : Cond.instanceMethod yX6_begin ∈ xbig := xb_m 783 (by decide +kernel) rfl
theorem xb_448 : Cond.selects RX6 yX6_begin yX6_begin ∈ xbig := xb_m 33 (by decide +kernel) rfl
set_option maxRecDepth 100000 in
theorem xb_449 : Cond.code yX6_parishOf cX6_parishOf 3 (some .int) ∈ xbig := xb_m 780 rfl rfl
set_option maxRecDepth 100000 in
theorem xb_450 : Cond.code yX6_there cX6_there 5 (some .int) ∈ xbig := xb_m 776 rfl rfl
theorem xb_451 : Cond.methodLink RX6 106 yX6_parishOf ∈ xbig := xb_m 777 (by decide +kernel) rfl
theorem xb_452 : Cond.instanceMethod yX6_parishOf ∈ xbig := xb_m 779 (by decide +kernel) rfl
theorem xb_453 : Cond.selects RX6 yX6_parishOf yX6_parishOf ∈ xbig := xb_m 32 (by decide +kernel) rfl
set_option maxRecDepth 100000 in
theorem xb_454 : Cond.code yX6_many cX6_many 3 (some .int) ∈ xbig := xb_m 817 rfl rfl
theorem xb_455 : Cond.constantLong RX6 112 (3) ∈ xbig := xb_m 772 (by decide +kernel) rfl
theorem xb_456 : Cond.methodLink RX6 109 yX6_isParish ∈ xbig := xb_m 768 (by decide +kernel) rfl
theorem xb_457 : Cond.instanceMethod yX6_isParish ∈ xbig := xb_m 770 (by decide +kernel) rfl
theorem xb_458 : Cond.selects RX6 yX6_isParish yX6_isParish ∈ xbig := xb_m 30 (by decide +kernel) rfl
theorem xb_459 : Cond.methodLink RX6 114 yX6_there ∈ xbig := xb_m 773 (by decide +kernel) rfl
theorem xb_460 : Cond.instanceMethod yX6_there ∈ xbig := xb_m 775 (by decide +kernel) rfl
theorem xb_461 : Cond.selects RX6 yX6_there yX6_there ∈ xbig := xb_m 31 (by decide +kernel) rfl
set_option maxRecDepth 100000 in
theorem xb_462 : Cond.code yX6_parish cX6_parish 3 (some .int) ∈ xbig := xb_m 767 rfl rfl
set_option maxRecDepth 100000 in
theorem xb_463 : Cond.code yX6_member cX6_member 3 (some .int) ∈ xbig := xb_m 788 rfl rfl
theorem xb_464 : Cond.constantLong RX6 121 (4) ∈ xbig := xb_m 793 (by decide +kernel) rfl
theorem xb_465 : Cond.methodLink RX6 118 yX6_isMember ∈ xbig := xb_m 789 (by decide +kernel) rfl
theorem xb_466 : Cond.instanceMethod yX6_isMember ∈ xbig := xb_m 791 (by decide +kernel) rfl
theorem xb_467 : Cond.selects RX6 yX6_isMember yX6_isMember ∈ xbig := xb_m 34 (by decide +kernel) rfl
set_option maxRecDepth 100000 in
theorem xb_468 : Cond.code yX6_pace cX6_pace 6 (some .int) ∈ xbig := xb_m 810 rfl rfl
set_option maxRecDepth 100000 in
theorem xb_469 : Cond.code yX6_beds cX6_beds 6 none ∈ xbig := xb_m 814 rfl rfl
theorem xb_470 : Cond.methodLink RX6 135 yX6_many ∈ xbig := xb_m 815 (by decide +kernel) rfl
theorem xb_471 : Cond.static yX6_many ∈ xbig := xb_m 816 (by decide +kernel) rfl
set_option maxRecDepth 100000 in
theorem xb_472 : Cond.code yX6_minds cX6_minds 9 none ∈ xbig := xb_m 821 rfl rfl
theorem xb_473 : Cond.methodLink RX6 123 yX6_end ∈ xbig := xb_m 803 (by decide +kernel) rfl
theorem xb_474 : Cond.instanceMethod yX6_end ∈ xbig := xb_m 805 (by decide +kernel) rfl
theorem xb_475 : Cond.selects RX6 yX6_end yX6_end ∈ xbig := xb_m 36 (by decide +kernel) rfl
theorem xb_476 : Cond.methodLink RX6 126 yX6_pace ∈ xbig := xb_m 807 (by decide +kernel) rfl
theorem xb_477 : Cond.instanceMethod yX6_pace ∈ xbig := xb_m 809 (by decide +kernel) rfl
theorem xb_478 : Cond.selects RX6 yX6_pace yX6_pace ∈ xbig := xb_m 37 (by decide +kernel) rfl
theorem xb_479 : Cond.methodLink RX6 129 yX6_beds ∈ xbig := xb_m 811 (by decide +kernel) rfl
theorem xb_480 : Cond.instanceMethod yX6_beds ∈ xbig := xb_m 813 (by decide +kernel) rfl
theorem xb_481 : Cond.selects RX6 yX6_beds yX6_beds ∈ xbig := xb_m 38 (by decide +kernel) rfl
theorem xb_482 : Cond.methodLink RX6 132 yX6_minds ∈ xbig := xb_m 818 (by decide +kernel) rfl
theorem xb_483 : Cond.instanceMethod yX6_minds ∈ xbig := xb_m 820 (by decide +kernel) rfl
theorem xb_484 : Cond.selects RX6 yX6_minds yX6_minds ∈ xbig := xb_m 39 (by decide +kernel) rfl
set_option maxRecDepth 100000 in
theorem xb_485 : Cond.code yX6_hour cX6_hour 6 none ∈ xbig := xb_m 802 rfl rfl
set_option maxRecDepth 100000 in
theorem xb_486 : Cond.code yX6_atEnd cX6_atEnd 4 (some .int) ∈ xbig := xb_m 825 rfl rfl
theorem xb_487 : Cond.constantLong RX6 138 (99) ∈ xbig := xb_m 798 (by decide +kernel) rfl
theorem xb_488 : Cond.methodLink RX6 140 yX6_hour ∈ xbig := xb_m 799 (by decide +kernel) rfl
theorem xb_489 : Cond.instanceMethod yX6_hour ∈ xbig := xb_m 801 (by decide +kernel) rfl
theorem xb_490 : Cond.selects RX6 yX6_hour yX6_hour ∈ xbig := xb_m 35 (by decide +kernel) rfl
theorem xb_491 : Cond.methodLink RX6 144 yX6_atEnd ∈ xbig := xb_m 822 (by decide +kernel) rfl
theorem xb_492 : Cond.instanceMethod yX6_atEnd ∈ xbig := xb_m 824 (by decide +kernel) rfl
theorem xb_493 : Cond.selects RX6 yX6_atEnd yX6_atEnd ∈ xbig := xb_m 40 (by decide +kernel) rfl
set_option maxRecDepth 100000 in
theorem xb_494 : Cond.code yX6_hours cX6_hours 3 (some .int) ∈ xbig := xb_m 797 rfl rfl
set_option maxRecDepth 100000 in
theorem xb_495 : Cond.code yX6_passes cX6_passes 10 (some .boolean) ∈ xbig := xb_m 837 rfl rfl
theorem xb_496 : Cond.fieldLink RX6 147 "WalkingLawModel" "yeses" "I" ∈ xbig := xb_m 682 (by decide +kernel) rfl
theorem xb_497 : Cond.fieldLink RX6 150 "WalkingLawModel" "noes" "I" ∈ xbig := xb_m 683 (by decide +kernel) rfl
theorem xb_498 : Cond.methodLink RX6 153 yX6_isBill ∈ xbig := xb_m 830 (by decide +kernel) rfl
theorem xb_499 : Cond.instanceMethod yX6_isBill ∈ xbig := xb_m 832 (by decide +kernel) rfl
theorem xb_500 : Cond.selects RX6 yX6_isBill yX6_isBill ∈ xbig := xb_m 41 (by decide +kernel) rfl
theorem xb_501 : Cond.methodLink RX6 156 yX6_passes ∈ xbig := xb_m 834 (by decide +kernel) rfl
theorem xb_502 : Cond.instanceMethod yX6_passes ∈ xbig := xb_m 836 (by decide +kernel) rfl
theorem xb_503 : Cond.selects RX6 yX6_passes yX6_passes ∈ xbig := xb_m 42 (by decide +kernel) rfl
set_option maxRecDepth 100000 in
theorem xb_504 : Cond.code yX6_voices cX6_voices 5 (some .int) ∈ xbig := xb_m 829 rfl rfl
set_option maxRecDepth 100000 in
theorem xb_505 : Cond.code yX6_isRead cX6_isRead 4 (some .boolean) ∈ xbig := xb_m 845 rfl rfl
set_option maxRecDepth 100000 in
theorem xb_506 : Cond.code yX6_isHeld cX6_isHeld 3 (some .boolean) ∈ xbig := xb_m 853 rfl rfl
theorem xb_507 : Cond.methodLink RX6 160 yX6_isRead ∈ xbig := xb_m 842 (by decide +kernel) rfl
theorem xb_508 : Cond.instanceMethod yX6_isRead ∈ xbig := xb_m 844 (by decide +kernel) rfl
theorem xb_509 : Cond.selects RX6 yX6_isRead yX6_isRead ∈ xbig := xb_m 43 (by decide +kernel) rfl
set_option maxRecDepth 100000 in
theorem xb_510 : Cond.code yX6_read cX6_read 2 (some .int) ∈ xbig := xb_m 841 rfl rfl
set_option maxRecDepth 100000 in
theorem xb_511 : Cond.code yX6_bill cX6_bill 3 (some .int) ∈ xbig := xb_m 849 rfl rfl
theorem xb_512 : Cond.methodLink RX6 164 yX6_isHeld ∈ xbig := xb_m 850 (by decide +kernel) rfl
theorem xb_513 : Cond.instanceMethod yX6_isHeld ∈ xbig := xb_m 852 (by decide +kernel) rfl
theorem xb_514 : Cond.selects RX6 yX6_isHeld yX6_isHeld ∈ xbig := xb_m 44 (by decide +kernel) rfl
set_option maxRecDepth 100000 in
theorem xb_515 : Cond.code yX6_copies cX6_copies 4 none ∈ xbig := xb_m 869 rfl rfl
theorem xb_516 : Cond.methodLink RX6 167 yX6_copies ∈ xbig := xb_m 866 (by decide +kernel) rfl
theorem xb_517 : Cond.instanceMethod yX6_copies ∈ xbig := xb_m 868 (by decide +kernel) rfl
theorem xb_518 : Cond.selects RX6 yX6_copies yX6_copies ∈ xbig := xb_m 46 (by decide +kernel) rfl
set_option maxRecDepth 100000 in
theorem xb_519 : Cond.code yX6_tries cX6_tries 3 none ∈ xbig := xb_m 865 rfl rfl
set_option maxRecDepth 100000 in
theorem xb_520 : Cond.code yX6_isAhead cX6_isAhead 1 (some .boolean) ∈ xbig := xb_m 860 rfl rfl
theorem xb_521 : Cond.constantLong RX6 170 (400) ∈ xbig := xb_m 861 (by decide +kernel) rfl
theorem xb_522 : Cond.methodLink RX6 172 yX6_isAhead ∈ xbig := xb_m 858 (by decide +kernel) rfl
theorem xb_523 : Cond.static yX6_isAhead ∈ xbig := xb_m 859 (by decide +kernel) rfl
theorem xb_524 : Cond.methodLink RX6 175 yX6_tries ∈ xbig := xb_m 862 (by decide +kernel) rfl
theorem xb_525 : Cond.instanceMethod yX6_tries ∈ xbig := xb_m 864 (by decide +kernel) rfl
theorem xb_526 : Cond.selects RX6 yX6_tries yX6_tries ∈ xbig := xb_m 45 (by decide +kernel) rfl
set_option maxRecDepth 100000 in
theorem xb_527 : Cond.code yX6_mile cX6_mile 3 (some .int) ∈ xbig := xb_m 857 rfl rfl
set_option maxRecDepth 100000 in
theorem xb_528 : Cond.code yX6_who cX6_who 3 (some .int) ∈ xbig := xb_m 873 rfl rfl
set_option maxRecDepth 100000 in
theorem xb_529 : Cond.code yX6_arrives cX6_arrives 2 (some .int) ∈ xbig := xb_m 877 rfl rfl
set_option maxRecDepth 100000 in
theorem xb_530 : Cond.code yX6_would cX6_would 3 (some .int) ∈ xbig := xb_m 881 rfl rfl
set_option maxRecDepth 100000 in
theorem xb_531 : Cond.code yX6_holds cX6_holds 4 (some .int) ∈ xbig := xb_m 890 rfl rfl
theorem xb_532 : Cond.constantLong RX6 178 (-1) ∈ xbig := xb_m 886 (by decide +kernel) rfl
theorem xb_533 : Cond.methodLink RX6 180 yX6_holds ∈ xbig := xb_m 887 (by decide +kernel) rfl
theorem xb_534 : Cond.instanceMethod yX6_holds ∈ xbig := xb_m 889 (by decide +kernel) rfl
theorem xb_535 : Cond.selects RX6 yX6_holds yX6_holds ∈ xbig := xb_m 47 (by decide +kernel) rfl
set_option maxRecDepth 100000 in
theorem xb_536 : Cond.code yX6_order cX6_order 8 (some .int) ∈ xbig := xb_m 885 rfl rfl
set_option maxRecDepth 100000 in
theorem xb_537 : Cond.code yX6_readAll cX6_readAll 3 (some .int) ∈ xbig := xb_m 902 rfl rfl
theorem xb_538 : Cond.methodLink RX6 183 yX6_readAll ∈ xbig := xb_m 899 (by decide +kernel) rfl
theorem xb_539 : Cond.instanceMethod yX6_readAll ∈ xbig := xb_m 901 (by decide +kernel) rfl
theorem xb_540 : Cond.selects RX6 yX6_readAll yX6_readAll ∈ xbig := xb_m 49 (by decide +kernel) rfl
set_option maxRecDepth 100000 in
theorem xb_541 : Cond.code yX6_held cX6_held 4 (some .int) ∈ xbig := xb_m 898 rfl rfl
theorem xb_542 : Cond.methodLink RX6 186 yX6_held ∈ xbig := xb_m 895 (by decide +kernel) rfl
theorem xb_543 : Cond.instanceMethod yX6_held ∈ xbig := xb_m 897 (by decide +kernel) rfl
theorem xb_544 : Cond.selects RX6 yX6_held yX6_held ∈ xbig := xb_m 48 (by decide +kernel) rfl
set_option maxRecDepth 100000 in
theorem xb_545 : Cond.code yX6_back cX6_back 3 (some .int) ∈ xbig := xb_m 894 rfl rfl
set_option maxRecDepth 100000 in
theorem xb_546 : Cond.code yX6_paces cX6_paces 4 (some .int) ∈ xbig := xb_m 910 rfl rfl
set_option maxRecDepth 100000 in
theorem xb_547 : Cond.code yX6_isParty cX6_isParty 5 (some .boolean) ∈ xbig := xb_m 914 rfl rfl
theorem xb_548 : Cond.methodLink RX6 189 yX6_paces ∈ xbig := xb_m 907 (by decide +kernel) rfl
theorem xb_549 : Cond.instanceMethod yX6_paces ∈ xbig := xb_m 909 (by decide +kernel) rfl
theorem xb_550 : Cond.selects RX6 yX6_paces yX6_paces ∈ xbig := xb_m 50 (by decide +kernel) rfl
theorem xb_551 : Cond.methodLink RX6 192 yX6_isParty ∈ xbig := xb_m 911 (by decide +kernel) rfl
theorem xb_552 : Cond.instanceMethod yX6_isParty ∈ xbig := xb_m 913 (by decide +kernel) rfl
theorem xb_553 : Cond.selects RX6 yX6_isParty yX6_isParty ∈ xbig := xb_m 51 (by decide +kernel) rfl
set_option maxRecDepth 100000 in
theorem xb_554 : Cond.code yX6_parties cX6_parties 7 (some .int) ∈ xbig := xb_m 906 rfl rfl
theorem xb_555 : Cond.fieldLink RX6 195 "WalkingLawModel" "joined" "I" ∈ xbig := xb_m 680 (by decide +kernel) rfl
set_option maxRecDepth 100000 in
theorem xb_556 : Cond.code yX6_join cX6_join 3 (some .int) ∈ xbig := xb_m 918 rfl rfl
set_option maxRecDepth 100000 in
theorem xb_557 : Cond.code yX6_diary cX6_diary 4 (some .int) ∈ xbig := xb_m 922 rfl rfl
set_option maxRecDepth 100000 in
theorem xb_558 : Cond.code yX6_noDiary cX6_noDiary 2 (some .int) ∈ xbig := xb_m 926 rfl rfl
set_option maxRecDepth 100000 in
theorem xb_559 : Cond.code yX6_goes cX6_goes 3 none ∈ xbig := xb_m 934 rfl rfl
theorem xb_560 : Cond.methodLink RX6 198 yX6_goes ∈ xbig := xb_m 931 (by decide +kernel) rfl
theorem xb_561 : Cond.instanceMethod yX6_goes ∈ xbig := xb_m 933 (by decide +kernel) rfl
theorem xb_562 : Cond.selects RX6 yX6_goes yX6_goes ∈ xbig := xb_m 52 (by decide +kernel) rfl
set_option maxRecDepth 100000 in
theorem xb_563 : Cond.code yX6_wrong cX6_wrong 3 (some .int) ∈ xbig := xb_m 930 rfl rfl
set_option maxRecDepth 100000 in
theorem xb_564 : Cond.code yX6_right cX6_right 5 (some .int) ∈ xbig := xb_m 942 rfl rfl
theorem xb_565 : Cond.methodLink RX6 201 yX6_right ∈ xbig := xb_m 939 (by decide +kernel) rfl
theorem xb_566 : Cond.instanceMethod yX6_right ∈ xbig := xb_m 941 (by decide +kernel) rfl
theorem xb_567 : Cond.selects RX6 yX6_right yX6_right ∈ xbig := xb_m 53 (by decide +kernel) rfl
set_option maxRecDepth 100000 in
theorem xb_568 : Cond.code yX6_late cX6_late 6 (some .int) ∈ xbig := xb_m 938 rfl rfl
theorem xb_569 : Cond.constantLong RX6 204 (7919) ∈ xbig := xb_m 955 (by decide +kernel) rfl
theorem xb_570 : Cond.constantLong RX6 206 (6151) ∈ xbig := xb_m 956 (by decide +kernel) rfl
theorem xb_571 : Cond.constantLong RX6 208 (65521) ∈ xbig := xb_m 957 (by decide +kernel) rfl
theorem xb_572 : Cond.constantLong RX6 210 (16) ∈ xbig := xb_m 958 (by decide +kernel) rfl
set_option maxRecDepth 100000 in
theorem xb_573 : Cond.code yX6_yearOf cX6_yearOf 5 (some .int) ∈ xbig := xb_m 954 rfl rfl
set_option maxRecDepth 100000 in
theorem xb_574 : Cond.code yX6_isSeed cX6_isSeed 1 (some .boolean) ∈ xbig := xb_m 949 rfl rfl
theorem xb_575 : Cond.constantLong RX6 212 (9999) ∈ xbig := xb_m 950 (by decide +kernel) rfl
theorem xb_576 : Cond.methodLink RX6 214 yX6_isSeed ∈ xbig := xb_m 947 (by decide +kernel) rfl
theorem xb_577 : Cond.static yX6_isSeed ∈ xbig := xb_m 948 (by decide +kernel) rfl
theorem xb_578 : Cond.methodLink RX6 217 yX6_yearOf ∈ xbig := xb_m 951 (by decide +kernel) rfl
theorem xb_579 : Cond.instanceMethod yX6_yearOf ∈ xbig := xb_m 953 (by decide +kernel) rfl
theorem xb_580 : Cond.selects RX6 yX6_yearOf yX6_yearOf ∈ xbig := xb_m 54 (by decide +kernel) rfl
set_option maxRecDepth 100000 in
theorem xb_581 : Cond.code yX6_year cX6_year 2 (some .int) ∈ xbig := xb_m 946 rfl rfl
set_option maxRecDepth 100000 in
theorem xb_582 : Cond.code yX6_ten cX6_ten 5 (some .int) ∈ xbig := xb_m 962 rfl rfl
set_option maxRecDepth 100000 in
theorem xb_583 : Cond.code yX6_keep cX6_keep 1 (some .int) ∈ xbig := xb_m 966 rfl rfl
set_option maxRecDepth 100000 in
theorem xb_584 : Cond.code yX6_again cX6_again 1 (some .int) ∈ xbig := xb_m 970 rfl rfl
set_option maxRecDepth 100000 in
theorem xb_585 : Cond.code yX6_count cX6_count 2 (some .int) ∈ xbig := xb_m 974 rfl rfl
theorem xb_586 : Cond.classLink RL 7 RX5 ∈ xbig := xb_m 65 (by decide +kernel) rfl
theorem xb_587 : Cond.instantiable RX5 9 ∈ xbig := xb_m 66 (by decide +kernel) rfl
theorem xb_588 : Cond.classLink RL 10 RX6 ∈ xbig := xb_m 647 (by decide +kernel) rfl
theorem xb_589 : Cond.instantiable RX6 19 ∈ xbig := xb_m 648 (by decide +kernel) rfl
theorem xb_590 : Cond.constantLong RL 13 (4294967295) ∈ xbig := xb_m 975 (by decide +kernel) rfl
theorem xb_591 : Cond.methodLink RL 9 yX5_init ∈ xbig := xb_m 67 (by decide +kernel) rfl
theorem xb_592 : Cond.instanceMethod yX5_init ∈ xbig := xb_m 68 (by decide +kernel) rfl
theorem xb_593 : Cond.methodLink RL 12 yX6_init ∈ xbig := xb_m 649 (by decide +kernel) rfl
theorem xb_594 : Cond.instanceMethod yX6_init ∈ xbig := xb_m 650 (by decide +kernel) rfl
theorem xb_595 : Cond.methodLink RL 15 yX5_write ∈ xbig := xb_m 285 (by decide +kernel) rfl
theorem xb_596 : Cond.instanceMethod yX5_write ∈ xbig := xb_m 286 (by decide +kernel) rfl
theorem xb_597 : Cond.selects RX5 yX5_write yX5_write ∈ xbig := xb_m 287 (by decide +kernel) rfl
theorem xb_598 : Cond.methodLink RL 19 yX6_write ∈ xbig := xb_m 724 (by decide +kernel) rfl
theorem xb_599 : Cond.instanceMethod yX6_write ∈ xbig := xb_m 725 (by decide +kernel) rfl
theorem xb_600 : Cond.selects RX6 yX6_write yX6_write ∈ xbig := xb_m 726 (by decide +kernel) rfl
theorem xb_601 : Cond.methodLink RL 20 yX5_wipe ∈ xbig := xb_m 293 (by decide +kernel) rfl
theorem xb_602 : Cond.instanceMethod yX5_wipe ∈ xbig := xb_m 294 (by decide +kernel) rfl
theorem xb_603 : Cond.selects RX5 yX5_wipe yX5_wipe ∈ xbig := xb_m 295 (by decide +kernel) rfl
theorem xb_604 : Cond.methodLink RL 24 yX6_wipe ∈ xbig := xb_m 732 (by decide +kernel) rfl
theorem xb_605 : Cond.instanceMethod yX6_wipe ∈ xbig := xb_m 733 (by decide +kernel) rfl
theorem xb_606 : Cond.selects RX6 yX6_wipe yX6_wipe ∈ xbig := xb_m 734 (by decide +kernel) rfl
theorem xb_607 : Cond.methodLink RL 25 yX5_fault ∈ xbig := xb_m 297 (by decide +kernel) rfl
theorem xb_608 : Cond.instanceMethod yX5_fault ∈ xbig := xb_m 298 (by decide +kernel) rfl
theorem xb_609 : Cond.selects RX5 yX5_fault yX5_fault ∈ xbig := xb_m 299 (by decide +kernel) rfl
theorem xb_610 : Cond.methodLink RL 28 yX6_fault ∈ xbig := xb_m 736 (by decide +kernel) rfl
theorem xb_611 : Cond.methodLink RL 29 yX5_lay ∈ xbig := xb_m 339 (by decide +kernel) rfl
theorem xb_612 : Cond.instanceMethod yX5_lay ∈ xbig := xb_m 340 (by decide +kernel) rfl
theorem xb_613 : Cond.selects RX5 yX5_lay yX5_lay ∈ xbig := xb_m 341 (by decide +kernel) rfl
theorem xb_614 : Cond.methodLink RL 32 yX6_lay ∈ xbig := xb_m 759 (by decide +kernel) rfl
theorem xb_615 : Cond.instanceMethod yX6_lay ∈ xbig := xb_m 760 (by decide +kernel) rfl
theorem xb_616 : Cond.selects RX6 yX6_lay yX6_lay ∈ xbig := xb_m 761 (by decide +kernel) rfl
theorem xb_617 : Cond.methodLink RL 33 yX5_parish ∈ xbig := xb_m 344 (by decide +kernel) rfl
theorem xb_618 : Cond.instanceMethod yX5_parish ∈ xbig := xb_m 345 (by decide +kernel) rfl
theorem xb_619 : Cond.selects RX5 yX5_parish yX5_parish ∈ xbig := xb_m 346 (by decide +kernel) rfl
theorem xb_620 : Cond.methodLink RL 37 yX6_parish ∈ xbig := xb_m 764 (by decide +kernel) rfl
theorem xb_621 : Cond.instanceMethod yX6_parish ∈ xbig := xb_m 765 (by decide +kernel) rfl
theorem xb_622 : Cond.selects RX6 yX6_parish yX6_parish ∈ xbig := xb_m 766 (by decide +kernel) rfl
theorem xb_623 : Cond.methodLink RL 38 yX5_member ∈ xbig := xb_m 356 (by decide +kernel) rfl
theorem xb_624 : Cond.instanceMethod yX5_member ∈ xbig := xb_m 357 (by decide +kernel) rfl
theorem xb_625 : Cond.selects RX5 yX5_member yX5_member ∈ xbig := xb_m 358 (by decide +kernel) rfl
theorem xb_626 : Cond.methodLink RL 41 yX6_member ∈ xbig := xb_m 785 (by decide +kernel) rfl
theorem xb_627 : Cond.instanceMethod yX6_member ∈ xbig := xb_m 786 (by decide +kernel) rfl
theorem xb_628 : Cond.selects RX6 yX6_member yX6_member ∈ xbig := xb_m 787 (by decide +kernel) rfl
theorem xb_629 : Cond.methodLink RL 42 yX5_hours ∈ xbig := xb_m 376 (by decide +kernel) rfl
theorem xb_630 : Cond.instanceMethod yX5_hours ∈ xbig := xb_m 377 (by decide +kernel) rfl
theorem xb_631 : Cond.selects RX5 yX5_hours yX5_hours ∈ xbig := xb_m 378 (by decide +kernel) rfl
theorem xb_632 : Cond.methodLink RL 46 yX6_hours ∈ xbig := xb_m 794 (by decide +kernel) rfl
theorem xb_633 : Cond.instanceMethod yX6_hours ∈ xbig := xb_m 795 (by decide +kernel) rfl
theorem xb_634 : Cond.selects RX6 yX6_hours yX6_hours ∈ xbig := xb_m 796 (by decide +kernel) rfl
theorem xb_635 : Cond.methodLink RL 47 yX5_voices ∈ xbig := xb_m 421 (by decide +kernel) rfl
theorem xb_636 : Cond.instanceMethod yX5_voices ∈ xbig := xb_m 422 (by decide +kernel) rfl
theorem xb_637 : Cond.selects RX5 yX5_voices yX5_voices ∈ xbig := xb_m 423 (by decide +kernel) rfl
theorem xb_638 : Cond.methodLink RL 51 yX6_voices ∈ xbig := xb_m 826 (by decide +kernel) rfl
theorem xb_639 : Cond.instanceMethod yX6_voices ∈ xbig := xb_m 827 (by decide +kernel) rfl
theorem xb_640 : Cond.selects RX6 yX6_voices yX6_voices ∈ xbig := xb_m 828 (by decide +kernel) rfl
theorem xb_641 : Cond.methodLink RL 52 yX5_read ∈ xbig := xb_m 453 (by decide +kernel) rfl
theorem xb_642 : Cond.instanceMethod yX5_read ∈ xbig := xb_m 454 (by decide +kernel) rfl
theorem xb_643 : Cond.selects RX5 yX5_read yX5_read ∈ xbig := xb_m 455 (by decide +kernel) rfl
theorem xb_644 : Cond.methodLink RL 55 yX6_read ∈ xbig := xb_m 838 (by decide +kernel) rfl
theorem xb_645 : Cond.instanceMethod yX6_read ∈ xbig := xb_m 839 (by decide +kernel) rfl
theorem xb_646 : Cond.selects RX6 yX6_read yX6_read ∈ xbig := xb_m 840 (by decide +kernel) rfl
theorem xb_647 : Cond.methodLink RL 56 yX5_bill ∈ xbig := xb_m 463 (by decide +kernel) rfl
theorem xb_648 : Cond.instanceMethod yX5_bill ∈ xbig := xb_m 464 (by decide +kernel) rfl
theorem xb_649 : Cond.selects RX5 yX5_bill yX5_bill ∈ xbig := xb_m 465 (by decide +kernel) rfl
theorem xb_650 : Cond.methodLink RL 59 yX6_bill ∈ xbig := xb_m 846 (by decide +kernel) rfl
theorem xb_651 : Cond.instanceMethod yX6_bill ∈ xbig := xb_m 847 (by decide +kernel) rfl
theorem xb_652 : Cond.selects RX6 yX6_bill yX6_bill ∈ xbig := xb_m 848 (by decide +kernel) rfl
theorem xb_653 : Cond.methodLink RL 60 yX5_mile ∈ xbig := xb_m 471 (by decide +kernel) rfl
theorem xb_654 : Cond.instanceMethod yX5_mile ∈ xbig := xb_m 472 (by decide +kernel) rfl
theorem xb_655 : Cond.selects RX5 yX5_mile yX5_mile ∈ xbig := xb_m 473 (by decide +kernel) rfl
theorem xb_656 : Cond.methodLink RL 63 yX6_mile ∈ xbig := xb_m 854 (by decide +kernel) rfl
theorem xb_657 : Cond.instanceMethod yX6_mile ∈ xbig := xb_m 855 (by decide +kernel) rfl
theorem xb_658 : Cond.selects RX6 yX6_mile yX6_mile ∈ xbig := xb_m 856 (by decide +kernel) rfl
theorem xb_659 : Cond.methodLink RL 64 yX5_who ∈ xbig := xb_m 486 (by decide +kernel) rfl
theorem xb_660 : Cond.instanceMethod yX5_who ∈ xbig := xb_m 487 (by decide +kernel) rfl
theorem xb_661 : Cond.selects RX5 yX5_who yX5_who ∈ xbig := xb_m 488 (by decide +kernel) rfl
theorem xb_662 : Cond.methodLink RL 67 yX6_who ∈ xbig := xb_m 870 (by decide +kernel) rfl
theorem xb_663 : Cond.instanceMethod yX6_who ∈ xbig := xb_m 871 (by decide +kernel) rfl
theorem xb_664 : Cond.selects RX6 yX6_who yX6_who ∈ xbig := xb_m 872 (by decide +kernel) rfl
theorem xb_665 : Cond.methodLink RL 68 yX5_arrives ∈ xbig := xb_m 490 (by decide +kernel) rfl
theorem xb_666 : Cond.instanceMethod yX5_arrives ∈ xbig := xb_m 491 (by decide +kernel) rfl
theorem xb_667 : Cond.selects RX5 yX5_arrives yX5_arrives ∈ xbig := xb_m 492 (by decide +kernel) rfl
theorem xb_668 : Cond.methodLink RL 71 yX6_arrives ∈ xbig := xb_m 874 (by decide +kernel) rfl
theorem xb_669 : Cond.instanceMethod yX6_arrives ∈ xbig := xb_m 875 (by decide +kernel) rfl
theorem xb_670 : Cond.selects RX6 yX6_arrives yX6_arrives ∈ xbig := xb_m 876 (by decide +kernel) rfl
theorem xb_671 : Cond.methodLink RL 72 yX5_would ∈ xbig := xb_m 495 (by decide +kernel) rfl
theorem xb_672 : Cond.instanceMethod yX5_would ∈ xbig := xb_m 496 (by decide +kernel) rfl
theorem xb_673 : Cond.selects RX5 yX5_would yX5_would ∈ xbig := xb_m 497 (by decide +kernel) rfl
theorem xb_674 : Cond.methodLink RL 75 yX6_would ∈ xbig := xb_m 878 (by decide +kernel) rfl
theorem xb_675 : Cond.instanceMethod yX6_would ∈ xbig := xb_m 879 (by decide +kernel) rfl
theorem xb_676 : Cond.selects RX6 yX6_would yX6_would ∈ xbig := xb_m 880 (by decide +kernel) rfl
theorem xb_677 : Cond.methodLink RL 76 yX5_order ∈ xbig := xb_m 499 (by decide +kernel) rfl
theorem xb_678 : Cond.instanceMethod yX5_order ∈ xbig := xb_m 500 (by decide +kernel) rfl
theorem xb_679 : Cond.selects RX5 yX5_order yX5_order ∈ xbig := xb_m 501 (by decide +kernel) rfl
theorem xb_680 : Cond.methodLink RL 79 yX6_order ∈ xbig := xb_m 882 (by decide +kernel) rfl
theorem xb_681 : Cond.instanceMethod yX6_order ∈ xbig := xb_m 883 (by decide +kernel) rfl
theorem xb_682 : Cond.selects RX6 yX6_order yX6_order ∈ xbig := xb_m 884 (by decide +kernel) rfl
theorem xb_683 : Cond.methodLink RL 80 yX5_back ∈ xbig := xb_m 526 (by decide +kernel) rfl
theorem xb_684 : Cond.instanceMethod yX5_back ∈ xbig := xb_m 527 (by decide +kernel) rfl
theorem xb_685 : Cond.selects RX5 yX5_back yX5_back ∈ xbig := xb_m 528 (by decide +kernel) rfl
theorem xb_686 : Cond.methodLink RL 83 yX6_back ∈ xbig := xb_m 891 (by decide +kernel) rfl
theorem xb_687 : Cond.instanceMethod yX6_back ∈ xbig := xb_m 892 (by decide +kernel) rfl
theorem xb_688 : Cond.selects RX6 yX6_back yX6_back ∈ xbig := xb_m 893 (by decide +kernel) rfl
theorem xb_689 : Cond.methodLink RL 84 yX5_parties ∈ xbig := xb_m 545 (by decide +kernel) rfl
theorem xb_690 : Cond.instanceMethod yX5_parties ∈ xbig := xb_m 546 (by decide +kernel) rfl
theorem xb_691 : Cond.selects RX5 yX5_parties yX5_parties ∈ xbig := xb_m 547 (by decide +kernel) rfl
theorem xb_692 : Cond.methodLink RL 87 yX6_parties ∈ xbig := xb_m 903 (by decide +kernel) rfl
theorem xb_693 : Cond.instanceMethod yX6_parties ∈ xbig := xb_m 904 (by decide +kernel) rfl
theorem xb_694 : Cond.selects RX6 yX6_parties yX6_parties ∈ xbig := xb_m 905 (by decide +kernel) rfl
theorem xb_695 : Cond.methodLink RL 88 yX5_join ∈ xbig := xb_m 562 (by decide +kernel) rfl
theorem xb_696 : Cond.instanceMethod yX5_join ∈ xbig := xb_m 563 (by decide +kernel) rfl
theorem xb_697 : Cond.selects RX5 yX5_join yX5_join ∈ xbig := xb_m 564 (by decide +kernel) rfl
theorem xb_698 : Cond.methodLink RL 91 yX6_join ∈ xbig := xb_m 915 (by decide +kernel) rfl
theorem xb_699 : Cond.instanceMethod yX6_join ∈ xbig := xb_m 916 (by decide +kernel) rfl
theorem xb_700 : Cond.selects RX6 yX6_join yX6_join ∈ xbig := xb_m 917 (by decide +kernel) rfl
theorem xb_701 : Cond.methodLink RL 92 yX5_diary ∈ xbig := xb_m 566 (by decide +kernel) rfl
theorem xb_702 : Cond.instanceMethod yX5_diary ∈ xbig := xb_m 567 (by decide +kernel) rfl
theorem xb_703 : Cond.selects RX5 yX5_diary yX5_diary ∈ xbig := xb_m 568 (by decide +kernel) rfl
theorem xb_704 : Cond.methodLink RL 95 yX6_diary ∈ xbig := xb_m 919 (by decide +kernel) rfl
theorem xb_705 : Cond.instanceMethod yX6_diary ∈ xbig := xb_m 920 (by decide +kernel) rfl
theorem xb_706 : Cond.selects RX6 yX6_diary yX6_diary ∈ xbig := xb_m 921 (by decide +kernel) rfl
theorem xb_707 : Cond.methodLink RL 96 yX5_noDiary ∈ xbig := xb_m 574 (by decide +kernel) rfl
theorem xb_708 : Cond.instanceMethod yX5_noDiary ∈ xbig := xb_m 575 (by decide +kernel) rfl
theorem xb_709 : Cond.selects RX5 yX5_noDiary yX5_noDiary ∈ xbig := xb_m 576 (by decide +kernel) rfl
theorem xb_710 : Cond.methodLink RL 99 yX6_noDiary ∈ xbig := xb_m 923 (by decide +kernel) rfl
theorem xb_711 : Cond.instanceMethod yX6_noDiary ∈ xbig := xb_m 924 (by decide +kernel) rfl
theorem xb_712 : Cond.selects RX6 yX6_noDiary yX6_noDiary ∈ xbig := xb_m 925 (by decide +kernel) rfl
theorem xb_713 : Cond.methodLink RL 100 yX5_wrong ∈ xbig := xb_m 578 (by decide +kernel) rfl
theorem xb_714 : Cond.instanceMethod yX5_wrong ∈ xbig := xb_m 579 (by decide +kernel) rfl
theorem xb_715 : Cond.selects RX5 yX5_wrong yX5_wrong ∈ xbig := xb_m 580 (by decide +kernel) rfl
theorem xb_716 : Cond.methodLink RL 103 yX6_wrong ∈ xbig := xb_m 927 (by decide +kernel) rfl
theorem xb_717 : Cond.instanceMethod yX6_wrong ∈ xbig := xb_m 928 (by decide +kernel) rfl
theorem xb_718 : Cond.selects RX6 yX6_wrong yX6_wrong ∈ xbig := xb_m 929 (by decide +kernel) rfl
theorem xb_719 : Cond.methodLink RL 104 yX5_late ∈ xbig := xb_m 592 (by decide +kernel) rfl
theorem xb_720 : Cond.instanceMethod yX5_late ∈ xbig := xb_m 593 (by decide +kernel) rfl
theorem xb_721 : Cond.selects RX5 yX5_late yX5_late ∈ xbig := xb_m 594 (by decide +kernel) rfl
theorem xb_722 : Cond.methodLink RL 107 yX6_late ∈ xbig := xb_m 935 (by decide +kernel) rfl
theorem xb_723 : Cond.instanceMethod yX6_late ∈ xbig := xb_m 936 (by decide +kernel) rfl
theorem xb_724 : Cond.selects RX6 yX6_late yX6_late ∈ xbig := xb_m 937 (by decide +kernel) rfl
theorem xb_725 : Cond.methodLink RL 108 yX5_year ∈ xbig := xb_m 612 (by decide +kernel) rfl
theorem xb_726 : Cond.instanceMethod yX5_year ∈ xbig := xb_m 613 (by decide +kernel) rfl
theorem xb_727 : Cond.selects RX5 yX5_year yX5_year ∈ xbig := xb_m 614 (by decide +kernel) rfl
theorem xb_728 : Cond.methodLink RL 111 yX6_year ∈ xbig := xb_m 943 (by decide +kernel) rfl
theorem xb_729 : Cond.instanceMethod yX6_year ∈ xbig := xb_m 944 (by decide +kernel) rfl
theorem xb_730 : Cond.selects RX6 yX6_year yX6_year ∈ xbig := xb_m 945 (by decide +kernel) rfl
theorem xb_731 : Cond.methodLink RL 112 yX5_ten ∈ xbig := xb_m 631 (by decide +kernel) rfl
theorem xb_732 : Cond.instanceMethod yX5_ten ∈ xbig := xb_m 632 (by decide +kernel) rfl
theorem xb_733 : Cond.selects RX5 yX5_ten yX5_ten ∈ xbig := xb_m 633 (by decide +kernel) rfl
theorem xb_734 : Cond.methodLink RL 115 yX6_ten ∈ xbig := xb_m 959 (by decide +kernel) rfl
theorem xb_735 : Cond.instanceMethod yX6_ten ∈ xbig := xb_m 960 (by decide +kernel) rfl
theorem xb_736 : Cond.selects RX6 yX6_ten yX6_ten ∈ xbig := xb_m 961 (by decide +kernel) rfl
theorem xb_737 : Cond.methodLink RL 116 yX5_keep ∈ xbig := xb_m 635 (by decide +kernel) rfl
theorem xb_738 : Cond.instanceMethod yX5_keep ∈ xbig := xb_m 636 (by decide +kernel) rfl
theorem xb_739 : Cond.selects RX5 yX5_keep yX5_keep ∈ xbig := xb_m 637 (by decide +kernel) rfl
theorem xb_740 : Cond.methodLink RL 119 yX6_keep ∈ xbig := xb_m 963 (by decide +kernel) rfl
theorem xb_741 : Cond.instanceMethod yX6_keep ∈ xbig := xb_m 964 (by decide +kernel) rfl
theorem xb_742 : Cond.selects RX6 yX6_keep yX6_keep ∈ xbig := xb_m 965 (by decide +kernel) rfl
theorem xb_743 : Cond.methodLink RL 120 yX5_again ∈ xbig := xb_m 639 (by decide +kernel) rfl
theorem xb_744 : Cond.instanceMethod yX5_again ∈ xbig := xb_m 640 (by decide +kernel) rfl
theorem xb_745 : Cond.selects RX5 yX5_again yX5_again ∈ xbig := xb_m 641 (by decide +kernel) rfl
theorem xb_746 : Cond.methodLink RL 123 yX6_again ∈ xbig := xb_m 967 (by decide +kernel) rfl
theorem xb_747 : Cond.instanceMethod yX6_again ∈ xbig := xb_m 968 (by decide +kernel) rfl
theorem xb_748 : Cond.selects RX6 yX6_again yX6_again ∈ xbig := xb_m 969 (by decide +kernel) rfl
theorem xb_749 : Cond.methodLink RL 124 yX5_count ∈ xbig := xb_m 643 (by decide +kernel) rfl
theorem xb_750 : Cond.instanceMethod yX5_count ∈ xbig := xb_m 644 (by decide +kernel) rfl
theorem xb_751 : Cond.selects RX5 yX5_count yX5_count ∈ xbig := xb_m 645 (by decide +kernel) rfl
theorem xb_752 : Cond.methodLink RL 127 yX6_count ∈ xbig := xb_m 971 (by decide +kernel) rfl
theorem xb_753 : Cond.instanceMethod yX6_count ∈ xbig := xb_m 972 (by decide +kernel) rfl
theorem xb_754 : Cond.selects RX6 yX6_count yX6_count ∈ xbig := xb_m 973 (by decide +kernel) rfl
