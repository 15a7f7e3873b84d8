set_option maxRecDepth 20000 in
theorem wk_math : Cond.initialized "java/lang/Math" ∈ gj_gw := gj_good (List.mem_of_getElem? (i := 11) rfl) rfl
set_option maxRecDepth 20000 in
theorem wk_sys : Cond.initialized "java/lang/System" ∈ gj_gw := gj_good (List.mem_of_getElem? (i := 12) rfl) rfl
set_option maxRecDepth 20000 in
theorem wk_min1 : Cond.static Lib.Math.min.name ∈ gj_gw := gj_good (List.mem_of_getElem? (i := 388) rfl) rfl
set_option maxRecDepth 20000 in
theorem wk_min2 : Cond.code Lib.Math.min.name Lib.Math.min.code 2 (some .int) ∈ gj_gw := gj_good (List.mem_of_getElem? (i := 389) rfl) rfl
set_option maxRecDepth 20000 in
theorem wk_max1 : Cond.static Lib.Math.max.name ∈ gj_gw := gj_good (List.mem_of_getElem? (i := 537) rfl) rfl
set_option maxRecDepth 20000 in
theorem wk_max2 : Cond.code Lib.Math.max.name Lib.Math.max.code 2 (some .int) ∈ gj_gw := gj_good (List.mem_of_getElem? (i := 538) rfl) rfl
set_option maxRecDepth 20000 in
theorem wk_abs1 : Cond.static Lib.Math.abs.name ∈ gj_gw := gj_good (List.mem_of_getElem? (i := 732) rfl) rfl
set_option maxRecDepth 20000 in
theorem wk_abs2 : Cond.code Lib.Math.abs.name Lib.Math.abs.code 1 (some .int) ∈ gj_gw := gj_good (List.mem_of_getElem? (i := 733) rfl) rfl
set_option maxRecDepth 20000 in
theorem wk_acp1 : Cond.native arraycopyName ∈ gj_gw := gj_good (List.mem_of_getElem? (i := 476) rfl) rfl
set_option maxRecDepth 20000 in
theorem wk_acp2 : Cond.static arraycopyName ∈ gj_gw := gj_good (List.mem_of_getElem? (i := 475) rfl) rfl
set_option maxRecDepth 20000 in
theorem wk_0 : Cond.fieldLink RX8 13 RX8 "taped" "I" ∈ gj_gw := gj_good (List.mem_of_getElem? (i := 338) rfl) rfl
set_option maxRecDepth 20000 in
theorem wk_1 : Cond.fieldLink RX8 9 RX8 "tape" "[B" ∈ gj_gw := gj_good (List.mem_of_getElem? (i := 337) rfl) rfl
set_option maxRecDepth 20000 in
theorem wk_2 : Cond.instanceMethod yX8_putBytes ∈ gj_gw := gj_good (List.mem_of_getElem? (i := 377) rfl) rfl
set_option maxRecDepth 20000 in
theorem wk_3 : Cond.selects RX8 yX8_putBytes yX8_putBytes ∈ gj_gw := gj_goodP (List.mem_of_getElem? (i := 3) rfl) rfl
set_option maxRecDepth 20000 in
theorem wk_4 : Cond.initialized RX8 ∈ gj_gw := gj_good (List.mem_of_getElem? (i := 1) rfl) rfl
set_option maxRecDepth 20000 in
theorem wk_5 : Cond.code yX8_putBytes cX8_putBytes 3 none ∈ gj_gw := gj_good (List.mem_of_getElem? (i := 378) rfl) rfl
set_option maxRecDepth 20000 in
theorem wk_6 : Cond.methodLink RX8 73 yX8_putBytes ∈ gj_gw := gj_good (List.mem_of_getElem? (i := 375) rfl) rfl
set_option maxRecDepth 20000 in
theorem wk_7 : Cond.instanceMethod yX8_feed ∈ gj_gw := gj_good (List.mem_of_getElem? (i := 372) rfl) rfl
set_option maxRecDepth 20000 in
theorem wk_8 : Cond.selects RX8 yX8_feed yX8_feed ∈ gj_gw := gj_good (List.mem_of_getElem? (i := 373) rfl) rfl
set_option maxRecDepth 20000 in
theorem wk_9 : Cond.code yX8_feed cX8_feed 6 (some .int) ∈ gj_gw := gj_good (List.mem_of_getElem? (i := 374) rfl) rfl
set_option maxRecDepth 20000 in
theorem wk_10 : Cond.fieldLink RX1 9 RX1 "docks" "I" ∈ gj_gw := gj_good (List.mem_of_getElem? (i := 41) rfl) rfl
set_option maxRecDepth 20000 in
theorem wk_11 : Cond.fieldLink RX1 15 RX1 "routes" "I" ∈ gj_gw := gj_good (List.mem_of_getElem? (i := 47) rfl) rfl
set_option maxRecDepth 20000 in
theorem wk_12 : Cond.fieldLink RX1 18 RX1 "block" "I" ∈ gj_gw := gj_good (List.mem_of_getElem? (i := 53) rfl) rfl
set_option maxRecDepth 20000 in
theorem wk_13 : Cond.instanceMethod yX1_tellNothing ∈ gj_gw := gj_good (List.mem_of_getElem? (i := 391) rfl) rfl
set_option maxRecDepth 20000 in
theorem wk_14 : Cond.selects RX1 yX1_tellNothing yX1_tellNothing ∈ gj_gw := gj_good (List.mem_of_getElem? (i := 392) rfl) rfl
set_option maxRecDepth 20000 in
theorem wk_15 : Cond.initialized RX1 ∈ gj_gw := gj_good (List.mem_of_getElem? (i := 3) rfl) rfl
set_option maxRecDepth 20000 in
theorem wk_16 : Cond.code yX1_tellNothing cX1_tellNothing 1 none ∈ gj_gw := gj_good (List.mem_of_getElem? (i := 393) rfl) rfl
set_option maxRecDepth 20000 in
theorem wk_17 : Cond.static yX2_kindOf ∈ gj_gw := gj_good (List.mem_of_getElem? (i := 399) rfl) rfl
set_option maxRecDepth 20000 in
theorem wk_18 : Cond.initialized RX2 ∈ gj_gw := gj_good (List.mem_of_getElem? (i := 2) rfl) rfl
set_option maxRecDepth 20000 in
theorem wk_19 : Cond.code yX2_kindOf cX2_kindOf 1 (some .int) ∈ gj_gw := gj_good (List.mem_of_getElem? (i := 400) rfl) rfl
set_option maxRecDepth 20000 in
theorem wk_20 : Cond.fieldLink RX2 33 RX2 "at" "I" ∈ gj_gw := gj_good (List.mem_of_getElem? (i := 137) rfl) rfl
set_option maxRecDepth 20000 in
theorem wk_21 : Cond.fieldLink RX2 36 RX2 "length" "I" ∈ gj_gw := gj_good (List.mem_of_getElem? (i := 138) rfl) rfl
set_option maxRecDepth 20000 in
theorem wk_22 : Cond.fieldLink RX2 49 RX2 "tape" "[B" ∈ gj_gw := gj_good (List.mem_of_getElem? (i := 142) rfl) rfl
set_option maxRecDepth 20000 in
theorem wk_23 : Cond.fieldLink RX2 42 RX2 "tokenAt" "I" ∈ gj_gw := gj_good (List.mem_of_getElem? (i := 140) rfl) rfl
set_option maxRecDepth 20000 in
theorem wk_24 : Cond.fieldLink RX2 45 RX2 "value" "J" ∈ gj_gw := gj_good (List.mem_of_getElem? (i := 141) rfl) rfl
set_option maxRecDepth 20000 in
theorem wk_25 : Cond.methodLink RX2 155 yX2_kindOf ∈ gj_gw := gj_good (List.mem_of_getElem? (i := 398) rfl) rfl
set_option maxRecDepth 20000 in
theorem wk_26 : Cond.fieldLink RX2 39 RX2 "kind" "I" ∈ gj_gw := gj_good (List.mem_of_getElem? (i := 139) rfl) rfl
set_option maxRecDepth 20000 in
theorem wk_27 : Cond.constantLong RX2 159 (10 : Int64) ∈ gj_gw := gj_good (List.mem_of_getElem? (i := 401) rfl) rfl
set_option maxRecDepth 20000 in
theorem wk_28 : Cond.constantLong RX2 161 (48 : Int64) ∈ gj_gw := gj_good (List.mem_of_getElem? (i := 402) rfl) rfl
set_option maxRecDepth 20000 in
theorem wk_29 : Cond.instanceMethod yX2_readToken ∈ gj_gw := gj_good (List.mem_of_getElem? (i := 396) rfl) rfl
set_option maxRecDepth 20000 in
theorem wk_30 : Cond.selects RX2 yX2_readToken yX2_readToken ∈ gj_gw := gj_goodP (List.mem_of_getElem? (i := 4) rfl) rfl
set_option maxRecDepth 20000 in
theorem wk_31 : Cond.code yX2_readToken cX2_readToken 2 none ∈ gj_gw := gj_good (List.mem_of_getElem? (i := 397) rfl) rfl
set_option maxRecDepth 20000 in
theorem wk_32 : Cond.instanceMethod yX2_isWord ∈ gj_gw := gj_good (List.mem_of_getElem? (i := 410) rfl) rfl
set_option maxRecDepth 20000 in
theorem wk_33 : Cond.selects RX2 yX2_isWord yX2_isWord ∈ gj_gw := gj_goodP (List.mem_of_getElem? (i := 6) rfl) rfl
set_option maxRecDepth 20000 in
theorem wk_34 : Cond.code yX2_isWord cX2_isWord 3 (some .boolean) ∈ gj_gw := gj_good (List.mem_of_getElem? (i := 411) rfl) rfl
set_option maxRecDepth 20000 in
theorem wk_35 : Cond.fieldLink RX2 29 RX2 "fault" "I" ∈ gj_gw := gj_good (List.mem_of_getElem? (i := 136) rfl) rfl
set_option maxRecDepth 20000 in
theorem wk_36 : Cond.instanceMethod yX2_fails ∈ gj_gw := gj_good (List.mem_of_getElem? (i := 418) rfl) rfl
set_option maxRecDepth 20000 in
theorem wk_37 : Cond.selects RX2 yX2_fails yX2_fails ∈ gj_gw := gj_goodP (List.mem_of_getElem? (i := 8) rfl) rfl
set_option maxRecDepth 20000 in
theorem wk_38 : Cond.code yX2_fails cX2_fails 2 (some .boolean) ∈ gj_gw := gj_good (List.mem_of_getElem? (i := 419) rfl) rfl
set_option maxRecDepth 20000 in
theorem wk_39 : Cond.constantLong RX2 72 (1685021547 : Int64) ∈ gj_gw := gj_good (List.mem_of_getElem? (i := 407) rfl) rfl
set_option maxRecDepth 20000 in
theorem wk_40 : Cond.constantLong RX2 114 (444150998387 : Int64) ∈ gj_gw := gj_good (List.mem_of_getElem? (i := 428) rfl) rfl
set_option maxRecDepth 20000 in
theorem wk_41 : Cond.constantLong RX2 116 (499850634611 : Int64) ∈ gj_gw := gj_good (List.mem_of_getElem? (i := 429) rfl) rfl
set_option maxRecDepth 20000 in
theorem wk_42 : Cond.constantLong RX2 81 (491496240229 : Int64) ∈ gj_gw := gj_good (List.mem_of_getElem? (i := 430) rfl) rfl
set_option maxRecDepth 20000 in
theorem wk_43 : Cond.constantLong RX2 132 (427071599731 : Int64) ∈ gj_gw := gj_good (List.mem_of_getElem? (i := 431) rfl) rfl
set_option maxRecDepth 20000 in
theorem wk_44 : Cond.constantLong RX2 140 (448545973363 : Int64) ∈ gj_gw := gj_good (List.mem_of_getElem? (i := 432) rfl) rfl
set_option maxRecDepth 20000 in
theorem wk_45 : Cond.constantLong RX2 93 (422726034283 : Int64) ∈ gj_gw := gj_good (List.mem_of_getElem? (i := 433) rfl) rfl
set_option maxRecDepth 20000 in
theorem wk_46 : Cond.instanceMethod yX2_isName ∈ gj_gw := gj_good (List.mem_of_getElem? (i := 426) rfl) rfl
set_option maxRecDepth 20000 in
theorem wk_47 : Cond.selects RX2 yX2_isName yX2_isName ∈ gj_gw := gj_goodP (List.mem_of_getElem? (i := 10) rfl) rfl
set_option maxRecDepth 20000 in
theorem wk_48 : Cond.code yX2_isName cX2_isName 1 (some .boolean) ∈ gj_gw := gj_good (List.mem_of_getElem? (i := 427) rfl) rfl
set_option maxRecDepth 20000 in
theorem wk_49 : Cond.fieldLink RX2 12 RX2 "plan" "LPivotDocks$Plan;" ∈ gj_gw := gj_good (List.mem_of_getElem? (i := 130) rfl) rfl
set_option maxRecDepth 20000 in
theorem wk_50 : Cond.fieldLink RX2 104 RX1 "docks" "I" ∈ gj_gw := gj_good (List.mem_of_getElem? (i := 44) rfl) rfl
set_option maxRecDepth 20000 in
theorem wk_51 : Cond.fieldLink RX2 22 RX2 "dockNames" "[J" ∈ gj_gw := gj_good (List.mem_of_getElem? (i := 134) rfl) rfl
set_option maxRecDepth 20000 in
theorem wk_52 : Cond.instanceMethod yX2_numberOfDock ∈ gj_gw := gj_good (List.mem_of_getElem? (i := 436) rfl) rfl
set_option maxRecDepth 20000 in
theorem wk_53 : Cond.selects RX2 yX2_numberOfDock yX2_numberOfDock ∈ gj_gw := gj_goodP (List.mem_of_getElem? (i := 11) rfl) rfl
set_option maxRecDepth 20000 in
theorem wk_54 : Cond.code yX2_numberOfDock cX2_numberOfDock 2 (some .int) ∈ gj_gw := gj_good (List.mem_of_getElem? (i := 437) rfl) rfl
set_option maxRecDepth 20000 in
theorem wk_55 : Cond.methodLink RX2 148 yX2_isName ∈ gj_gw := gj_good (List.mem_of_getElem? (i := 424) rfl) rfl
set_option maxRecDepth 20000 in
theorem wk_56 : Cond.methodLink RX2 151 yX2_numberOfDock ∈ gj_gw := gj_good (List.mem_of_getElem? (i := 434) rfl) rfl
set_option maxRecDepth 20000 in
theorem wk_57 : Cond.fieldLink RX2 69 RX1 "routes" "I" ∈ gj_gw := gj_good (List.mem_of_getElem? (i := 50) rfl) rfl
set_option maxRecDepth 20000 in
theorem wk_58 : Cond.fieldLink RX2 18 RX2 "routeNames" "[J" ∈ gj_gw := gj_good (List.mem_of_getElem? (i := 132) rfl) rfl
set_option maxRecDepth 20000 in
theorem wk_59 : Cond.methodLink RX2 98 yX2_fails ∈ gj_gw := gj_good (List.mem_of_getElem? (i := 416) rfl) rfl
set_option maxRecDepth 20000 in
theorem wk_60 : Cond.instanceMethod yX2_isNewName ∈ gj_gw := gj_good (List.mem_of_getElem? (i := 422) rfl) rfl
set_option maxRecDepth 20000 in
theorem wk_61 : Cond.selects RX2 yX2_isNewName yX2_isNewName ∈ gj_gw := gj_goodP (List.mem_of_getElem? (i := 9) rfl) rfl
set_option maxRecDepth 20000 in
theorem wk_62 : Cond.code yX2_isNewName cX2_isNewName 2 (some .boolean) ∈ gj_gw := gj_good (List.mem_of_getElem? (i := 423) rfl) rfl
set_option maxRecDepth 20000 in
theorem wk_63 : Cond.instanceMethod yX2_isNumber ∈ gj_gw := gj_good (List.mem_of_getElem? (i := 440) rfl) rfl
set_option maxRecDepth 20000 in
theorem wk_64 : Cond.selects RX2 yX2_isNumber yX2_isNumber ∈ gj_gw := gj_goodP (List.mem_of_getElem? (i := 12) rfl) rfl
set_option maxRecDepth 20000 in
theorem wk_65 : Cond.code yX2_isNumber cX2_isNumber 3 (some .boolean) ∈ gj_gw := gj_good (List.mem_of_getElem? (i := 441) rfl) rfl
set_option maxRecDepth 20000 in
theorem wk_66 : Cond.methodLink RX2 62 yX2_readToken ∈ gj_gw := gj_good (List.mem_of_getElem? (i := 394) rfl) rfl
set_option maxRecDepth 20000 in
theorem wk_67 : Cond.methodLink RX2 107 yX2_isNewName ∈ gj_gw := gj_good (List.mem_of_getElem? (i := 420) rfl) rfl
set_option maxRecDepth 20000 in
theorem wk_68 : Cond.fieldLink RX2 110 RX1 "gifts" "[I" ∈ gj_gw := gj_good (List.mem_of_getElem? (i := 63) rfl) rfl
set_option maxRecDepth 20000 in
theorem wk_69 : Cond.methodLink RX2 74 yX2_isWord ∈ gj_gw := gj_good (List.mem_of_getElem? (i := 408) rfl) rfl
set_option maxRecDepth 20000 in
theorem wk_70 : Cond.methodLink RX2 118 yX2_isNumber ∈ gj_gw := gj_good (List.mem_of_getElem? (i := 438) rfl) rfl
set_option maxRecDepth 20000 in
theorem wk_71 : Cond.instanceMethod yX2_readDock ∈ gj_gw := gj_good (List.mem_of_getElem? (i := 414) rfl) rfl
set_option maxRecDepth 20000 in
theorem wk_72 : Cond.selects RX2 yX2_readDock yX2_readDock ∈ gj_gw := gj_goodP (List.mem_of_getElem? (i := 7) rfl) rfl
set_option maxRecDepth 20000 in
theorem wk_73 : Cond.code yX2_readDock cX2_readDock 3 (some .boolean) ∈ gj_gw := gj_good (List.mem_of_getElem? (i := 415) rfl) rfl
set_option maxRecDepth 20000 in
theorem wk_74 : Cond.instanceMethod yX2_readRouteName ∈ gj_gw := gj_good (List.mem_of_getElem? (i := 444) rfl) rfl
set_option maxRecDepth 20000 in
theorem wk_75 : Cond.selects RX2 yX2_readRouteName yX2_readRouteName ∈ gj_gw := gj_goodP (List.mem_of_getElem? (i := 13) rfl) rfl
set_option maxRecDepth 20000 in
theorem wk_76 : Cond.code yX2_readRouteName cX2_readRouteName 2 (some .boolean) ∈ gj_gw := gj_good (List.mem_of_getElem? (i := 445) rfl) rfl
set_option maxRecDepth 20000 in
theorem wk_77 : Cond.instanceMethod yX2_findDock ∈ gj_gw := gj_good (List.mem_of_getElem? (i := 452) rfl) rfl
set_option maxRecDepth 20000 in
theorem wk_78 : Cond.selects RX2 yX2_findDock yX2_findDock ∈ gj_gw := gj_goodP (List.mem_of_getElem? (i := 15) rfl) rfl
set_option maxRecDepth 20000 in
theorem wk_79 : Cond.code yX2_findDock cX2_findDock 3 (some .int) ∈ gj_gw := gj_good (List.mem_of_getElem? (i := 453) rfl) rfl
set_option maxRecDepth 20000 in
theorem wk_80 : Cond.methodLink RX2 122 yX2_findDock ∈ gj_gw := gj_good (List.mem_of_getElem? (i := 450) rfl) rfl
set_option maxRecDepth 20000 in
theorem wk_81 : Cond.fieldLink RX2 126 RX1 "begins" "[I" ∈ gj_gw := gj_good (List.mem_of_getElem? (i := 71) rfl) rfl
set_option maxRecDepth 20000 in
theorem wk_82 : Cond.fieldLink RX2 129 RX1 "ends" "[I" ∈ gj_gw := gj_good (List.mem_of_getElem? (i := 78) rfl) rfl
set_option maxRecDepth 20000 in
theorem wk_83 : Cond.instanceMethod yX2_readEnds ∈ gj_gw := gj_good (List.mem_of_getElem? (i := 448) rfl) rfl
set_option maxRecDepth 20000 in
theorem wk_84 : Cond.selects RX2 yX2_readEnds yX2_readEnds ∈ gj_gw := gj_goodP (List.mem_of_getElem? (i := 14) rfl) rfl
set_option maxRecDepth 20000 in
theorem wk_85 : Cond.code yX2_readEnds cX2_readEnds 4 (some .boolean) ∈ gj_gw := gj_good (List.mem_of_getElem? (i := 449) rfl) rfl
set_option maxRecDepth 20000 in
theorem wk_86 : Cond.instanceMethod yX2_passWord ∈ gj_gw := gj_good (List.mem_of_getElem? (i := 460) rfl) rfl
set_option maxRecDepth 20000 in
theorem wk_87 : Cond.selects RX2 yX2_passWord yX2_passWord ∈ gj_gw := gj_goodP (List.mem_of_getElem? (i := 17) rfl) rfl
set_option maxRecDepth 20000 in
theorem wk_88 : Cond.code yX2_passWord cX2_passWord 3 (some .boolean) ∈ gj_gw := gj_good (List.mem_of_getElem? (i := 461) rfl) rfl
set_option maxRecDepth 20000 in
theorem wk_89 : Cond.methodLink RX2 134 yX2_passWord ∈ gj_gw := gj_good (List.mem_of_getElem? (i := 458) rfl) rfl
set_option maxRecDepth 20000 in
theorem wk_90 : Cond.fieldLink RX2 137 RX1 "costs" "[I" ∈ gj_gw := gj_good (List.mem_of_getElem? (i := 85) rfl) rfl
set_option maxRecDepth 20000 in
theorem wk_91 : Cond.fieldLink RX2 142 RX1 "holds" "[I" ∈ gj_gw := gj_good (List.mem_of_getElem? (i := 89) rfl) rfl
set_option maxRecDepth 20000 in
theorem wk_92 : Cond.instanceMethod yX2_readNumbers ∈ gj_gw := gj_good (List.mem_of_getElem? (i := 456) rfl) rfl
set_option maxRecDepth 20000 in
theorem wk_93 : Cond.selects RX2 yX2_readNumbers yX2_readNumbers ∈ gj_gw := gj_goodP (List.mem_of_getElem? (i := 16) rfl) rfl
set_option maxRecDepth 20000 in
theorem wk_94 : Cond.code yX2_readNumbers cX2_readNumbers 2 (some .boolean) ∈ gj_gw := gj_good (List.mem_of_getElem? (i := 457) rfl) rfl
set_option maxRecDepth 20000 in
theorem wk_95 : Cond.fieldLink RX2 25 RX2 "blockTold" "Z" ∈ gj_gw := gj_good (List.mem_of_getElem? (i := 135) rfl) rfl
set_option maxRecDepth 20000 in
theorem wk_96 : Cond.fieldLink RX2 145 RX1 "block" "I" ∈ gj_gw := gj_good (List.mem_of_getElem? (i := 54) rfl) rfl
set_option maxRecDepth 20000 in
theorem wk_97 : Cond.instanceMethod yX2_readBlock ∈ gj_gw := gj_good (List.mem_of_getElem? (i := 464) rfl) rfl
set_option maxRecDepth 20000 in
theorem wk_98 : Cond.selects RX2 yX2_readBlock yX2_readBlock ∈ gj_gw := gj_goodP (List.mem_of_getElem? (i := 18) rfl) rfl
set_option maxRecDepth 20000 in
theorem wk_99 : Cond.code yX2_readBlock cX2_readBlock 1 (some .boolean) ∈ gj_gw := gj_good (List.mem_of_getElem? (i := 465) rfl) rfl
set_option maxRecDepth 20000 in
theorem wk_100 : Cond.instanceMethod yX2_passStop ∈ gj_gw := gj_good (List.mem_of_getElem? (i := 468) rfl) rfl
set_option maxRecDepth 20000 in
theorem wk_101 : Cond.selects RX2 yX2_passStop yX2_passStop ∈ gj_gw := gj_goodP (List.mem_of_getElem? (i := 19) rfl) rfl
set_option maxRecDepth 20000 in
theorem wk_102 : Cond.code yX2_passStop cX2_passStop 1 (some .boolean) ∈ gj_gw := gj_good (List.mem_of_getElem? (i := 469) rfl) rfl
set_option maxRecDepth 20000 in
theorem wk_103 : Cond.methodLink RX2 95 yX2_readBlock ∈ gj_gw := gj_good (List.mem_of_getElem? (i := 462) rfl) rfl
set_option maxRecDepth 20000 in
theorem wk_104 : Cond.methodLink RX2 83 yX2_readRouteName ∈ gj_gw := gj_good (List.mem_of_getElem? (i := 442) rfl) rfl
set_option maxRecDepth 20000 in
theorem wk_105 : Cond.methodLink RX2 87 yX2_readEnds ∈ gj_gw := gj_good (List.mem_of_getElem? (i := 446) rfl) rfl
set_option maxRecDepth 20000 in
theorem wk_106 : Cond.methodLink RX2 90 yX2_readNumbers ∈ gj_gw := gj_good (List.mem_of_getElem? (i := 454) rfl) rfl
set_option maxRecDepth 20000 in
theorem wk_107 : Cond.methodLink RX2 78 yX2_readDock ∈ gj_gw := gj_good (List.mem_of_getElem? (i := 412) rfl) rfl
set_option maxRecDepth 20000 in
theorem wk_108 : Cond.methodLink RX2 101 yX2_passStop ∈ gj_gw := gj_good (List.mem_of_getElem? (i := 466) rfl) rfl
set_option maxRecDepth 20000 in
theorem wk_109 : Cond.instanceMethod yX2_readLine ∈ gj_gw := gj_good (List.mem_of_getElem? (i := 405) rfl) rfl
set_option maxRecDepth 20000 in
theorem wk_110 : Cond.selects RX2 yX2_readLine yX2_readLine ∈ gj_gw := gj_goodP (List.mem_of_getElem? (i := 5) rfl) rfl
set_option maxRecDepth 20000 in
theorem wk_111 : Cond.code yX2_readLine cX2_readLine 3 (some .boolean) ∈ gj_gw := gj_good (List.mem_of_getElem? (i := 406) rfl) rfl
set_option maxRecDepth 20000 in
theorem wk_112 : Cond.methodLink RX2 53 Lib.Math.min.name ∈ gj_gw := gj_good (List.mem_of_getElem? (i := 387) rfl) rfl
set_option maxRecDepth 20000 in
theorem wk_113 : Cond.methodLink RX2 59 yX1_tellNothing ∈ gj_gw := gj_good (List.mem_of_getElem? (i := 390) rfl) rfl
set_option maxRecDepth 20000 in
theorem wk_114 : Cond.methodLink RX2 65 yX2_readLine ∈ gj_gw := gj_good (List.mem_of_getElem? (i := 403) rfl) rfl
set_option maxRecDepth 20000 in
theorem wk_115 : Cond.instanceMethod yX2_readText ∈ gj_gw := gj_good (List.mem_of_getElem? (i := 384) rfl) rfl
set_option maxRecDepth 20000 in
theorem wk_116 : Cond.selects RX2 yX2_readText yX2_readText ∈ gj_gw := gj_good (List.mem_of_getElem? (i := 385) rfl) rfl
set_option maxRecDepth 20000 in
theorem wk_117 : Cond.code yX2_readText cX2_readText 4 (some .int) ∈ gj_gw := gj_good (List.mem_of_getElem? (i := 386) rfl) rfl
set_option maxRecDepth 20000 in
theorem wk_118 : Cond.fieldLink RX1 21 RX1 "pointer" "I" ∈ gj_gw := gj_good (List.mem_of_getElem? (i := 57) rfl) rfl
set_option maxRecDepth 20000 in
theorem wk_119 : Cond.fieldLink RX1 24 RX1 "pivots" "I" ∈ gj_gw := gj_good (List.mem_of_getElem? (i := 60) rfl) rfl
set_option maxRecDepth 20000 in
theorem wk_120 : Cond.fieldLink RX1 27 RX1 "gifts" "[I" ∈ gj_gw := gj_good (List.mem_of_getElem? (i := 62) rfl) rfl
set_option maxRecDepth 20000 in
theorem wk_121 : Cond.methodLink RX1 52 arraycopyName ∈ gj_gw := gj_good (List.mem_of_getElem? (i := 474) rfl) rfl
set_option maxRecDepth 20000 in
theorem wk_122 : Cond.fieldLink RX1 31 RX1 "begins" "[I" ∈ gj_gw := gj_good (List.mem_of_getElem? (i := 66) rfl) rfl
set_option maxRecDepth 20000 in
theorem wk_123 : Cond.fieldLink RX1 34 RX1 "ends" "[I" ∈ gj_gw := gj_good (List.mem_of_getElem? (i := 73) rfl) rfl
set_option maxRecDepth 20000 in
theorem wk_124 : Cond.fieldLink RX1 37 RX1 "costs" "[I" ∈ gj_gw := gj_good (List.mem_of_getElem? (i := 80) rfl) rfl
set_option maxRecDepth 20000 in
theorem wk_125 : Cond.fieldLink RX1 40 RX1 "holds" "[I" ∈ gj_gw := gj_good (List.mem_of_getElem? (i := 86) rfl) rfl
set_option maxRecDepth 20000 in
theorem wk_126 : Cond.fieldLink RX1 43 RX1 "flows" "[I" ∈ gj_gw := gj_good (List.mem_of_getElem? (i := 91) rfl) rfl
set_option maxRecDepth 20000 in
theorem wk_127 : Cond.fieldLink RX1 46 RX1 "states" "[I" ∈ gj_gw := gj_good (List.mem_of_getElem? (i := 95) rfl) rfl
set_option maxRecDepth 20000 in
theorem wk_128 : Cond.fieldLink RX1 49 RX1 "log" "[I" ∈ gj_gw := gj_good (List.mem_of_getElem? (i := 100) rfl) rfl
set_option maxRecDepth 20000 in
theorem wk_129 : Cond.instanceMethod yX1_copyFrom ∈ gj_gw := gj_good (List.mem_of_getElem? (i := 471) rfl) rfl
set_option maxRecDepth 20000 in
theorem wk_130 : Cond.selects RX1 yX1_copyFrom yX1_copyFrom ∈ gj_gw := gj_good (List.mem_of_getElem? (i := 472) rfl) rfl
set_option maxRecDepth 20000 in
theorem wk_131 : Cond.code yX1_copyFrom cX1_copyFrom 2 none ∈ gj_gw := gj_good (List.mem_of_getElem? (i := 473) rfl) rfl
set_option maxRecDepth 20000 in
theorem wk_132 : Cond.constant RX1 66 (1000000 : Int32) ∈ gj_gw := gj_good (List.mem_of_getElem? (i := 316) rfl) rfl
set_option maxRecDepth 20000 in
theorem wk_133 : Cond.instanceMethod yX1_beginTender ∈ gj_gw := gj_good (List.mem_of_getElem? (i := 314) rfl) rfl
set_option maxRecDepth 20000 in
theorem wk_134 : Cond.selects RX1 yX1_beginTender yX1_beginTender ∈ gj_gw := gj_goodP (List.mem_of_getElem? (i := 0) rfl) rfl
set_option maxRecDepth 20000 in
theorem wk_135 : Cond.code yX1_beginTender cX1_beginTender 4 none ∈ gj_gw := gj_good (List.mem_of_getElem? (i := 315) rfl) rfl
set_option maxRecDepth 20000 in
theorem wk_136 : Cond.methodLink RX1 62 yX1_beginTender ∈ gj_gw := gj_good (List.mem_of_getElem? (i := 312) rfl) rfl
set_option maxRecDepth 20000 in
theorem wk_137 : Cond.instanceMethod yX1_begin ∈ gj_gw := gj_good (List.mem_of_getElem? (i := 309) rfl) rfl
set_option maxRecDepth 20000 in
theorem wk_138 : Cond.selects RX1 yX1_begin yX1_begin ∈ gj_gw := gj_good (List.mem_of_getElem? (i := 310) rfl) rfl
set_option maxRecDepth 20000 in
theorem wk_139 : Cond.code yX1_begin cX1_begin 2 none ∈ gj_gw := gj_good (List.mem_of_getElem? (i := 311) rfl) rfl
set_option maxRecDepth 20000 in
theorem wk_140 : Cond.instanceMethod yX1_countWays ∈ gj_gw := gj_good (List.mem_of_getElem? (i := 326) rfl) rfl
set_option maxRecDepth 20000 in
theorem wk_141 : Cond.selects RX1 yX1_countWays yX1_countWays ∈ gj_gw := gj_good (List.mem_of_getElem? (i := 327) rfl) rfl
set_option maxRecDepth 20000 in
theorem wk_142 : Cond.code yX1_countWays cX1_countWays 1 (some .int) ∈ gj_gw := gj_good (List.mem_of_getElem? (i := 328) rfl) rfl
set_option maxRecDepth 20000 in
theorem wk_143 : Cond.fieldLink RX5 9 RX5 "waysUp" "[I" ∈ gj_gw := gj_good (List.mem_of_getElem? (i := 181) rfl) rfl
set_option maxRecDepth 20000 in
theorem wk_144 : Cond.fieldLink RX5 15 RX5 "parents" "[I" ∈ gj_gw := gj_good (List.mem_of_getElem? (i := 185) rfl) rfl
set_option maxRecDepth 20000 in
theorem wk_145 : Cond.fieldLink RX5 18 RX5 "depths" "[I" ∈ gj_gw := gj_good (List.mem_of_getElem? (i := 188) rfl) rfl
set_option maxRecDepth 20000 in
theorem wk_146 : Cond.fieldLink RX5 21 RX5 "prices" "[I" ∈ gj_gw := gj_good (List.mem_of_getElem? (i := 191) rfl) rfl
set_option maxRecDepth 20000 in
theorem wk_147 : Cond.instanceMethod yX5_hang ∈ gj_gw := gj_good (List.mem_of_getElem? (i := 335) rfl) rfl
set_option maxRecDepth 20000 in
theorem wk_148 : Cond.selects RX5 yX5_hang yX5_hang ∈ gj_gw := gj_goodP (List.mem_of_getElem? (i := 2) rfl) rfl
set_option maxRecDepth 20000 in
theorem wk_149 : Cond.initialized RX5 ∈ gj_gw := gj_good (List.mem_of_getElem? (i := 5) rfl) rfl
set_option maxRecDepth 20000 in
theorem wk_150 : Cond.code yX5_hang cX5_hang 5 none ∈ gj_gw := gj_good (List.mem_of_getElem? (i := 336) rfl) rfl
set_option maxRecDepth 20000 in
theorem wk_151 : Cond.fieldLink RX5 44 RX1 "begins" "[I" ∈ gj_gw := gj_good (List.mem_of_getElem? (i := 68) rfl) rfl
set_option maxRecDepth 20000 in
theorem wk_152 : Cond.fieldLink RX5 47 RX1 "ends" "[I" ∈ gj_gw := gj_good (List.mem_of_getElem? (i := 75) rfl) rfl
set_option maxRecDepth 20000 in
theorem wk_153 : Cond.fieldLink RX5 50 RX1 "costs" "[I" ∈ gj_gw := gj_good (List.mem_of_getElem? (i := 82) rfl) rfl
set_option maxRecDepth 20000 in
theorem wk_154 : Cond.methodLink RX5 53 yX5_hang ∈ gj_gw := gj_good (List.mem_of_getElem? (i := 333) rfl) rfl
set_option maxRecDepth 20000 in
theorem wk_155 : Cond.instanceMethod yX5_hangsBy ∈ gj_gw := gj_good (List.mem_of_getElem? (i := 331) rfl) rfl
set_option maxRecDepth 20000 in
theorem wk_156 : Cond.selects RX5 yX5_hangsBy yX5_hangsBy ∈ gj_gw := gj_goodP (List.mem_of_getElem? (i := 1) rfl) rfl
set_option maxRecDepth 20000 in
theorem wk_157 : Cond.code yX5_hangsBy cX5_hangsBy 5 (some .boolean) ∈ gj_gw := gj_good (List.mem_of_getElem? (i := 332) rfl) rfl
set_option maxRecDepth 20000 in
theorem wk_158 : Cond.fieldLink RX5 24 RX5 "formerPrices" "[I" ∈ gj_gw := gj_good (List.mem_of_getElem? (i := 194) rfl) rfl
set_option maxRecDepth 20000 in
theorem wk_159 : Cond.fieldLink RX5 27 RX1 "docks" "I" ∈ gj_gw := gj_good (List.mem_of_getElem? (i := 43) rfl) rfl
set_option maxRecDepth 20000 in
theorem wk_160 : Cond.methodLink RX5 33 yX1_countWays ∈ gj_gw := gj_good (List.mem_of_getElem? (i := 325) rfl) rfl
set_option maxRecDepth 20000 in
theorem wk_161 : Cond.fieldLink RX5 37 RX1 "states" "[I" ∈ gj_gw := gj_good (List.mem_of_getElem? (i := 97) rfl) rfl
set_option maxRecDepth 20000 in
theorem wk_162 : Cond.methodLink RX5 40 yX5_hangsBy ∈ gj_gw := gj_good (List.mem_of_getElem? (i := 329) rfl) rfl
set_option maxRecDepth 20000 in
theorem wk_163 : Cond.instanceMethod yX5_grow ∈ gj_gw := gj_good (List.mem_of_getElem? (i := 322) rfl) rfl
set_option maxRecDepth 20000 in
theorem wk_164 : Cond.selects RX5 yX5_grow yX5_grow ∈ gj_gw := gj_good (List.mem_of_getElem? (i := 323) rfl) rfl
set_option maxRecDepth 20000 in
theorem wk_165 : Cond.code yX5_grow cX5_grow 5 none ∈ gj_gw := gj_good (List.mem_of_getElem? (i := 324) rfl) rfl
set_option maxRecDepth 20000 in
theorem wk_166 : Cond.fieldLink RX7 21 RX7 "tree" "LPivotDocks$Tree;" ∈ gj_gw := gj_good (List.mem_of_getElem? (i := 244) rfl) rfl
set_option maxRecDepth 20000 in
theorem wk_167 : Cond.fieldLink RX7 12 RX7 "plan" "LPivotDocks$Plan;" ∈ gj_gw := gj_good (List.mem_of_getElem? (i := 242) rfl) rfl
set_option maxRecDepth 20000 in
theorem wk_168 : Cond.methodLink RX7 42 yX5_grow ∈ gj_gw := gj_good (List.mem_of_getElem? (i := 321) rfl) rfl
set_option maxRecDepth 20000 in
theorem wk_169 : Cond.instanceMethod yX7_regrow ∈ gj_gw := gj_good (List.mem_of_getElem? (i := 318) rfl) rfl
set_option maxRecDepth 20000 in
theorem wk_170 : Cond.selects RX7 yX7_regrow yX7_regrow ∈ gj_gw := gj_good (List.mem_of_getElem? (i := 319) rfl) rfl
set_option maxRecDepth 20000 in
theorem wk_171 : Cond.initialized RX7 ∈ gj_gw := gj_good (List.mem_of_getElem? (i := 4) rfl) rfl
set_option maxRecDepth 20000 in
theorem wk_172 : Cond.code yX7_regrow cX7_regrow 1 none ∈ gj_gw := gj_good (List.mem_of_getElem? (i := 320) rfl) rfl
set_option maxRecDepth 20000 in
theorem wk_173 : Cond.methodLink RX7 36 yX1_begin ∈ gj_gw := gj_good (List.mem_of_getElem? (i := 308) rfl) rfl
set_option maxRecDepth 20000 in
theorem wk_174 : Cond.methodLink RX7 39 yX7_regrow ∈ gj_gw := gj_good (List.mem_of_getElem? (i := 317) rfl) rfl
set_option maxRecDepth 20000 in
theorem wk_175 : Cond.instanceMethod yX7_beginAll ∈ gj_gw := gj_good (List.mem_of_getElem? (i := 305) rfl) rfl
set_option maxRecDepth 20000 in
theorem wk_176 : Cond.selects RX7 yX7_beginAll yX7_beginAll ∈ gj_gw := gj_good (List.mem_of_getElem? (i := 306) rfl) rfl
set_option maxRecDepth 20000 in
theorem wk_177 : Cond.code yX7_beginAll cX7_beginAll 1 none ∈ gj_gw := gj_good (List.mem_of_getElem? (i := 307) rfl) rfl
set_option maxRecDepth 20000 in
theorem wk_178 : Cond.fieldLink RX0 21 RX0 "held" "I" ∈ gj_gw := gj_good (List.mem_of_getElem? (i := 268) rfl) rfl
set_option maxRecDepth 20000 in
theorem wk_179 : Cond.instanceMethod yX0_forget ∈ gj_gw := gj_good (List.mem_of_getElem? (i := 479) rfl) rfl
set_option maxRecDepth 20000 in
theorem wk_180 : Cond.selects RX0 yX0_forget yX0_forget ∈ gj_gw := gj_good (List.mem_of_getElem? (i := 480) rfl) rfl
set_option maxRecDepth 20000 in
theorem wk_181 : Cond.initialized RX0 ∈ gj_gw := gj_good (List.mem_of_getElem? (i := 7) rfl) rfl
set_option maxRecDepth 20000 in
theorem wk_182 : Cond.code yX0_forget cX0_forget 1 none ∈ gj_gw := gj_good (List.mem_of_getElem? (i := 481) rfl) rfl
set_option maxRecDepth 20000 in
theorem wk_183 : Cond.fieldLink RX8 20 RX8 "reader" "LPivotDocks$Reader;" ∈ gj_gw := gj_good (List.mem_of_getElem? (i := 339) rfl) rfl
set_option maxRecDepth 20000 in
theorem wk_184 : Cond.methodLink RX8 77 yX2_readText ∈ gj_gw := gj_good (List.mem_of_getElem? (i := 383) rfl) rfl
set_option maxRecDepth 20000 in
theorem wk_185 : Cond.fieldLink RX8 31 RX8 "yard" "LPivotDocks$Yard;" ∈ gj_gw := gj_good (List.mem_of_getElem? (i := 341) rfl) rfl
set_option maxRecDepth 20000 in
theorem wk_186 : Cond.fieldLink RX8 81 RX7 "plan" "LPivotDocks$Plan;" ∈ gj_gw := gj_good (List.mem_of_getElem? (i := 243) rfl) rfl
set_option maxRecDepth 20000 in
theorem wk_187 : Cond.fieldLink RX8 85 RX2 "plan" "LPivotDocks$Plan;" ∈ gj_gw := gj_good (List.mem_of_getElem? (i := 131) rfl) rfl
set_option maxRecDepth 20000 in
theorem wk_188 : Cond.methodLink RX8 86 yX1_copyFrom ∈ gj_gw := gj_good (List.mem_of_getElem? (i := 470) rfl) rfl
set_option maxRecDepth 20000 in
theorem wk_189 : Cond.fieldLink RX8 90 RX2 "routeNames" "[J" ∈ gj_gw := gj_good (List.mem_of_getElem? (i := 133) rfl) rfl
set_option maxRecDepth 20000 in
theorem wk_190 : Cond.fieldLink RX8 24 RX8 "routeNames" "[J" ∈ gj_gw := gj_good (List.mem_of_getElem? (i := 340) rfl) rfl
set_option maxRecDepth 20000 in
theorem wk_191 : Cond.methodLink RX8 91 arraycopyName ∈ gj_gw := gj_good (List.mem_of_getElem? (i := 477) rfl) rfl
set_option maxRecDepth 20000 in
theorem wk_192 : Cond.methodLink RX8 70 yX7_beginAll ∈ gj_gw := gj_good (List.mem_of_getElem? (i := 304) rfl) rfl
set_option maxRecDepth 20000 in
theorem wk_193 : Cond.fieldLink RX8 41 RX8 "past" "LPivotDocks$Past;" ∈ gj_gw := gj_good (List.mem_of_getElem? (i := 343) rfl) rfl
set_option maxRecDepth 20000 in
theorem wk_194 : Cond.methodLink RX8 97 yX0_forget ∈ gj_gw := gj_good (List.mem_of_getElem? (i := 478) rfl) rfl
set_option maxRecDepth 20000 in
theorem wk_195 : Cond.fieldLink RX8 51 RX8 "laid" "[Z" ∈ gj_gw := gj_good (List.mem_of_getElem? (i := 345) rfl) rfl
set_option maxRecDepth 20000 in
theorem wk_196 : Cond.fieldLink RX8 100 RX1 "docks" "I" ∈ gj_gw := gj_good (List.mem_of_getElem? (i := 45) rfl) rfl
set_option maxRecDepth 20000 in
theorem wk_197 : Cond.instanceMethod yX8_text ∈ gj_gw := gj_good (List.mem_of_getElem? (i := 380) rfl) rfl
set_option maxRecDepth 20000 in
theorem wk_198 : Cond.selects RX8 yX8_text yX8_text ∈ gj_gw := gj_good (List.mem_of_getElem? (i := 381) rfl) rfl
set_option maxRecDepth 20000 in
theorem wk_199 : Cond.code yX8_text cX8_text 4 (some .int) ∈ gj_gw := gj_good (List.mem_of_getElem? (i := 382) rfl) rfl
set_option maxRecDepth 20000 in
theorem wk_200 : Cond.instanceMethod yX1_hasDock ∈ gj_gw := gj_good (List.mem_of_getElem? (i := 685) rfl) rfl
set_option maxRecDepth 20000 in
theorem wk_201 : Cond.selects RX1 yX1_hasDock yX1_hasDock ∈ gj_gw := gj_good (List.mem_of_getElem? (i := 686) rfl) rfl
set_option maxRecDepth 20000 in
theorem wk_202 : Cond.code yX1_hasDock cX1_hasDock 2 (some .boolean) ∈ gj_gw := gj_good (List.mem_of_getElem? (i := 687) rfl) rfl
set_option maxRecDepth 20000 in
theorem wk_203 : Cond.instanceMethod yX5_hangsFrom ∈ gj_gw := gj_good (List.mem_of_getElem? (i := 728) rfl) rfl
set_option maxRecDepth 20000 in
theorem wk_204 : Cond.selects RX5 yX5_hangsFrom yX5_hangsFrom ∈ gj_gw := gj_good (List.mem_of_getElem? (i := 729) rfl) rfl
set_option maxRecDepth 20000 in
theorem wk_205 : Cond.code yX5_hangsFrom cX5_hangsFrom 5 (some .boolean) ∈ gj_gw := gj_good (List.mem_of_getElem? (i := 730) rfl) rfl
set_option maxRecDepth 20000 in
theorem wk_206 : Cond.fieldLink RX7 96 RX1 "docks" "I" ∈ gj_gw := gj_good (List.mem_of_getElem? (i := 46) rfl) rfl
set_option maxRecDepth 20000 in
theorem wk_207 : Cond.methodLink RX7 132 yX5_hangsFrom ∈ gj_gw := gj_good (List.mem_of_getElem? (i := 727) rfl) rfl
set_option maxRecDepth 20000 in
theorem wk_208 : Cond.instanceMethod yX7_countHanging ∈ gj_gw := gj_good (List.mem_of_getElem? (i := 917) rfl) rfl
set_option maxRecDepth 20000 in
theorem wk_209 : Cond.selects RX7 yX7_countHanging yX7_countHanging ∈ gj_gw := gj_good (List.mem_of_getElem? (i := 918) rfl) rfl
set_option maxRecDepth 20000 in
theorem wk_210 : Cond.code yX7_countHanging cX7_countHanging 4 (some .int) ∈ gj_gw := gj_good (List.mem_of_getElem? (i := 919) rfl) rfl
set_option maxRecDepth 20000 in
theorem wk_211 : Cond.instanceMethod yX1_lackOf ∈ gj_gw := gj_good (List.mem_of_getElem? (i := 648) rfl) rfl
set_option maxRecDepth 20000 in
theorem wk_212 : Cond.selects RX1 yX1_lackOf yX1_lackOf ∈ gj_gw := gj_good (List.mem_of_getElem? (i := 649) rfl) rfl
set_option maxRecDepth 20000 in
theorem wk_213 : Cond.code yX1_lackOf cX1_lackOf 3 (some .int) ∈ gj_gw := gj_good (List.mem_of_getElem? (i := 650) rfl) rfl
set_option maxRecDepth 20000 in
theorem wk_214 : Cond.instanceMethod yX1_stuckOf ∈ gj_gw := gj_good (List.mem_of_getElem? (i := 656) rfl) rfl
set_option maxRecDepth 20000 in
theorem wk_215 : Cond.selects RX1 yX1_stuckOf yX1_stuckOf ∈ gj_gw := gj_good (List.mem_of_getElem? (i := 657) rfl) rfl
set_option maxRecDepth 20000 in
theorem wk_216 : Cond.code yX1_stuckOf cX1_stuckOf 3 (some .int) ∈ gj_gw := gj_good (List.mem_of_getElem? (i := 658) rfl) rfl
set_option maxRecDepth 20000 in
theorem wk_217 : Cond.methodLink RX8 103 yX1_hasDock ∈ gj_gw := gj_good (List.mem_of_getElem? (i := 684) rfl) rfl
set_option maxRecDepth 20000 in
theorem wk_218 : Cond.fieldLink RX8 114 RX1 "gifts" "[I" ∈ gj_gw := gj_good (List.mem_of_getElem? (i := 64) rfl) rfl
set_option maxRecDepth 20000 in
theorem wk_219 : Cond.fieldLink RX8 118 RX7 "tree" "LPivotDocks$Tree;" ∈ gj_gw := gj_good (List.mem_of_getElem? (i := 245) rfl) rfl
set_option maxRecDepth 20000 in
theorem wk_220 : Cond.fieldLink RX8 122 RX5 "prices" "[I" ∈ gj_gw := gj_good (List.mem_of_getElem? (i := 193) rfl) rfl
set_option maxRecDepth 20000 in
theorem wk_221 : Cond.fieldLink RX8 127 RX5 "depths" "[I" ∈ gj_gw := gj_good (List.mem_of_getElem? (i := 190) rfl) rfl
set_option maxRecDepth 20000 in
theorem wk_222 : Cond.fieldLink RX8 130 RX5 "waysUp" "[I" ∈ gj_gw := gj_good (List.mem_of_getElem? (i := 183) rfl) rfl
set_option maxRecDepth 20000 in
theorem wk_223 : Cond.methodLink RX8 133 yX7_countHanging ∈ gj_gw := gj_good (List.mem_of_getElem? (i := 916) rfl) rfl
set_option maxRecDepth 20000 in
theorem wk_224 : Cond.methodLink RX8 137 yX1_lackOf ∈ gj_gw := gj_good (List.mem_of_getElem? (i := 920) rfl) rfl
set_option maxRecDepth 20000 in
theorem wk_225 : Cond.methodLink RX8 140 yX1_stuckOf ∈ gj_gw := gj_good (List.mem_of_getElem? (i := 921) rfl) rfl
set_option maxRecDepth 20000 in
theorem wk_226 : Cond.instanceMethod yX8_dock ∈ gj_gw := gj_good (List.mem_of_getElem? (i := 848) rfl) rfl
set_option maxRecDepth 20000 in
theorem wk_227 : Cond.selects RX8 yX8_dock yX8_dock ∈ gj_gw := gj_good (List.mem_of_getElem? (i := 849) rfl) rfl
set_option maxRecDepth 20000 in
theorem wk_228 : Cond.code yX8_dock cX8_dock 3 (some .int) ∈ gj_gw := gj_good (List.mem_of_getElem? (i := 850) rfl) rfl
set_option maxRecDepth 20000 in
theorem wk_229 : Cond.methodLink RX1 58 yX1_countWays ∈ gj_gw := gj_good (List.mem_of_getElem? (i := 523) rfl) rfl
set_option maxRecDepth 20000 in
theorem wk_230 : Cond.instanceMethod yX1_hasWay ∈ gj_gw := gj_good (List.mem_of_getElem? (i := 520) rfl) rfl
set_option maxRecDepth 20000 in
theorem wk_231 : Cond.selects RX1 yX1_hasWay yX1_hasWay ∈ gj_gw := gj_good (List.mem_of_getElem? (i := 521) rfl) rfl
set_option maxRecDepth 20000 in
theorem wk_232 : Cond.code yX1_hasWay cX1_hasWay 2 (some .boolean) ∈ gj_gw := gj_good (List.mem_of_getElem? (i := 522) rfl) rfl
set_option maxRecDepth 20000 in
theorem wk_233 : Cond.instanceMethod yX1_hasRoute ∈ gj_gw := gj_good (List.mem_of_getElem? (i := 708) rfl) rfl
set_option maxRecDepth 20000 in
theorem wk_234 : Cond.selects RX1 yX1_hasRoute yX1_hasRoute ∈ gj_gw := gj_good (List.mem_of_getElem? (i := 709) rfl) rfl
set_option maxRecDepth 20000 in
theorem wk_235 : Cond.code yX1_hasRoute cX1_hasRoute 2 (some .boolean) ∈ gj_gw := gj_good (List.mem_of_getElem? (i := 710) rfl) rfl
set_option maxRecDepth 20000 in
theorem wk_236 : Cond.fieldLink RX7 46 RX1 "costs" "[I" ∈ gj_gw := gj_good (List.mem_of_getElem? (i := 83) rfl) rfl
set_option maxRecDepth 20000 in
theorem wk_237 : Cond.fieldLink RX7 50 RX5 "prices" "[I" ∈ gj_gw := gj_good (List.mem_of_getElem? (i := 192) rfl) rfl
set_option maxRecDepth 20000 in
theorem wk_238 : Cond.fieldLink RX7 53 RX1 "begins" "[I" ∈ gj_gw := gj_good (List.mem_of_getElem? (i := 70) rfl) rfl
set_option maxRecDepth 20000 in
theorem wk_239 : Cond.fieldLink RX7 56 RX1 "ends" "[I" ∈ gj_gw := gj_good (List.mem_of_getElem? (i := 77) rfl) rfl
set_option maxRecDepth 20000 in
theorem wk_240 : Cond.instanceMethod yX7_gainOf ∈ gj_gw := gj_good (List.mem_of_getElem? (i := 504) rfl) rfl
set_option maxRecDepth 20000 in
theorem wk_241 : Cond.selects RX7 yX7_gainOf yX7_gainOf ∈ gj_gw := gj_good (List.mem_of_getElem? (i := 505) rfl) rfl
set_option maxRecDepth 20000 in
theorem wk_242 : Cond.code yX7_gainOf cX7_gainOf 2 (some .int) ∈ gj_gw := gj_good (List.mem_of_getElem? (i := 506) rfl) rfl
set_option maxRecDepth 20000 in
theorem wk_243 : Cond.methodLink RX8 145 yX1_hasWay ∈ gj_gw := gj_good (List.mem_of_getElem? (i := 519) rfl) rfl
set_option maxRecDepth 20000 in
theorem wk_244 : Cond.fieldLink RX8 150 RX1 "begins" "[I" ∈ gj_gw := gj_good (List.mem_of_getElem? (i := 72) rfl) rfl
set_option maxRecDepth 20000 in
theorem wk_245 : Cond.fieldLink RX8 153 RX1 "ends" "[I" ∈ gj_gw := gj_good (List.mem_of_getElem? (i := 79) rfl) rfl
set_option maxRecDepth 20000 in
theorem wk_246 : Cond.fieldLink RX8 156 RX1 "costs" "[I" ∈ gj_gw := gj_good (List.mem_of_getElem? (i := 84) rfl) rfl
set_option maxRecDepth 20000 in
theorem wk_247 : Cond.methodLink RX8 159 yX1_hasRoute ∈ gj_gw := gj_good (List.mem_of_getElem? (i := 707) rfl) rfl
set_option maxRecDepth 20000 in
theorem wk_248 : Cond.fieldLink RX8 162 RX1 "holds" "[I" ∈ gj_gw := gj_good (List.mem_of_getElem? (i := 88) rfl) rfl
set_option maxRecDepth 20000 in
theorem wk_249 : Cond.fieldLink RX8 165 RX1 "flows" "[I" ∈ gj_gw := gj_good (List.mem_of_getElem? (i := 93) rfl) rfl
set_option maxRecDepth 20000 in
theorem wk_250 : Cond.fieldLink RX8 168 RX1 "states" "[I" ∈ gj_gw := gj_good (List.mem_of_getElem? (i := 99) rfl) rfl
set_option maxRecDepth 20000 in
theorem wk_251 : Cond.methodLink RX8 171 yX7_gainOf ∈ gj_gw := gj_good (List.mem_of_getElem? (i := 931) rfl) rfl
set_option maxRecDepth 20000 in
theorem wk_252 : Cond.instanceMethod yX8_way ∈ gj_gw := gj_good (List.mem_of_getElem? (i := 927) rfl) rfl
set_option maxRecDepth 20000 in
theorem wk_253 : Cond.selects RX8 yX8_way yX8_way ∈ gj_gw := gj_good (List.mem_of_getElem? (i := 928) rfl) rfl
set_option maxRecDepth 20000 in
theorem wk_254 : Cond.code yX8_way cX8_way 4 (some .int) ∈ gj_gw := gj_good (List.mem_of_getElem? (i := 929) rfl) rfl
set_option maxRecDepth 20000 in
theorem wk_255 : Cond.instanceMethod yX7_countAheadOf ∈ gj_gw := gj_good (List.mem_of_getElem? (i := 487) rfl) rfl
set_option maxRecDepth 20000 in
theorem wk_256 : Cond.selects RX7 yX7_countAheadOf yX7_countAheadOf ∈ gj_gw := gj_good (List.mem_of_getElem? (i := 488) rfl) rfl
set_option maxRecDepth 20000 in
theorem wk_257 : Cond.code yX7_countAheadOf cX7_countAheadOf 5 (some .int) ∈ gj_gw := gj_good (List.mem_of_getElem? (i := 489) rfl) rfl
set_option maxRecDepth 20000 in
theorem wk_258 : Cond.methodLink RX8 176 yX7_countAheadOf ∈ gj_gw := gj_good (List.mem_of_getElem? (i := 486) rfl) rfl
set_option maxRecDepth 20000 in
theorem wk_259 : Cond.instanceMethod yX8_ranked ∈ gj_gw := gj_good (List.mem_of_getElem? (i := 483) rfl) rfl
set_option maxRecDepth 20000 in
theorem wk_260 : Cond.selects RX8 yX8_ranked yX8_ranked ∈ gj_gw := gj_good (List.mem_of_getElem? (i := 484) rfl) rfl
set_option maxRecDepth 20000 in
theorem wk_261 : Cond.code yX8_ranked cX8_ranked 3 (some .int) ∈ gj_gw := gj_good (List.mem_of_getElem? (i := 485) rfl) rfl
set_option maxRecDepth 20000 in
theorem wk_262 : Cond.methodLink RX7 59 yX7_gainOf ∈ gj_gw := gj_good (List.mem_of_getElem? (i := 503) rfl) rfl
set_option maxRecDepth 20000 in
theorem wk_263 : Cond.fieldLink RX7 63 RX1 "states" "[I" ∈ gj_gw := gj_good (List.mem_of_getElem? (i := 98) rfl) rfl
set_option maxRecDepth 20000 in
theorem wk_264 : Cond.instanceMethod yX7_goodness ∈ gj_gw := gj_good (List.mem_of_getElem? (i := 501) rfl) rfl
set_option maxRecDepth 20000 in
theorem wk_265 : Cond.selects RX7 yX7_goodness yX7_goodness ∈ gj_gw := gj_goodP (List.mem_of_getElem? (i := 20) rfl) rfl
set_option maxRecDepth 20000 in
theorem wk_266 : Cond.code yX7_goodness cX7_goodness 3 (some .int) ∈ gj_gw := gj_good (List.mem_of_getElem? (i := 502) rfl) rfl
set_option maxRecDepth 20000 in
theorem wk_267 : Cond.methodLink RX7 66 yX1_countWays ∈ gj_gw := gj_good (List.mem_of_getElem? (i := 498) rfl) rfl
set_option maxRecDepth 20000 in
theorem wk_268 : Cond.methodLink RX7 70 yX7_goodness ∈ gj_gw := gj_good (List.mem_of_getElem? (i := 499) rfl) rfl
set_option maxRecDepth 20000 in
theorem wk_269 : Cond.instanceMethod yX7_countGood ∈ gj_gw := gj_good (List.mem_of_getElem? (i := 495) rfl) rfl
set_option maxRecDepth 20000 in
theorem wk_270 : Cond.selects RX7 yX7_countGood yX7_countGood ∈ gj_gw := gj_good (List.mem_of_getElem? (i := 496) rfl) rfl
set_option maxRecDepth 20000 in
theorem wk_271 : Cond.code yX7_countGood cX7_countGood 3 (some .int) ∈ gj_gw := gj_good (List.mem_of_getElem? (i := 497) rfl) rfl
set_option maxRecDepth 20000 in
theorem wk_272 : Cond.methodLink RX8 179 yX7_countGood ∈ gj_gw := gj_good (List.mem_of_getElem? (i := 494) rfl) rfl
set_option maxRecDepth 20000 in
theorem wk_273 : Cond.instanceMethod yX8_good ∈ gj_gw := gj_good (List.mem_of_getElem? (i := 491) rfl) rfl
set_option maxRecDepth 20000 in
theorem wk_274 : Cond.selects RX8 yX8_good yX8_good ∈ gj_gw := gj_good (List.mem_of_getElem? (i := 492) rfl) rfl
set_option maxRecDepth 20000 in
theorem wk_275 : Cond.code yX8_good cX8_good 1 (some .int) ∈ gj_gw := gj_good (List.mem_of_getElem? (i := 493) rfl) rfl
set_option maxRecDepth 20000 in
theorem wk_276 : Cond.fieldLink RX7 76 RX1 "pointer" "I" ∈ gj_gw := gj_good (List.mem_of_getElem? (i := 58) rfl) rfl
set_option maxRecDepth 20000 in
theorem wk_277 : Cond.fieldLink RX7 79 RX1 "block" "I" ∈ gj_gw := gj_good (List.mem_of_getElem? (i := 55) rfl) rfl
set_option maxRecDepth 20000 in
theorem wk_278 : Cond.fieldLink RX7 32 RX7 "behindLooked" "I" ∈ gj_gw := gj_good (List.mem_of_getElem? (i := 247) rfl) rfl
set_option maxRecDepth 20000 in
theorem wk_279 : Cond.instanceMethod yX7_findEntering ∈ gj_gw := gj_good (List.mem_of_getElem? (i := 512) rfl) rfl
set_option maxRecDepth 20000 in
theorem wk_280 : Cond.selects RX7 yX7_findEntering yX7_findEntering ∈ gj_gw := gj_good (List.mem_of_getElem? (i := 513) rfl) rfl
set_option maxRecDepth 20000 in
theorem wk_281 : Cond.code yX7_findEntering cX7_findEntering 8 (some .int) ∈ gj_gw := gj_good (List.mem_of_getElem? (i := 514) rfl) rfl
set_option maxRecDepth 20000 in
theorem wk_282 : Cond.methodLink RX8 183 yX7_findEntering ∈ gj_gw := gj_good (List.mem_of_getElem? (i := 511) rfl) rfl
set_option maxRecDepth 20000 in
theorem wk_283 : Cond.instanceMethod yX8_enters ∈ gj_gw := gj_good (List.mem_of_getElem? (i := 508) rfl) rfl
set_option maxRecDepth 20000 in
theorem wk_284 : Cond.selects RX8 yX8_enters yX8_enters ∈ gj_gw := gj_good (List.mem_of_getElem? (i := 509) rfl) rfl
set_option maxRecDepth 20000 in
theorem wk_285 : Cond.code yX8_enters cX8_enters 2 (some .int) ∈ gj_gw := gj_good (List.mem_of_getElem? (i := 510) rfl) rfl
set_option maxRecDepth 20000 in
theorem wk_286 : Cond.instanceMethod yX5_findApex ∈ gj_gw := gj_good (List.mem_of_getElem? (i := 533) rfl) rfl
set_option maxRecDepth 20000 in
theorem wk_287 : Cond.selects RX5 yX5_findApex yX5_findApex ∈ gj_gw := gj_good (List.mem_of_getElem? (i := 534) rfl) rfl
set_option maxRecDepth 20000 in
theorem wk_288 : Cond.code yX5_findApex cX5_findApex 6 (some .int) ∈ gj_gw := gj_good (List.mem_of_getElem? (i := 535) rfl) rfl
set_option maxRecDepth 20000 in
theorem wk_289 : Cond.fieldLink RX3 21 RX3 "ways" "[I" ∈ gj_gw := gj_good (List.mem_of_getElem? (i := 222) rfl) rfl
set_option maxRecDepth 20000 in
theorem wk_290 : Cond.fieldLink RX3 25 RX3 "alongs" "[Z" ∈ gj_gw := gj_good (List.mem_of_getElem? (i := 225) rfl) rfl
set_option maxRecDepth 20000 in
theorem wk_291 : Cond.fieldLink RX3 9 RX3 "size" "I" ∈ gj_gw := gj_good (List.mem_of_getElem? (i := 212) rfl) rfl
set_option maxRecDepth 20000 in
theorem wk_292 : Cond.instanceMethod yX3_put ∈ gj_gw := gj_good (List.mem_of_getElem? (i := 541) rfl) rfl
set_option maxRecDepth 20000 in
theorem wk_293 : Cond.selects RX3 yX3_put yX3_put ∈ gj_gw := gj_goodP (List.mem_of_getElem? (i := 21) rfl) rfl
set_option maxRecDepth 20000 in
theorem wk_294 : Cond.initialized RX3 ∈ gj_gw := gj_good (List.mem_of_getElem? (i := 6) rfl) rfl
set_option maxRecDepth 20000 in
theorem wk_295 : Cond.code yX3_put cX3_put 4 none ∈ gj_gw := gj_good (List.mem_of_getElem? (i := 542) rfl) rfl
set_option maxRecDepth 20000 in
theorem wk_296 : Cond.instanceMethod yX1_roomOf ∈ gj_gw := gj_good (List.mem_of_getElem? (i := 549) rfl) rfl
set_option maxRecDepth 20000 in
theorem wk_297 : Cond.selects RX1 yX1_roomOf yX1_roomOf ∈ gj_gw := gj_good (List.mem_of_getElem? (i := 550) rfl) rfl
set_option maxRecDepth 20000 in
theorem wk_298 : Cond.code yX1_roomOf cX1_roomOf 3 (some .int) ∈ gj_gw := gj_good (List.mem_of_getElem? (i := 551) rfl) rfl
set_option maxRecDepth 20000 in
theorem wk_299 : Cond.constant RX3 71 (1000000 : Int32) ∈ gj_gw := gj_good (List.mem_of_getElem? (i := 547) rfl) rfl
set_option maxRecDepth 20000 in
theorem wk_300 : Cond.fieldLink RX3 18 RX3 "least" "I" ∈ gj_gw := gj_good (List.mem_of_getElem? (i := 218) rfl) rfl
set_option maxRecDepth 20000 in
theorem wk_301 : Cond.fieldLink RX3 29 RX3 "leavingAt" "I" ∈ gj_gw := gj_good (List.mem_of_getElem? (i := 227) rfl) rfl
set_option maxRecDepth 20000 in
theorem wk_302 : Cond.methodLink RX3 75 yX1_roomOf ∈ gj_gw := gj_good (List.mem_of_getElem? (i := 548) rfl) rfl
set_option maxRecDepth 20000 in
theorem wk_303 : Cond.fieldLink RX3 72 RX1 "holds" "[I" ∈ gj_gw := gj_good (List.mem_of_getElem? (i := 87) rfl) rfl
set_option maxRecDepth 20000 in
theorem wk_304 : Cond.instanceMethod yX3_findLeaving ∈ gj_gw := gj_good (List.mem_of_getElem? (i := 545) rfl) rfl
set_option maxRecDepth 20000 in
theorem wk_305 : Cond.selects RX3 yX3_findLeaving yX3_findLeaving ∈ gj_gw := gj_goodP (List.mem_of_getElem? (i := 22) rfl) rfl
set_option maxRecDepth 20000 in
theorem wk_306 : Cond.code yX3_findLeaving cX3_findLeaving 6 none ∈ gj_gw := gj_good (List.mem_of_getElem? (i := 546) rfl) rfl
set_option maxRecDepth 20000 in
theorem wk_307 : Cond.fieldLink RX3 32 RX1 "states" "[I" ∈ gj_gw := gj_good (List.mem_of_getElem? (i := 96) rfl) rfl
set_option maxRecDepth 20000 in
theorem wk_308 : Cond.fieldLink RX3 40 RX1 "ends" "[I" ∈ gj_gw := gj_good (List.mem_of_getElem? (i := 74) rfl) rfl
set_option maxRecDepth 20000 in
theorem wk_309 : Cond.fieldLink RX3 37 RX1 "begins" "[I" ∈ gj_gw := gj_good (List.mem_of_getElem? (i := 67) rfl) rfl
set_option maxRecDepth 20000 in
theorem wk_310 : Cond.methodLink RX3 43 yX5_findApex ∈ gj_gw := gj_good (List.mem_of_getElem? (i := 532) rfl) rfl
set_option maxRecDepth 20000 in
theorem wk_311 : Cond.fieldLink RX3 15 RX3 "apex" "I" ∈ gj_gw := gj_good (List.mem_of_getElem? (i := 216) rfl) rfl
set_option maxRecDepth 20000 in
theorem wk_312 : Cond.fieldLink RX3 49 RX5 "depths" "[I" ∈ gj_gw := gj_good (List.mem_of_getElem? (i := 189) rfl) rfl
set_option maxRecDepth 20000 in
theorem wk_313 : Cond.methodLink RX3 52 Lib.Math.max.name ∈ gj_gw := gj_good (List.mem_of_getElem? (i := 536) rfl) rfl
set_option maxRecDepth 20000 in
theorem wk_314 : Cond.fieldLink RX3 57 RX5 "waysUp" "[I" ∈ gj_gw := gj_good (List.mem_of_getElem? (i := 182) rfl) rfl
set_option maxRecDepth 20000 in
theorem wk_315 : Cond.methodLink RX3 60 yX3_put ∈ gj_gw := gj_good (List.mem_of_getElem? (i := 539) rfl) rfl
set_option maxRecDepth 20000 in
theorem wk_316 : Cond.fieldLink RX3 64 RX5 "parents" "[I" ∈ gj_gw := gj_good (List.mem_of_getElem? (i := 186) rfl) rfl
set_option maxRecDepth 20000 in
theorem wk_317 : Cond.methodLink RX3 67 yX3_findLeaving ∈ gj_gw := gj_good (List.mem_of_getElem? (i := 543) rfl) rfl
set_option maxRecDepth 20000 in
theorem wk_318 : Cond.instanceMethod yX3_trace ∈ gj_gw := gj_good (List.mem_of_getElem? (i := 529) rfl) rfl
set_option maxRecDepth 20000 in
theorem wk_319 : Cond.selects RX3 yX3_trace yX3_trace ∈ gj_gw := gj_good (List.mem_of_getElem? (i := 530) rfl) rfl
set_option maxRecDepth 20000 in
theorem wk_320 : Cond.code yX3_trace cX3_trace 11 none ∈ gj_gw := gj_good (List.mem_of_getElem? (i := 531) rfl) rfl
set_option maxRecDepth 20000 in
theorem wk_321 : Cond.fieldLink RX7 28 RX7 "closed" "LPivotDocks$Ring;" ∈ gj_gw := gj_good (List.mem_of_getElem? (i := 246) rfl) rfl
set_option maxRecDepth 20000 in
theorem wk_322 : Cond.methodLink RX7 82 yX3_trace ∈ gj_gw := gj_good (List.mem_of_getElem? (i := 528) rfl) rfl
set_option maxRecDepth 20000 in
theorem wk_323 : Cond.instanceMethod yX7_traceRing ∈ gj_gw := gj_good (List.mem_of_getElem? (i := 525) rfl) rfl
set_option maxRecDepth 20000 in
theorem wk_324 : Cond.selects RX7 yX7_traceRing yX7_traceRing ∈ gj_gw := gj_good (List.mem_of_getElem? (i := 526) rfl) rfl
set_option maxRecDepth 20000 in
theorem wk_325 : Cond.code yX7_traceRing cX7_traceRing 2 (some (.object "PivotDocks$Ring")) ∈ gj_gw := gj_good (List.mem_of_getElem? (i := 527) rfl) rfl
set_option maxRecDepth 20000 in
theorem wk_326 : Cond.methodLink RX8 186 yX7_traceRing ∈ gj_gw := gj_good (List.mem_of_getElem? (i := 524) rfl) rfl
set_option maxRecDepth 20000 in
theorem wk_327 : Cond.fieldLink RX8 190 RX3 "size" "I" ∈ gj_gw := gj_good (List.mem_of_getElem? (i := 213) rfl) rfl
set_option maxRecDepth 20000 in
theorem wk_328 : Cond.fieldLink RX8 195 RX3 "ways" "[I" ∈ gj_gw := gj_good (List.mem_of_getElem? (i := 223) rfl) rfl
set_option maxRecDepth 20000 in
theorem wk_329 : Cond.instanceMethod yX8_ring ∈ gj_gw := gj_good (List.mem_of_getElem? (i := 516) rfl) rfl
set_option maxRecDepth 20000 in
theorem wk_330 : Cond.selects RX8 yX8_ring yX8_ring ∈ gj_gw := gj_good (List.mem_of_getElem? (i := 517) rfl) rfl
set_option maxRecDepth 20000 in
theorem wk_331 : Cond.code yX8_ring cX8_ring 4 (some .int) ∈ gj_gw := gj_good (List.mem_of_getElem? (i := 518) rfl) rfl
set_option maxRecDepth 20000 in
theorem wk_332 : Cond.instanceMethod yX3_leavingWay ∈ gj_gw := gj_good (List.mem_of_getElem? (i := 557) rfl) rfl
set_option maxRecDepth 20000 in
theorem wk_333 : Cond.selects RX3 yX3_leavingWay yX3_leavingWay ∈ gj_gw := gj_good (List.mem_of_getElem? (i := 558) rfl) rfl
set_option maxRecDepth 20000 in
theorem wk_334 : Cond.code yX3_leavingWay cX3_leavingWay 1 (some .int) ∈ gj_gw := gj_good (List.mem_of_getElem? (i := 559) rfl) rfl
set_option maxRecDepth 20000 in
theorem wk_335 : Cond.fieldLink RX8 204 RX3 "apex" "I" ∈ gj_gw := gj_good (List.mem_of_getElem? (i := 217) rfl) rfl
set_option maxRecDepth 20000 in
theorem wk_336 : Cond.methodLink RX8 201 yX3_leavingWay ∈ gj_gw := gj_good (List.mem_of_getElem? (i := 556) rfl) rfl
set_option maxRecDepth 20000 in
theorem wk_337 : Cond.fieldLink RX8 198 RX3 "least" "I" ∈ gj_gw := gj_good (List.mem_of_getElem? (i := 220) rfl) rfl
set_option maxRecDepth 20000 in
theorem wk_338 : Cond.instanceMethod yX8_closes ∈ gj_gw := gj_good (List.mem_of_getElem? (i := 553) rfl) rfl
set_option maxRecDepth 20000 in
theorem wk_339 : Cond.selects RX8 yX8_closes yX8_closes ∈ gj_gw := gj_good (List.mem_of_getElem? (i := 554) rfl) rfl
set_option maxRecDepth 20000 in
theorem wk_340 : Cond.code yX8_closes cX8_closes 4 (some .int) ∈ gj_gw := gj_good (List.mem_of_getElem? (i := 555) rfl) rfl
set_option maxRecDepth 20000 in
theorem wk_341 : Cond.fieldLink RX7 136 RX5 "waysUp" "[I" ∈ gj_gw := gj_good (List.mem_of_getElem? (i := 184) rfl) rfl
set_option maxRecDepth 20000 in
theorem wk_342 : Cond.methodLink RX7 139 yX1_roomOf ∈ gj_gw := gj_good (List.mem_of_getElem? (i := 568) rfl) rfl
set_option maxRecDepth 20000 in
theorem wk_343 : Cond.instanceMethod yX7_isStrong ∈ gj_gw := gj_good (List.mem_of_getElem? (i := 565) rfl) rfl
set_option maxRecDepth 20000 in
theorem wk_344 : Cond.selects RX7 yX7_isStrong yX7_isStrong ∈ gj_gw := gj_good (List.mem_of_getElem? (i := 566) rfl) rfl
set_option maxRecDepth 20000 in
theorem wk_345 : Cond.code yX7_isStrong cX7_isStrong 4 (some .boolean) ∈ gj_gw := gj_good (List.mem_of_getElem? (i := 567) rfl) rfl
set_option maxRecDepth 20000 in
theorem wk_346 : Cond.methodLink RX8 207 yX7_isStrong ∈ gj_gw := gj_good (List.mem_of_getElem? (i := 564) rfl) rfl
set_option maxRecDepth 20000 in
theorem wk_347 : Cond.instanceMethod yX8_strong ∈ gj_gw := gj_good (List.mem_of_getElem? (i := 561) rfl) rfl
set_option maxRecDepth 20000 in
theorem wk_348 : Cond.selects RX8 yX8_strong yX8_strong ∈ gj_gw := gj_good (List.mem_of_getElem? (i := 562) rfl) rfl
set_option maxRecDepth 20000 in
theorem wk_349 : Cond.code yX8_strong cX8_strong 1 (some .int) ∈ gj_gw := gj_good (List.mem_of_getElem? (i := 563) rfl) rfl
set_option maxRecDepth 20000 in
theorem wk_350 : Cond.methodLink RX7 73 yX7_countGood ∈ gj_gw := gj_good (List.mem_of_getElem? (i := 577) rfl) rfl
set_option maxRecDepth 20000 in
theorem wk_351 : Cond.instanceMethod yX7_isEnd ∈ gj_gw := gj_good (List.mem_of_getElem? (i := 574) rfl) rfl
set_option maxRecDepth 20000 in
theorem wk_352 : Cond.selects RX7 yX7_isEnd yX7_isEnd ∈ gj_gw := gj_good (List.mem_of_getElem? (i := 575) rfl) rfl
set_option maxRecDepth 20000 in
theorem wk_353 : Cond.code yX7_isEnd cX7_isEnd 1 (some .boolean) ∈ gj_gw := gj_good (List.mem_of_getElem? (i := 576) rfl) rfl
set_option maxRecDepth 20000 in
theorem wk_354 : Cond.fieldLink RX0 11 RX0 "plans" "[LPivotDocks$Plan;" ∈ gj_gw := gj_good (List.mem_of_getElem? (i := 266) rfl) rfl
set_option maxRecDepth 20000 in
theorem wk_355 : Cond.fieldLink RX0 17 RX0 "next" "I" ∈ gj_gw := gj_good (List.mem_of_getElem? (i := 267) rfl) rfl
set_option maxRecDepth 20000 in
theorem wk_356 : Cond.methodLink RX0 25 yX1_copyFrom ∈ gj_gw := gj_good (List.mem_of_getElem? (i := 582) rfl) rfl
set_option maxRecDepth 20000 in
theorem wk_357 : Cond.methodLink RX0 29 Lib.Math.min.name ∈ gj_gw := gj_good (List.mem_of_getElem? (i := 583) rfl) rfl
set_option maxRecDepth 20000 in
theorem wk_358 : Cond.instanceMethod yX0_remember ∈ gj_gw := gj_good (List.mem_of_getElem? (i := 579) rfl) rfl
set_option maxRecDepth 20000 in
theorem wk_359 : Cond.selects RX0 yX0_remember yX0_remember ∈ gj_gw := gj_good (List.mem_of_getElem? (i := 580) rfl) rfl
set_option maxRecDepth 20000 in
theorem wk_360 : Cond.code yX0_remember cX0_remember 2 none ∈ gj_gw := gj_good (List.mem_of_getElem? (i := 581) rfl) rfl
set_option maxRecDepth 20000 in
theorem wk_361 : Cond.fieldLink RX7 106 RX3 "size" "I" ∈ gj_gw := gj_good (List.mem_of_getElem? (i := 214) rfl) rfl
set_option maxRecDepth 20000 in
theorem wk_362 : Cond.fieldLink RX7 109 RX1 "flows" "[I" ∈ gj_gw := gj_good (List.mem_of_getElem? (i := 94) rfl) rfl
set_option maxRecDepth 20000 in
theorem wk_363 : Cond.fieldLink RX7 112 RX3 "ways" "[I" ∈ gj_gw := gj_good (List.mem_of_getElem? (i := 224) rfl) rfl
set_option maxRecDepth 20000 in
theorem wk_364 : Cond.fieldLink RX7 115 RX3 "alongs" "[Z" ∈ gj_gw := gj_good (List.mem_of_getElem? (i := 226) rfl) rfl
set_option maxRecDepth 20000 in
theorem wk_365 : Cond.fieldLink RX7 119 RX3 "least" "I" ∈ gj_gw := gj_good (List.mem_of_getElem? (i := 219) rfl) rfl
set_option maxRecDepth 20000 in
theorem wk_366 : Cond.instanceMethod yX7_moveFlows ∈ gj_gw := gj_good (List.mem_of_getElem? (i := 591) rfl) rfl
set_option maxRecDepth 20000 in
theorem wk_367 : Cond.selects RX7 yX7_moveFlows yX7_moveFlows ∈ gj_gw := gj_goodP (List.mem_of_getElem? (i := 23) rfl) rfl
set_option maxRecDepth 20000 in
theorem wk_368 : Cond.code yX7_moveFlows cX7_moveFlows 2 none ∈ gj_gw := gj_good (List.mem_of_getElem? (i := 592) rfl) rfl
set_option maxRecDepth 20000 in
theorem wk_369 : Cond.instanceMethod yX3_leavesAlong ∈ gj_gw := gj_good (List.mem_of_getElem? (i := 599) rfl) rfl
set_option maxRecDepth 20000 in
theorem wk_370 : Cond.selects RX3 yX3_leavesAlong yX3_leavesAlong ∈ gj_gw := gj_good (List.mem_of_getElem? (i := 600) rfl) rfl
set_option maxRecDepth 20000 in
theorem wk_371 : Cond.code yX3_leavesAlong cX3_leavesAlong 1 (some .boolean) ∈ gj_gw := gj_good (List.mem_of_getElem? (i := 601) rfl) rfl
set_option maxRecDepth 20000 in
theorem wk_372 : Cond.methodLink RX7 122 yX3_leavingWay ∈ gj_gw := gj_good (List.mem_of_getElem? (i := 597) rfl) rfl
set_option maxRecDepth 20000 in
theorem wk_373 : Cond.methodLink RX7 125 yX3_leavesAlong ∈ gj_gw := gj_good (List.mem_of_getElem? (i := 598) rfl) rfl
set_option maxRecDepth 20000 in
theorem wk_374 : Cond.instanceMethod yX7_exchange ∈ gj_gw := gj_good (List.mem_of_getElem? (i := 595) rfl) rfl
set_option maxRecDepth 20000 in
theorem wk_375 : Cond.selects RX7 yX7_exchange yX7_exchange ∈ gj_gw := gj_goodP (List.mem_of_getElem? (i := 24) rfl) rfl
set_option maxRecDepth 20000 in
theorem wk_376 : Cond.code yX7_exchange cX7_exchange 3 none ∈ gj_gw := gj_good (List.mem_of_getElem? (i := 596) rfl) rfl
set_option maxRecDepth 20000 in
theorem wk_377 : Cond.instanceMethod yX5_countMoved ∈ gj_gw := gj_good (List.mem_of_getElem? (i := 603) rfl) rfl
set_option maxRecDepth 20000 in
theorem wk_378 : Cond.selects RX5 yX5_countMoved yX5_countMoved ∈ gj_gw := gj_good (List.mem_of_getElem? (i := 604) rfl) rfl
set_option maxRecDepth 20000 in
theorem wk_379 : Cond.code yX5_countMoved cX5_countMoved 4 (some .int) ∈ gj_gw := gj_good (List.mem_of_getElem? (i := 605) rfl) rfl
set_option maxRecDepth 20000 in
theorem wk_380 : Cond.static yJ9_floorMod_7cf53 ∈ gj_gw := gj_good (List.mem_of_getElem? (i := 611) rfl) rfl
set_option maxRecDepth 20000 in
theorem wk_381 : Cond.initialized RJ9 ∈ gj_gw := gj_good (List.mem_of_getElem? (i := 11) rfl) rfl
set_option maxRecDepth 20000 in
theorem wk_382 : Cond.code yJ9_floorMod_7cf53 cJ9_floorMod_7cf53 3 (some .int) ∈ gj_gw := gj_good (List.mem_of_getElem? (i := 612) rfl) rfl
set_option maxRecDepth 20000 in
theorem wk_383 : Cond.methodLink RX1 80 yJ9_floorMod_7cf53 ∈ gj_gw := gj_good (List.mem_of_getElem? (i := 610) rfl) rfl
set_option maxRecDepth 20000 in
theorem wk_384 : Cond.methodLink RX1 83 yX3_leavingWay ∈ gj_gw := gj_good (List.mem_of_getElem? (i := 613) rfl) rfl
set_option maxRecDepth 20000 in
theorem wk_385 : Cond.fieldLink RX1 88 RX3 "least" "I" ∈ gj_gw := gj_good (List.mem_of_getElem? (i := 221) rfl) rfl
set_option maxRecDepth 20000 in
theorem wk_386 : Cond.fieldLink RX1 91 RX3 "size" "I" ∈ gj_gw := gj_good (List.mem_of_getElem? (i := 215) rfl) rfl
set_option maxRecDepth 20000 in
theorem wk_387 : Cond.instanceMethod yX1_writeLog ∈ gj_gw := gj_good (List.mem_of_getElem? (i := 607) rfl) rfl
set_option maxRecDepth 20000 in
theorem wk_388 : Cond.selects RX1 yX1_writeLog yX1_writeLog ∈ gj_gw := gj_good (List.mem_of_getElem? (i := 608) rfl) rfl
set_option maxRecDepth 20000 in
theorem wk_389 : Cond.code yX1_writeLog cX1_writeLog 5 none ∈ gj_gw := gj_good (List.mem_of_getElem? (i := 609) rfl) rfl
set_option maxRecDepth 20000 in
theorem wk_390 : Cond.methodLink RX7 86 yX7_findEntering ∈ gj_gw := gj_good (List.mem_of_getElem? (i := 588) rfl) rfl
set_option maxRecDepth 20000 in
theorem wk_391 : Cond.methodLink RX7 89 yX7_moveFlows ∈ gj_gw := gj_good (List.mem_of_getElem? (i := 589) rfl) rfl
set_option maxRecDepth 20000 in
theorem wk_392 : Cond.methodLink RX7 92 yX7_exchange ∈ gj_gw := gj_good (List.mem_of_getElem? (i := 593) rfl) rfl
set_option maxRecDepth 20000 in
theorem wk_393 : Cond.methodLink RX7 99 yX5_countMoved ∈ gj_gw := gj_good (List.mem_of_getElem? (i := 602) rfl) rfl
set_option maxRecDepth 20000 in
theorem wk_394 : Cond.methodLink RX7 102 yX1_writeLog ∈ gj_gw := gj_good (List.mem_of_getElem? (i := 606) rfl) rfl
set_option maxRecDepth 20000 in
theorem wk_395 : Cond.instanceMethod yX7_makePivot ∈ gj_gw := gj_good (List.mem_of_getElem? (i := 585) rfl) rfl
set_option maxRecDepth 20000 in
theorem wk_396 : Cond.selects RX7 yX7_makePivot yX7_makePivot ∈ gj_gw := gj_good (List.mem_of_getElem? (i := 586) rfl) rfl
set_option maxRecDepth 20000 in
theorem wk_397 : Cond.code yX7_makePivot cX7_makePivot 2 (some .int) ∈ gj_gw := gj_good (List.mem_of_getElem? (i := 587) rfl) rfl
set_option maxRecDepth 20000 in
theorem wk_398 : Cond.methodLink RX8 211 yX7_isEnd ∈ gj_gw := gj_good (List.mem_of_getElem? (i := 573) rfl) rfl
set_option maxRecDepth 20000 in
theorem wk_399 : Cond.methodLink RX8 214 yX0_remember ∈ gj_gw := gj_good (List.mem_of_getElem? (i := 578) rfl) rfl
set_option maxRecDepth 20000 in
theorem wk_400 : Cond.methodLink RX8 217 yX7_makePivot ∈ gj_gw := gj_good (List.mem_of_getElem? (i := 584) rfl) rfl
set_option maxRecDepth 20000 in
theorem wk_401 : Cond.instanceMethod yX8_step ∈ gj_gw := gj_good (List.mem_of_getElem? (i := 570) rfl) rfl
set_option maxRecDepth 20000 in
theorem wk_402 : Cond.selects RX8 yX8_step yX8_step ∈ gj_gw := gj_good (List.mem_of_getElem? (i := 571) rfl) rfl
set_option maxRecDepth 20000 in
theorem wk_403 : Cond.code yX8_step cX8_step 1 (some .int) ∈ gj_gw := gj_good (List.mem_of_getElem? (i := 572) rfl) rfl
set_option maxRecDepth 20000 in
theorem wk_404 : Cond.methodLink RX7 129 yX7_makePivot ∈ gj_gw := gj_good (List.mem_of_getElem? (i := 622) rfl) rfl
set_option maxRecDepth 20000 in
theorem wk_405 : Cond.instanceMethod yX7_makePivots ∈ gj_gw := gj_good (List.mem_of_getElem? (i := 619) rfl) rfl
set_option maxRecDepth 20000 in
theorem wk_406 : Cond.selects RX7 yX7_makePivots yX7_makePivots ∈ gj_gw := gj_good (List.mem_of_getElem? (i := 620) rfl) rfl
set_option maxRecDepth 20000 in
theorem wk_407 : Cond.code yX7_makePivots cX7_makePivots 3 (some .int) ∈ gj_gw := gj_good (List.mem_of_getElem? (i := 621) rfl) rfl
set_option maxRecDepth 20000 in
theorem wk_408 : Cond.methodLink RX8 220 yX7_makePivots ∈ gj_gw := gj_good (List.mem_of_getElem? (i := 618) rfl) rfl
set_option maxRecDepth 20000 in
theorem wk_409 : Cond.instanceMethod yX8_run ∈ gj_gw := gj_good (List.mem_of_getElem? (i := 615) rfl) rfl
set_option maxRecDepth 20000 in
theorem wk_410 : Cond.selects RX8 yX8_run yX8_run ∈ gj_gw := gj_good (List.mem_of_getElem? (i := 616) rfl) rfl
set_option maxRecDepth 20000 in
theorem wk_411 : Cond.code yX8_run cX8_run 2 (some .int) ∈ gj_gw := gj_good (List.mem_of_getElem? (i := 617) rfl) rfl
set_option maxRecDepth 20000 in
theorem wk_412 : Cond.methodLink RX1 74 Lib.Math.min.name ∈ gj_gw := gj_good (List.mem_of_getElem? (i := 834) rfl) rfl
set_option maxRecDepth 20000 in
theorem wk_413 : Cond.instanceMethod yX1_countLogged ∈ gj_gw := gj_good (List.mem_of_getElem? (i := 831) rfl) rfl
set_option maxRecDepth 20000 in
theorem wk_414 : Cond.selects RX1 yX1_countLogged yX1_countLogged ∈ gj_gw := gj_good (List.mem_of_getElem? (i := 832) rfl) rfl
set_option maxRecDepth 20000 in
theorem wk_415 : Cond.code yX1_countLogged cX1_countLogged 1 (some .int) ∈ gj_gw := gj_good (List.mem_of_getElem? (i := 833) rfl) rfl
set_option maxRecDepth 20000 in
theorem wk_416 : Cond.instanceMethod yX1_readLog ∈ gj_gw := gj_good (List.mem_of_getElem? (i := 943) rfl) rfl
set_option maxRecDepth 20000 in
theorem wk_417 : Cond.selects RX1 yX1_readLog yX1_readLog ∈ gj_gw := gj_good (List.mem_of_getElem? (i := 944) rfl) rfl
set_option maxRecDepth 20000 in
theorem wk_418 : Cond.code yX1_readLog cX1_readLog 3 (some .int) ∈ gj_gw := gj_good (List.mem_of_getElem? (i := 945) rfl) rfl
set_option maxRecDepth 20000 in
theorem wk_419 : Cond.methodLink RX8 223 yX1_countLogged ∈ gj_gw := gj_good (List.mem_of_getElem? (i := 830) rfl) rfl
set_option maxRecDepth 20000 in
theorem wk_420 : Cond.methodLink RX8 230 yX1_readLog ∈ gj_gw := gj_good (List.mem_of_getElem? (i := 942) rfl) rfl
set_option maxRecDepth 20000 in
theorem wk_421 : Cond.instanceMethod yX8_log ∈ gj_gw := gj_good (List.mem_of_getElem? (i := 937) rfl) rfl
set_option maxRecDepth 20000 in
theorem wk_422 : Cond.selects RX8 yX8_log yX8_log ∈ gj_gw := gj_good (List.mem_of_getElem? (i := 938) rfl) rfl
set_option maxRecDepth 20000 in
theorem wk_423 : Cond.code yX8_log cX8_log 3 (some .int) ∈ gj_gw := gj_good (List.mem_of_getElem? (i := 939) rfl) rfl
set_option maxRecDepth 20000 in
theorem wk_424 : Cond.instanceMethod yX1_sumCost ∈ gj_gw := gj_good (List.mem_of_getElem? (i := 628) rfl) rfl
set_option maxRecDepth 20000 in
theorem wk_425 : Cond.selects RX1 yX1_sumCost yX1_sumCost ∈ gj_gw := gj_good (List.mem_of_getElem? (i := 629) rfl) rfl
set_option maxRecDepth 20000 in
theorem wk_426 : Cond.code yX1_sumCost cX1_sumCost 3 (some .int) ∈ gj_gw := gj_good (List.mem_of_getElem? (i := 630) rfl) rfl
set_option maxRecDepth 20000 in
theorem wk_427 : Cond.methodLink RX8 234 yX1_sumCost ∈ gj_gw := gj_good (List.mem_of_getElem? (i := 627) rfl) rfl
set_option maxRecDepth 20000 in
theorem wk_428 : Cond.instanceMethod yX8_cost ∈ gj_gw := gj_good (List.mem_of_getElem? (i := 624) rfl) rfl
set_option maxRecDepth 20000 in
theorem wk_429 : Cond.selects RX8 yX8_cost yX8_cost ∈ gj_gw := gj_good (List.mem_of_getElem? (i := 625) rfl) rfl
set_option maxRecDepth 20000 in
theorem wk_430 : Cond.code yX8_cost cX8_cost 1 (some .int) ∈ gj_gw := gj_good (List.mem_of_getElem? (i := 626) rfl) rfl
set_option maxRecDepth 20000 in
theorem wk_431 : Cond.constantLong RX8 239 (-2147483648 : Int64) ∈ gj_gw := gj_good (List.mem_of_getElem? (i := 635) rfl) rfl
set_option maxRecDepth 20000 in
theorem wk_432 : Cond.constant RX8 243 (-2147483648 : Int32) ∈ gj_gw := gj_good (List.mem_of_getElem? (i := 637) rfl) rfl
set_option maxRecDepth 20000 in
theorem wk_433 : Cond.constantLong RX8 241 (2147483647 : Int64) ∈ gj_gw := gj_good (List.mem_of_getElem? (i := 636) rfl) rfl
set_option maxRecDepth 20000 in
theorem wk_434 : Cond.instanceMethod yX8_bill ∈ gj_gw := gj_good (List.mem_of_getElem? (i := 632) rfl) rfl
set_option maxRecDepth 20000 in
theorem wk_435 : Cond.selects RX8 yX8_bill yX8_bill ∈ gj_gw := gj_good (List.mem_of_getElem? (i := 633) rfl) rfl
set_option maxRecDepth 20000 in
theorem wk_436 : Cond.code yX8_bill cX8_bill 5 (some .int) ∈ gj_gw := gj_good (List.mem_of_getElem? (i := 634) rfl) rfl
set_option maxRecDepth 20000 in
theorem wk_437 : Cond.methodLink RX1 67 yX1_lackOf ∈ gj_gw := gj_good (List.mem_of_getElem? (i := 647) rfl) rfl
set_option maxRecDepth 20000 in
theorem wk_438 : Cond.instanceMethod yX1_sumLack ∈ gj_gw := gj_good (List.mem_of_getElem? (i := 644) rfl) rfl
set_option maxRecDepth 20000 in
theorem wk_439 : Cond.selects RX1 yX1_sumLack yX1_sumLack ∈ gj_gw := gj_good (List.mem_of_getElem? (i := 645) rfl) rfl
set_option maxRecDepth 20000 in
theorem wk_440 : Cond.code yX1_sumLack cX1_sumLack 3 (some .int) ∈ gj_gw := gj_good (List.mem_of_getElem? (i := 646) rfl) rfl
set_option maxRecDepth 20000 in
theorem wk_441 : Cond.methodLink RX1 71 yX1_stuckOf ∈ gj_gw := gj_good (List.mem_of_getElem? (i := 655) rfl) rfl
set_option maxRecDepth 20000 in
theorem wk_442 : Cond.instanceMethod yX1_sumStuck ∈ gj_gw := gj_good (List.mem_of_getElem? (i := 652) rfl) rfl
set_option maxRecDepth 20000 in
theorem wk_443 : Cond.selects RX1 yX1_sumStuck yX1_sumStuck ∈ gj_gw := gj_good (List.mem_of_getElem? (i := 653) rfl) rfl
set_option maxRecDepth 20000 in
theorem wk_444 : Cond.code yX1_sumStuck cX1_sumStuck 3 (some .int) ∈ gj_gw := gj_good (List.mem_of_getElem? (i := 654) rfl) rfl
set_option maxRecDepth 20000 in
theorem wk_445 : Cond.constantLong RX8 244 (10000 : Int64) ∈ gj_gw := gj_good (List.mem_of_getElem? (i := 642) rfl) rfl
set_option maxRecDepth 20000 in
theorem wk_446 : Cond.methodLink RX8 246 yX1_sumLack ∈ gj_gw := gj_good (List.mem_of_getElem? (i := 643) rfl) rfl
set_option maxRecDepth 20000 in
theorem wk_447 : Cond.methodLink RX8 249 yX1_sumStuck ∈ gj_gw := gj_good (List.mem_of_getElem? (i := 651) rfl) rfl
set_option maxRecDepth 20000 in
theorem wk_448 : Cond.instanceMethod yX8_total ∈ gj_gw := gj_good (List.mem_of_getElem? (i := 639) rfl) rfl
set_option maxRecDepth 20000 in
theorem wk_449 : Cond.selects RX8 yX8_total yX8_total ∈ gj_gw := gj_good (List.mem_of_getElem? (i := 640) rfl) rfl
set_option maxRecDepth 20000 in
theorem wk_450 : Cond.code yX8_total cX8_total 2 (some .long) ∈ gj_gw := gj_good (List.mem_of_getElem? (i := 641) rfl) rfl
set_option maxRecDepth 20000 in
theorem wk_451 : Cond.fieldLink RX7 143 RX1 "routes" "I" ∈ gj_gw := gj_good (List.mem_of_getElem? (i := 51) rfl) rfl
set_option maxRecDepth 20000 in
theorem wk_452 : Cond.methodLink RX7 146 Lib.Math.min.name ∈ gj_gw := gj_good (List.mem_of_getElem? (i := 667) rfl) rfl
set_option maxRecDepth 20000 in
theorem wk_453 : Cond.fieldLink RX7 152 RX1 "holds" "[I" ∈ gj_gw := gj_good (List.mem_of_getElem? (i := 90) rfl) rfl
set_option maxRecDepth 20000 in
theorem wk_454 : Cond.fieldLink RX7 155 RX1 "gifts" "[I" ∈ gj_gw := gj_good (List.mem_of_getElem? (i := 65) rfl) rfl
set_option maxRecDepth 20000 in
theorem wk_455 : Cond.instanceMethod yX7_sumProof ∈ gj_gw := gj_good (List.mem_of_getElem? (i := 664) rfl) rfl
set_option maxRecDepth 20000 in
theorem wk_456 : Cond.selects RX7 yX7_sumProof yX7_sumProof ∈ gj_gw := gj_good (List.mem_of_getElem? (i := 665) rfl) rfl
set_option maxRecDepth 20000 in
theorem wk_457 : Cond.code yX7_sumProof cX7_sumProof 4 (some .long) ∈ gj_gw := gj_good (List.mem_of_getElem? (i := 666) rfl) rfl
set_option maxRecDepth 20000 in
theorem wk_458 : Cond.methodLink RX8 252 yX7_sumProof ∈ gj_gw := gj_good (List.mem_of_getElem? (i := 663) rfl) rfl
set_option maxRecDepth 20000 in
theorem wk_459 : Cond.instanceMethod yX8_proof ∈ gj_gw := gj_good (List.mem_of_getElem? (i := 660) rfl) rfl
set_option maxRecDepth 20000 in
theorem wk_460 : Cond.selects RX8 yX8_proof yX8_proof ∈ gj_gw := gj_good (List.mem_of_getElem? (i := 661) rfl) rfl
set_option maxRecDepth 20000 in
theorem wk_461 : Cond.code yX8_proof cX8_proof 1 (some .long) ∈ gj_gw := gj_good (List.mem_of_getElem? (i := 662) rfl) rfl
set_option maxRecDepth 20000 in
theorem wk_462 : Cond.instanceMethod yX1_firstLacking ∈ gj_gw := gj_good (List.mem_of_getElem? (i := 673) rfl) rfl
set_option maxRecDepth 20000 in
theorem wk_463 : Cond.selects RX1 yX1_firstLacking yX1_firstLacking ∈ gj_gw := gj_good (List.mem_of_getElem? (i := 674) rfl) rfl
set_option maxRecDepth 20000 in
theorem wk_464 : Cond.code yX1_firstLacking cX1_firstLacking 2 (some .int) ∈ gj_gw := gj_good (List.mem_of_getElem? (i := 675) rfl) rfl
set_option maxRecDepth 20000 in
theorem wk_465 : Cond.instanceMethod yX1_firstStuck ∈ gj_gw := gj_good (List.mem_of_getElem? (i := 677) rfl) rfl
set_option maxRecDepth 20000 in
theorem wk_466 : Cond.selects RX1 yX1_firstStuck yX1_firstStuck ∈ gj_gw := gj_good (List.mem_of_getElem? (i := 678) rfl) rfl
set_option maxRecDepth 20000 in
theorem wk_467 : Cond.code yX1_firstStuck cX1_firstStuck 2 (some .int) ∈ gj_gw := gj_good (List.mem_of_getElem? (i := 679) rfl) rfl
set_option maxRecDepth 20000 in
theorem wk_468 : Cond.methodLink RX8 256 yX1_firstLacking ∈ gj_gw := gj_good (List.mem_of_getElem? (i := 672) rfl) rfl
set_option maxRecDepth 20000 in
theorem wk_469 : Cond.methodLink RX8 259 yX1_firstStuck ∈ gj_gw := gj_good (List.mem_of_getElem? (i := 676) rfl) rfl
set_option maxRecDepth 20000 in
theorem wk_470 : Cond.instanceMethod yX8_lack ∈ gj_gw := gj_good (List.mem_of_getElem? (i := 669) rfl) rfl
set_option maxRecDepth 20000 in
theorem wk_471 : Cond.selects RX8 yX8_lack yX8_lack ∈ gj_gw := gj_good (List.mem_of_getElem? (i := 670) rfl) rfl
set_option maxRecDepth 20000 in
theorem wk_472 : Cond.code yX8_lack cX8_lack 2 (some .int) ∈ gj_gw := gj_good (List.mem_of_getElem? (i := 671) rfl) rfl
set_option maxRecDepth 20000 in
theorem wk_473 : Cond.fieldLink RX6 11 RX6 "least" "[I" ∈ gj_gw := gj_good (List.mem_of_getElem? (i := 284) rfl) rfl
set_option maxRecDepth 20000 in
theorem wk_474 : Cond.constant RX6 17 (2147483647 : Int32) ∈ gj_gw := gj_good (List.mem_of_getElem? (i := 692) rfl) rfl
set_option maxRecDepth 20000 in
theorem wk_475 : Cond.instanceMethod yX6_reach ∈ gj_gw := gj_good (List.mem_of_getElem? (i := 700) rfl) rfl
set_option maxRecDepth 20000 in
theorem wk_476 : Cond.selects RX6 yX6_reach yX6_reach ∈ gj_gw := gj_goodP (List.mem_of_getElem? (i := 26) rfl) rfl
set_option maxRecDepth 20000 in
theorem wk_477 : Cond.initialized RX6 ∈ gj_gw := gj_good (List.mem_of_getElem? (i := 8) rfl) rfl
set_option maxRecDepth 20000 in
theorem wk_478 : Cond.code yX6_reach cX6_reach 4 none ∈ gj_gw := gj_good (List.mem_of_getElem? (i := 701) rfl) rfl
set_option maxRecDepth 20000 in
theorem wk_479 : Cond.fieldLink RX6 32 RX1 "begins" "[I" ∈ gj_gw := gj_good (List.mem_of_getElem? (i := 69) rfl) rfl
set_option maxRecDepth 20000 in
theorem wk_480 : Cond.fieldLink RX6 35 RX1 "ends" "[I" ∈ gj_gw := gj_good (List.mem_of_getElem? (i := 76) rfl) rfl
set_option maxRecDepth 20000 in
theorem wk_481 : Cond.methodLink RX6 38 yX1_roomOf ∈ gj_gw := gj_good (List.mem_of_getElem? (i := 697) rfl) rfl
set_option maxRecDepth 20000 in
theorem wk_482 : Cond.fieldLink RX6 42 RX1 "costs" "[I" ∈ gj_gw := gj_good (List.mem_of_getElem? (i := 81) rfl) rfl
set_option maxRecDepth 20000 in
theorem wk_483 : Cond.methodLink RX6 45 yX6_reach ∈ gj_gw := gj_good (List.mem_of_getElem? (i := 698) rfl) rfl
set_option maxRecDepth 20000 in
theorem wk_484 : Cond.instanceMethod yX6_tryRoute ∈ gj_gw := gj_good (List.mem_of_getElem? (i := 695) rfl) rfl
set_option maxRecDepth 20000 in
theorem wk_485 : Cond.selects RX6 yX6_tryRoute yX6_tryRoute ∈ gj_gw := gj_goodP (List.mem_of_getElem? (i := 25) rfl) rfl
set_option maxRecDepth 20000 in
theorem wk_486 : Cond.code yX6_tryRoute cX6_tryRoute 5 none ∈ gj_gw := gj_good (List.mem_of_getElem? (i := 696) rfl) rfl
set_option maxRecDepth 20000 in
theorem wk_487 : Cond.fieldLink RX6 18 RX1 "docks" "I" ∈ gj_gw := gj_good (List.mem_of_getElem? (i := 42) rfl) rfl
set_option maxRecDepth 20000 in
theorem wk_488 : Cond.fieldLink RX6 24 RX1 "routes" "I" ∈ gj_gw := gj_good (List.mem_of_getElem? (i := 49) rfl) rfl
set_option maxRecDepth 20000 in
theorem wk_489 : Cond.methodLink RX6 27 yX6_tryRoute ∈ gj_gw := gj_good (List.mem_of_getElem? (i := 693) rfl) rfl
set_option maxRecDepth 20000 in
theorem wk_490 : Cond.constant RX6 31 (-2147483648 : Int32) ∈ gj_gw := gj_good (List.mem_of_getElem? (i := 702) rfl) rfl
set_option maxRecDepth 20000 in
theorem wk_491 : Cond.instanceMethod yX6_findLeast ∈ gj_gw := gj_good (List.mem_of_getElem? (i := 689) rfl) rfl
set_option maxRecDepth 20000 in
theorem wk_492 : Cond.selects RX6 yX6_findLeast yX6_findLeast ∈ gj_gw := gj_good (List.mem_of_getElem? (i := 690) rfl) rfl
set_option maxRecDepth 20000 in
theorem wk_493 : Cond.code yX6_findLeast cX6_findLeast 6 (some .int) ∈ gj_gw := gj_good (List.mem_of_getElem? (i := 691) rfl) rfl
set_option maxRecDepth 20000 in
theorem wk_494 : Cond.fieldLink RX8 58 RX8 "paths" "LPivotDocks$UnitPaths;" ∈ gj_gw := gj_good (List.mem_of_getElem? (i := 346) rfl) rfl
set_option maxRecDepth 20000 in
theorem wk_495 : Cond.methodLink RX8 262 yX6_findLeast ∈ gj_gw := gj_good (List.mem_of_getElem? (i := 688) rfl) rfl
set_option maxRecDepth 20000 in
theorem wk_496 : Cond.instanceMethod yX8_unit ∈ gj_gw := gj_good (List.mem_of_getElem? (i := 681) rfl) rfl
set_option maxRecDepth 20000 in
theorem wk_497 : Cond.selects RX8 yX8_unit yX8_unit ∈ gj_gw := gj_good (List.mem_of_getElem? (i := 682) rfl) rfl
set_option maxRecDepth 20000 in
theorem wk_498 : Cond.code yX8_unit cX8_unit 3 (some .int) ∈ gj_gw := gj_good (List.mem_of_getElem? (i := 683) rfl) rfl
set_option maxRecDepth 20000 in
theorem wk_499 : Cond.instanceMethod yX7_gainMove ∈ gj_gw := gj_good (List.mem_of_getElem? (i := 725) rfl) rfl
set_option maxRecDepth 20000 in
theorem wk_500 : Cond.selects RX7 yX7_gainMove yX7_gainMove ∈ gj_gw := gj_goodP (List.mem_of_getElem? (i := 29) rfl) rfl
set_option maxRecDepth 20000 in
theorem wk_501 : Cond.code yX7_gainMove cX7_gainMove 6 (some .int) ∈ gj_gw := gj_good (List.mem_of_getElem? (i := 726) rfl) rfl
set_option maxRecDepth 20000 in
theorem wk_502 : Cond.methodLink RX7 158 yX7_gainMove ∈ gj_gw := gj_good (List.mem_of_getElem? (i := 723) rfl) rfl
set_option maxRecDepth 20000 in
theorem wk_503 : Cond.instanceMethod yX7_limits ∈ gj_gw := gj_good (List.mem_of_getElem? (i := 721) rfl) rfl
set_option maxRecDepth 20000 in
theorem wk_504 : Cond.selects RX7 yX7_limits yX7_limits ∈ gj_gw := gj_goodP (List.mem_of_getElem? (i := 28) rfl) rfl
set_option maxRecDepth 20000 in
theorem wk_505 : Cond.code yX7_limits cX7_limits 5 (some .boolean) ∈ gj_gw := gj_good (List.mem_of_getElem? (i := 722) rfl) rfl
set_option maxRecDepth 20000 in
theorem wk_506 : Cond.methodLink RX7 161 yX7_limits ∈ gj_gw := gj_good (List.mem_of_getElem? (i := 719) rfl) rfl
set_option maxRecDepth 20000 in
theorem wk_507 : Cond.methodLink RX7 165 Lib.Math.abs.name ∈ gj_gw := gj_good (List.mem_of_getElem? (i := 731) rfl) rfl
set_option maxRecDepth 20000 in
theorem wk_508 : Cond.instanceMethod yX7_shiftAllowed ∈ gj_gw := gj_good (List.mem_of_getElem? (i := 717) rfl) rfl
set_option maxRecDepth 20000 in
theorem wk_509 : Cond.selects RX7 yX7_shiftAllowed yX7_shiftAllowed ∈ gj_gw := gj_goodP (List.mem_of_getElem? (i := 27) rfl) rfl
set_option maxRecDepth 20000 in
theorem wk_510 : Cond.code yX7_shiftAllowed cX7_shiftAllowed 6 (some .int) ∈ gj_gw := gj_good (List.mem_of_getElem? (i := 718) rfl) rfl
set_option maxRecDepth 20000 in
theorem wk_511 : Cond.methodLink RX7 168 yX7_shiftAllowed ∈ gj_gw := gj_good (List.mem_of_getElem? (i := 715) rfl) rfl
set_option maxRecDepth 20000 in
theorem wk_512 : Cond.instanceMethod yX7_greatestCost ∈ gj_gw := gj_good (List.mem_of_getElem? (i := 712) rfl) rfl
set_option maxRecDepth 20000 in
theorem wk_513 : Cond.selects RX7 yX7_greatestCost yX7_greatestCost ∈ gj_gw := gj_good (List.mem_of_getElem? (i := 713) rfl) rfl
set_option maxRecDepth 20000 in
theorem wk_514 : Cond.code yX7_greatestCost cX7_greatestCost 2 (some .int) ∈ gj_gw := gj_good (List.mem_of_getElem? (i := 714) rfl) rfl
set_option maxRecDepth 20000 in
theorem wk_515 : Cond.instanceMethod yX7_leastCost ∈ gj_gw := gj_good (List.mem_of_getElem? (i := 735) rfl) rfl
set_option maxRecDepth 20000 in
theorem wk_516 : Cond.selects RX7 yX7_leastCost yX7_leastCost ∈ gj_gw := gj_good (List.mem_of_getElem? (i := 736) rfl) rfl
set_option maxRecDepth 20000 in
theorem wk_517 : Cond.code yX7_leastCost cX7_leastCost 2 (some .int) ∈ gj_gw := gj_good (List.mem_of_getElem? (i := 737) rfl) rfl
set_option maxRecDepth 20000 in
theorem wk_518 : Cond.methodLink RX8 269 yX7_leastCost ∈ gj_gw := gj_good (List.mem_of_getElem? (i := 734) rfl) rfl
set_option maxRecDepth 20000 in
theorem wk_519 : Cond.methodLink RX8 266 yX7_greatestCost ∈ gj_gw := gj_good (List.mem_of_getElem? (i := 711) rfl) rfl
set_option maxRecDepth 20000 in
theorem wk_520 : Cond.instanceMethod yX8_range ∈ gj_gw := gj_good (List.mem_of_getElem? (i := 704) rfl) rfl
set_option maxRecDepth 20000 in
theorem wk_521 : Cond.selects RX8 yX8_range yX8_range ∈ gj_gw := gj_good (List.mem_of_getElem? (i := 705) rfl) rfl
set_option maxRecDepth 20000 in
theorem wk_522 : Cond.code yX8_range cX8_range 3 (some .int) ∈ gj_gw := gj_good (List.mem_of_getElem? (i := 706) rfl) rfl
set_option maxRecDepth 20000 in
theorem wk_523 : Cond.constantLong RX8 281 (-999 : Int64) ∈ gj_gw := gj_good (List.mem_of_getElem? (i := 749) rfl) rfl
set_option maxRecDepth 20000 in
theorem wk_524 : Cond.constantLong RX8 283 (999 : Int64) ∈ gj_gw := gj_good (List.mem_of_getElem? (i := 750) rfl) rfl
set_option maxRecDepth 20000 in
theorem wk_525 : Cond.static yX8_isGift ∈ gj_gw := gj_good (List.mem_of_getElem? (i := 747) rfl) rfl
set_option maxRecDepth 20000 in
theorem wk_526 : Cond.code yX8_isGift cX8_isGift 2 (some .boolean) ∈ gj_gw := gj_good (List.mem_of_getElem? (i := 748) rfl) rfl
set_option maxRecDepth 20000 in
theorem wk_527 : Cond.methodLink RX8 277 yX8_isGift ∈ gj_gw := gj_good (List.mem_of_getElem? (i := 746) rfl) rfl
set_option maxRecDepth 20000 in
theorem wk_528 : Cond.instanceMethod yX8_canBeTried ∈ gj_gw := gj_good (List.mem_of_getElem? (i := 744) rfl) rfl
set_option maxRecDepth 20000 in
theorem wk_529 : Cond.selects RX8 yX8_canBeTried yX8_canBeTried ∈ gj_gw := gj_goodP (List.mem_of_getElem? (i := 30) rfl) rfl
set_option maxRecDepth 20000 in
theorem wk_530 : Cond.code yX8_canBeTried cX8_canBeTried 4 (some .boolean) ∈ gj_gw := gj_good (List.mem_of_getElem? (i := 745) rfl) rfl
set_option maxRecDepth 20000 in
theorem wk_531 : Cond.methodLink RX8 272 yX8_canBeTried ∈ gj_gw := gj_good (List.mem_of_getElem? (i := 742) rfl) rfl
set_option maxRecDepth 20000 in
theorem wk_532 : Cond.fieldLink RX8 35 RX8 "trial" "LPivotDocks$Yard;" ∈ gj_gw := gj_good (List.mem_of_getElem? (i := 342) rfl) rfl
set_option maxRecDepth 20000 in
theorem wk_533 : Cond.constant RX8 276 (1000000 : Int32) ∈ gj_gw := gj_good (List.mem_of_getElem? (i := 751) rfl) rfl
set_option maxRecDepth 20000 in
theorem wk_534 : Cond.instanceMethod yX8_tried ∈ gj_gw := gj_good (List.mem_of_getElem? (i := 739) rfl) rfl
set_option maxRecDepth 20000 in
theorem wk_535 : Cond.selects RX8 yX8_tried yX8_tried ∈ gj_gw := gj_good (List.mem_of_getElem? (i := 740) rfl) rfl
set_option maxRecDepth 20000 in
theorem wk_536 : Cond.code yX8_tried cX8_tried 6 (some .int) ∈ gj_gw := gj_good (List.mem_of_getElem? (i := 741) rfl) rfl
set_option maxRecDepth 20000 in
theorem wk_537 : Cond.instanceMethod yX7_roomUp ∈ gj_gw := gj_good (List.mem_of_getElem? (i := 762) rfl) rfl
set_option maxRecDepth 20000 in
theorem wk_538 : Cond.selects RX7 yX7_roomUp yX7_roomUp ∈ gj_gw := gj_goodP (List.mem_of_getElem? (i := 31) rfl) rfl
set_option maxRecDepth 20000 in
theorem wk_539 : Cond.code yX7_roomUp cX7_roomUp 4 (some .int) ∈ gj_gw := gj_good (List.mem_of_getElem? (i := 763) rfl) rfl
set_option maxRecDepth 20000 in
theorem wk_540 : Cond.methodLink RX7 173 yX7_roomUp ∈ gj_gw := gj_good (List.mem_of_getElem? (i := 760) rfl) rfl
set_option maxRecDepth 20000 in
theorem wk_541 : Cond.fieldLink RX7 176 RX5 "parents" "[I" ∈ gj_gw := gj_good (List.mem_of_getElem? (i := 187) rfl) rfl
set_option maxRecDepth 20000 in
theorem wk_542 : Cond.instanceMethod yX7_findRefusing ∈ gj_gw := gj_good (List.mem_of_getElem? (i := 757) rfl) rfl
set_option maxRecDepth 20000 in
theorem wk_543 : Cond.selects RX7 yX7_findRefusing yX7_findRefusing ∈ gj_gw := gj_good (List.mem_of_getElem? (i := 758) rfl) rfl
set_option maxRecDepth 20000 in
theorem wk_544 : Cond.code yX7_findRefusing cX7_findRefusing 5 (some .int) ∈ gj_gw := gj_good (List.mem_of_getElem? (i := 759) rfl) rfl
set_option maxRecDepth 20000 in
theorem wk_545 : Cond.instanceMethod yX7_shiftGift ∈ gj_gw := gj_good (List.mem_of_getElem? (i := 765) rfl) rfl
set_option maxRecDepth 20000 in
theorem wk_546 : Cond.selects RX7 yX7_shiftGift yX7_shiftGift ∈ gj_gw := gj_good (List.mem_of_getElem? (i := 766) rfl) rfl
set_option maxRecDepth 20000 in
theorem wk_547 : Cond.code yX7_shiftGift cX7_shiftGift 6 none ∈ gj_gw := gj_good (List.mem_of_getElem? (i := 767) rfl) rfl
set_option maxRecDepth 20000 in
theorem wk_548 : Cond.methodLink RX8 285 yX7_findRefusing ∈ gj_gw := gj_good (List.mem_of_getElem? (i := 756) rfl) rfl
set_option maxRecDepth 20000 in
theorem wk_549 : Cond.methodLink RX8 288 yX7_shiftGift ∈ gj_gw := gj_good (List.mem_of_getElem? (i := 764) rfl) rfl
set_option maxRecDepth 20000 in
theorem wk_550 : Cond.instanceMethod yX8_load ∈ gj_gw := gj_good (List.mem_of_getElem? (i := 753) rfl) rfl
set_option maxRecDepth 20000 in
theorem wk_551 : Cond.selects RX8 yX8_load yX8_load ∈ gj_gw := gj_good (List.mem_of_getElem? (i := 754) rfl) rfl
set_option maxRecDepth 20000 in
theorem wk_552 : Cond.code yX8_load cX8_load 4 (some .int) ∈ gj_gw := gj_good (List.mem_of_getElem? (i := 755) rfl) rfl
set_option maxRecDepth 20000 in
theorem wk_553 : Cond.constant RX7 172 (1000000 : Int32) ∈ gj_gw := gj_good (List.mem_of_getElem? (i := 776) rfl) rfl
set_option maxRecDepth 20000 in
theorem wk_554 : Cond.instanceMethod yX7_leastRoomUp ∈ gj_gw := gj_good (List.mem_of_getElem? (i := 773) rfl) rfl
set_option maxRecDepth 20000 in
theorem wk_555 : Cond.selects RX7 yX7_leastRoomUp yX7_leastRoomUp ∈ gj_gw := gj_good (List.mem_of_getElem? (i := 774) rfl) rfl
set_option maxRecDepth 20000 in
theorem wk_556 : Cond.code yX7_leastRoomUp cX7_leastRoomUp 6 (some .int) ∈ gj_gw := gj_good (List.mem_of_getElem? (i := 775) rfl) rfl
set_option maxRecDepth 20000 in
theorem wk_557 : Cond.methodLink RX8 292 yX7_leastRoomUp ∈ gj_gw := gj_good (List.mem_of_getElem? (i := 772) rfl) rfl
set_option maxRecDepth 20000 in
theorem wk_558 : Cond.instanceMethod yX8_spare ∈ gj_gw := gj_good (List.mem_of_getElem? (i := 769) rfl) rfl
set_option maxRecDepth 20000 in
theorem wk_559 : Cond.selects RX8 yX8_spare yX8_spare ∈ gj_gw := gj_good (List.mem_of_getElem? (i := 770) rfl) rfl
set_option maxRecDepth 20000 in
theorem wk_560 : Cond.code yX8_spare cX8_spare 3 (some .int) ∈ gj_gw := gj_good (List.mem_of_getElem? (i := 771) rfl) rfl
set_option maxRecDepth 20000 in
theorem wk_561 : Cond.methodLink RX8 296 yX7_regrow ∈ gj_gw := gj_good (List.mem_of_getElem? (i := 781) rfl) rfl
set_option maxRecDepth 20000 in
theorem wk_562 : Cond.instanceMethod yX8_toll ∈ gj_gw := gj_good (List.mem_of_getElem? (i := 778) rfl) rfl
set_option maxRecDepth 20000 in
theorem wk_563 : Cond.selects RX8 yX8_toll yX8_toll ∈ gj_gw := gj_good (List.mem_of_getElem? (i := 779) rfl) rfl
set_option maxRecDepth 20000 in
theorem wk_564 : Cond.code yX8_toll cX8_toll 5 (some .int) ∈ gj_gw := gj_good (List.mem_of_getElem? (i := 780) rfl) rfl
set_option maxRecDepth 20000 in
theorem wk_565 : Cond.instanceMethod yX8_hold ∈ gj_gw := gj_good (List.mem_of_getElem? (i := 783) rfl) rfl
set_option maxRecDepth 20000 in
theorem wk_566 : Cond.selects RX8 yX8_hold yX8_hold ∈ gj_gw := gj_good (List.mem_of_getElem? (i := 784) rfl) rfl
set_option maxRecDepth 20000 in
theorem wk_567 : Cond.code yX8_hold cX8_hold 5 (some .int) ∈ gj_gw := gj_good (List.mem_of_getElem? (i := 785) rfl) rfl
set_option maxRecDepth 20000 in
theorem wk_568 : Cond.fieldLink RX8 299 RX1 "block" "I" ∈ gj_gw := gj_good (List.mem_of_getElem? (i := 56) rfl) rfl
set_option maxRecDepth 20000 in
theorem wk_569 : Cond.instanceMethod yX8_block ∈ gj_gw := gj_good (List.mem_of_getElem? (i := 787) rfl) rfl
set_option maxRecDepth 20000 in
theorem wk_570 : Cond.selects RX8 yX8_block yX8_block ∈ gj_gw := gj_good (List.mem_of_getElem? (i := 788) rfl) rfl
set_option maxRecDepth 20000 in
theorem wk_571 : Cond.code yX8_block cX8_block 4 (some .int) ∈ gj_gw := gj_good (List.mem_of_getElem? (i := 789) rfl) rfl
set_option maxRecDepth 20000 in
theorem wk_572 : Cond.fieldLink RX8 302 RX1 "pivots" "I" ∈ gj_gw := gj_good (List.mem_of_getElem? (i := 61) rfl) rfl
set_option maxRecDepth 20000 in
theorem wk_573 : Cond.instanceMethod yX8_anew ∈ gj_gw := gj_good (List.mem_of_getElem? (i := 791) rfl) rfl
set_option maxRecDepth 20000 in
theorem wk_574 : Cond.selects RX8 yX8_anew yX8_anew ∈ gj_gw := gj_good (List.mem_of_getElem? (i := 792) rfl) rfl
set_option maxRecDepth 20000 in
theorem wk_575 : Cond.code yX8_anew cX8_anew 2 (some .int) ∈ gj_gw := gj_good (List.mem_of_getElem? (i := 793) rfl) rfl
set_option maxRecDepth 20000 in
theorem wk_576 : Cond.fieldLink RX4 15 RX4 "length" "I" ∈ gj_gw := gj_good (List.mem_of_getElem? (i := 296) rfl) rfl
set_option maxRecDepth 20000 in
theorem wk_577 : Cond.fieldLink RX4 9 RX4 "bytes" "[B" ∈ gj_gw := gj_good (List.mem_of_getElem? (i := 294) rfl) rfl
set_option maxRecDepth 20000 in
theorem wk_578 : Cond.instanceMethod yX4_put ∈ gj_gw := gj_good (List.mem_of_getElem? (i := 808) rfl) rfl
set_option maxRecDepth 20000 in
theorem wk_579 : Cond.selects RX4 yX4_put yX4_put ∈ gj_gw := gj_goodP (List.mem_of_getElem? (i := 33) rfl) rfl
set_option maxRecDepth 20000 in
theorem wk_580 : Cond.initialized RX4 ∈ gj_gw := gj_good (List.mem_of_getElem? (i := 9) rfl) rfl
set_option maxRecDepth 20000 in
theorem wk_581 : Cond.code yX4_put cX4_put 2 none ∈ gj_gw := gj_good (List.mem_of_getElem? (i := 809) rfl) rfl
set_option maxRecDepth 20000 in
theorem wk_582 : Cond.methodLink RX4 32 yX4_put ∈ gj_gw := gj_good (List.mem_of_getElem? (i := 806) rfl) rfl
set_option maxRecDepth 20000 in
theorem wk_583 : Cond.instanceMethod yX4_writeName ∈ gj_gw := gj_good (List.mem_of_getElem? (i := 804) rfl) rfl
set_option maxRecDepth 20000 in
theorem wk_584 : Cond.selects RX4 yX4_writeName yX4_writeName ∈ gj_gw := gj_goodP (List.mem_of_getElem? (i := 32) rfl) rfl
set_option maxRecDepth 20000 in
theorem wk_585 : Cond.code yX4_writeName cX4_writeName 5 none ∈ gj_gw := gj_good (List.mem_of_getElem? (i := 805) rfl) rfl
set_option maxRecDepth 20000 in
theorem wk_586 : Cond.instanceMethod yX4_writeNumber ∈ gj_gw := gj_good (List.mem_of_getElem? (i := 812) rfl) rfl
set_option maxRecDepth 20000 in
theorem wk_587 : Cond.selects RX4 yX4_writeNumber yX4_writeNumber ∈ gj_gw := gj_goodP (List.mem_of_getElem? (i := 34) rfl) rfl
set_option maxRecDepth 20000 in
theorem wk_588 : Cond.code yX4_writeNumber cX4_writeNumber 5 none ∈ gj_gw := gj_good (List.mem_of_getElem? (i := 813) rfl) rfl
set_option maxRecDepth 20000 in
theorem wk_589 : Cond.fieldLink RX4 19 RX1 "routes" "I" ∈ gj_gw := gj_good (List.mem_of_getElem? (i := 48) rfl) rfl
set_option maxRecDepth 20000 in
theorem wk_590 : Cond.fieldLink RX4 24 RX1 "flows" "[I" ∈ gj_gw := gj_good (List.mem_of_getElem? (i := 92) rfl) rfl
set_option maxRecDepth 20000 in
theorem wk_591 : Cond.methodLink RX4 28 yX4_writeName ∈ gj_gw := gj_good (List.mem_of_getElem? (i := 802) rfl) rfl
set_option maxRecDepth 20000 in
theorem wk_592 : Cond.methodLink RX4 36 yX4_writeNumber ∈ gj_gw := gj_good (List.mem_of_getElem? (i := 810) rfl) rfl
set_option maxRecDepth 20000 in
theorem wk_593 : Cond.instanceMethod yX4_write ∈ gj_gw := gj_good (List.mem_of_getElem? (i := 799) rfl) rfl
set_option maxRecDepth 20000 in
theorem wk_594 : Cond.selects RX4 yX4_write yX4_write ∈ gj_gw := gj_good (List.mem_of_getElem? (i := 800) rfl) rfl
set_option maxRecDepth 20000 in
theorem wk_595 : Cond.code yX4_write cX4_write 4 none ∈ gj_gw := gj_good (List.mem_of_getElem? (i := 801) rfl) rfl
set_option maxRecDepth 20000 in
theorem wk_596 : Cond.fieldLink RX8 65 RX8 "page" "LPivotDocks$Sheet;" ∈ gj_gw := gj_good (List.mem_of_getElem? (i := 347) rfl) rfl
set_option maxRecDepth 20000 in
theorem wk_597 : Cond.methodLink RX8 305 yX4_write ∈ gj_gw := gj_good (List.mem_of_getElem? (i := 798) rfl) rfl
set_option maxRecDepth 20000 in
theorem wk_598 : Cond.fieldLink RX8 309 RX4 "length" "I" ∈ gj_gw := gj_good (List.mem_of_getElem? (i := 297) rfl) rfl
set_option maxRecDepth 20000 in
theorem wk_599 : Cond.fieldLink RX8 312 RX4 "bytes" "[B" ∈ gj_gw := gj_good (List.mem_of_getElem? (i := 295) rfl) rfl
set_option maxRecDepth 20000 in
theorem wk_600 : Cond.instanceMethod yX8_sheet ∈ gj_gw := gj_good (List.mem_of_getElem? (i := 795) rfl) rfl
set_option maxRecDepth 20000 in
theorem wk_601 : Cond.selects RX8 yX8_sheet yX8_sheet ∈ gj_gw := gj_good (List.mem_of_getElem? (i := 796) rfl) rfl
set_option maxRecDepth 20000 in
theorem wk_602 : Cond.code yX8_sheet cX8_sheet 2 (some .int) ∈ gj_gw := gj_good (List.mem_of_getElem? (i := 797) rfl) rfl
set_option maxRecDepth 20000 in
theorem wk_603 : Cond.instanceMethod yX0_giveBack ∈ gj_gw := gj_good (List.mem_of_getElem? (i := 819) rfl) rfl
set_option maxRecDepth 20000 in
theorem wk_604 : Cond.selects RX0 yX0_giveBack yX0_giveBack ∈ gj_gw := gj_good (List.mem_of_getElem? (i := 820) rfl) rfl
set_option maxRecDepth 20000 in
theorem wk_605 : Cond.code yX0_giveBack cX0_giveBack 2 none ∈ gj_gw := gj_good (List.mem_of_getElem? (i := 821) rfl) rfl
set_option maxRecDepth 20000 in
theorem wk_606 : Cond.fieldLink RX8 315 RX0 "held" "I" ∈ gj_gw := gj_good (List.mem_of_getElem? (i := 269) rfl) rfl
set_option maxRecDepth 20000 in
theorem wk_607 : Cond.methodLink RX8 318 yX0_giveBack ∈ gj_gw := gj_good (List.mem_of_getElem? (i := 818) rfl) rfl
set_option maxRecDepth 20000 in
theorem wk_608 : Cond.instanceMethod yX8_undo ∈ gj_gw := gj_good (List.mem_of_getElem? (i := 815) rfl) rfl
set_option maxRecDepth 20000 in
theorem wk_609 : Cond.selects RX8 yX8_undo yX8_undo ∈ gj_gw := gj_good (List.mem_of_getElem? (i := 816) rfl) rfl
set_option maxRecDepth 20000 in
theorem wk_610 : Cond.code yX8_undo cX8_undo 1 (some .int) ∈ gj_gw := gj_good (List.mem_of_getElem? (i := 817) rfl) rfl
set_option maxRecDepth 20000 in
theorem wk_611 : Cond.fieldLink RX8 47 RX8 "keeps" "[LPivotDocks$Plan;" ∈ gj_gw := gj_good (List.mem_of_getElem? (i := 344) rfl) rfl
set_option maxRecDepth 20000 in
theorem wk_612 : Cond.instanceMethod yX8_keep ∈ gj_gw := gj_good (List.mem_of_getElem? (i := 823) rfl) rfl
set_option maxRecDepth 20000 in
theorem wk_613 : Cond.selects RX8 yX8_keep yX8_keep ∈ gj_gw := gj_good (List.mem_of_getElem? (i := 824) rfl) rfl
set_option maxRecDepth 20000 in
theorem wk_614 : Cond.code yX8_keep cX8_keep 3 (some .boolean) ∈ gj_gw := gj_good (List.mem_of_getElem? (i := 825) rfl) rfl
set_option maxRecDepth 20000 in
theorem wk_615 : Cond.instanceMethod yX1_countFull ∈ gj_gw := gj_good (List.mem_of_getElem? (i := 836) rfl) rfl
set_option maxRecDepth 20000 in
theorem wk_616 : Cond.selects RX1 yX1_countFull yX1_countFull ∈ gj_gw := gj_good (List.mem_of_getElem? (i := 837) rfl) rfl
set_option maxRecDepth 20000 in
theorem wk_617 : Cond.code yX1_countFull cX1_countFull 3 (some .int) ∈ gj_gw := gj_good (List.mem_of_getElem? (i := 838) rfl) rfl
set_option maxRecDepth 20000 in
theorem wk_618 : Cond.instanceMethod yX1_countRoutesInTree ∈ gj_gw := gj_good (List.mem_of_getElem? (i := 840) rfl) rfl
set_option maxRecDepth 20000 in
theorem wk_619 : Cond.selects RX1 yX1_countRoutesInTree yX1_countRoutesInTree ∈ gj_gw := gj_good (List.mem_of_getElem? (i := 841) rfl) rfl
set_option maxRecDepth 20000 in
theorem wk_620 : Cond.code yX1_countRoutesInTree cX1_countRoutesInTree 3 (some .int) ∈ gj_gw := gj_good (List.mem_of_getElem? (i := 842) rfl) rfl
set_option maxRecDepth 20000 in
theorem wk_621 : Cond.fieldLink RX8 321 RX1 "routes" "I" ∈ gj_gw := gj_good (List.mem_of_getElem? (i := 52) rfl) rfl
set_option maxRecDepth 20000 in
theorem wk_622 : Cond.fieldLink RX8 324 RX1 "pointer" "I" ∈ gj_gw := gj_good (List.mem_of_getElem? (i := 59) rfl) rfl
set_option maxRecDepth 20000 in
theorem wk_623 : Cond.methodLink RX8 327 yX1_countFull ∈ gj_gw := gj_good (List.mem_of_getElem? (i := 835) rfl) rfl
set_option maxRecDepth 20000 in
theorem wk_624 : Cond.methodLink RX8 330 yX1_countRoutesInTree ∈ gj_gw := gj_good (List.mem_of_getElem? (i := 839) rfl) rfl
set_option maxRecDepth 20000 in
theorem wk_625 : Cond.instanceMethod yX8_count ∈ gj_gw := gj_good (List.mem_of_getElem? (i := 827) rfl) rfl
set_option maxRecDepth 20000 in
theorem wk_626 : Cond.selects RX8 yX8_count yX8_count ∈ gj_gw := gj_good (List.mem_of_getElem? (i := 828) rfl) rfl
set_option maxRecDepth 20000 in
theorem wk_627 : Cond.code yX8_count cX8_count 3 (some .int) ∈ gj_gw := gj_good (List.mem_of_getElem? (i := 829) rfl) rfl
set_option maxRecDepth 20000 in
theorem wk_628 : Cond.static yX9_within ∈ gj_gw := gj_good (List.mem_of_getElem? (i := 1093) rfl) rfl
set_option maxRecDepth 20000 in
theorem wk_629 : Cond.initialized RX9 ∈ gj_gw := gj_good (List.mem_of_getElem? (i := 10) rfl) rfl
set_option maxRecDepth 20000 in
theorem wk_630 : Cond.code yX9_within cX9_within 6 (some .boolean) ∈ gj_gw := gj_good (List.mem_of_getElem? (i := 1094) rfl) rfl
set_option maxRecDepth 20000 in
theorem wk_631 : Cond.fieldLink RX9 7 RX9 "tape" "[B" ∈ gj_gw := gj_good (List.mem_of_getElem? (i := 957) rfl) rfl
set_option maxRecDepth 20000 in
theorem wk_632 : Cond.fieldLink RX9 86 RX9 "taped" "I" ∈ gj_gw := gj_good (List.mem_of_getElem? (i := 958) rfl) rfl
set_option maxRecDepth 20000 in
theorem wk_633 : Cond.instanceMethod yX9_puts ∈ gj_gw := gj_good (List.mem_of_getElem? (i := 1086) rfl) rfl
set_option maxRecDepth 20000 in
theorem wk_634 : Cond.selects RX9 yX9_puts yX9_puts ∈ gj_gw := gj_goodP (List.mem_of_getElem? (i := 37) rfl) rfl
set_option maxRecDepth 20000 in
theorem wk_635 : Cond.code yX9_puts cX9_puts 3 none ∈ gj_gw := gj_good (List.mem_of_getElem? (i := 1087) rfl) rfl
set_option maxRecDepth 20000 in
theorem wk_636 : Cond.fieldLink RX9 82 RX9 "thrown" "I" ∈ gj_gw := gj_good (List.mem_of_getElem? (i := 956) rfl) rfl
set_option maxRecDepth 20000 in
theorem wk_637 : Cond.methodLink RX9 89 yX9_puts ∈ gj_gw := gj_good (List.mem_of_getElem? (i := 1084) rfl) rfl
set_option maxRecDepth 20000 in
theorem wk_638 : Cond.instanceMethod yX9_feed ∈ gj_gw := gj_good (List.mem_of_getElem? (i := 1081) rfl) rfl
set_option maxRecDepth 20000 in
theorem wk_639 : Cond.selects RX9 yX9_feed yX9_feed ∈ gj_gw := gj_good (List.mem_of_getElem? (i := 1082) rfl) rfl
set_option maxRecDepth 20000 in
theorem wk_640 : Cond.code yX9_feed cX9_feed 6 (some .int) ∈ gj_gw := gj_good (List.mem_of_getElem? (i := 1083) rfl) rfl
set_option maxRecDepth 20000 in
theorem wk_641 : Cond.fieldLink RX9 93 RX9 "size" "I" ∈ gj_gw := gj_good (List.mem_of_getElem? (i := 959) rfl) rfl
set_option maxRecDepth 20000 in
theorem wk_642 : Cond.instanceMethod yX9_see ∈ gj_gw := gj_good (List.mem_of_getElem? (i := 1101) rfl) rfl
set_option maxRecDepth 20000 in
theorem wk_643 : Cond.selects RX9 yX9_see yX9_see ∈ gj_gw := gj_goodP (List.mem_of_getElem? (i := 39) rfl) rfl
set_option maxRecDepth 20000 in
theorem wk_644 : Cond.code yX9_see cX9_see 2 (some .int) ∈ gj_gw := gj_good (List.mem_of_getElem? (i := 1102) rfl) rfl
set_option maxRecDepth 20000 in
theorem wk_645 : Cond.fieldLink RX9 96 RX9 "to" "I" ∈ gj_gw := gj_good (List.mem_of_getElem? (i := 961) rfl) rfl
set_option maxRecDepth 20000 in
theorem wk_646 : Cond.fieldLink RX9 99 RX9 "from" "I" ∈ gj_gw := gj_good (List.mem_of_getElem? (i := 960) rfl) rfl
set_option maxRecDepth 20000 in
theorem wk_647 : Cond.methodLink RX9 102 yX9_see ∈ gj_gw := gj_good (List.mem_of_getElem? (i := 1099) rfl) rfl
set_option maxRecDepth 20000 in
theorem wk_648 : Cond.fieldLink RX9 106 RX9 "token" "I" ∈ gj_gw := gj_good (List.mem_of_getElem? (i := 962) rfl) rfl
set_option maxRecDepth 20000 in
theorem wk_649 : Cond.fieldLink RX9 109 RX9 "value" "I" ∈ gj_gw := gj_good (List.mem_of_getElem? (i := 963) rfl) rfl
set_option maxRecDepth 20000 in
theorem wk_650 : Cond.fieldLink RX9 112 RX9 "word" "J" ∈ gj_gw := gj_good (List.mem_of_getElem? (i := 964) rfl) rfl
set_option maxRecDepth 20000 in
theorem wk_651 : Cond.constantLong RX9 116 (97 : Int64) ∈ gj_gw := gj_good (List.mem_of_getElem? (i := 1103) rfl) rfl
set_option maxRecDepth 20000 in
theorem wk_652 : Cond.constantLong RX9 118 (122 : Int64) ∈ gj_gw := gj_good (List.mem_of_getElem? (i := 1104) rfl) rfl
set_option maxRecDepth 20000 in
theorem wk_653 : Cond.methodLink RX9 120 yX9_within ∈ gj_gw := gj_good (List.mem_of_getElem? (i := 1092) rfl) rfl
set_option maxRecDepth 20000 in
theorem wk_654 : Cond.constantLong RX9 126 (48 : Int64) ∈ gj_gw := gj_good (List.mem_of_getElem? (i := 1106) rfl) rfl
set_option maxRecDepth 20000 in
theorem wk_655 : Cond.constantLong RX9 128 (57 : Int64) ∈ gj_gw := gj_good (List.mem_of_getElem? (i := 1107) rfl) rfl
set_option maxRecDepth 20000 in
theorem wk_656 : Cond.constantLong RX9 124 (96 : Int64) ∈ gj_gw := gj_good (List.mem_of_getElem? (i := 1105) rfl) rfl
set_option maxRecDepth 20000 in
theorem wk_657 : Cond.instanceMethod yX9_goesOn ∈ gj_gw := gj_good (List.mem_of_getElem? (i := 1097) rfl) rfl
set_option maxRecDepth 20000 in
theorem wk_658 : Cond.selects RX9 yX9_goesOn yX9_goesOn ∈ gj_gw := gj_goodP (List.mem_of_getElem? (i := 38) rfl) rfl
set_option maxRecDepth 20000 in
theorem wk_659 : Cond.code yX9_goesOn cX9_goesOn 2 none ∈ gj_gw := gj_good (List.mem_of_getElem? (i := 1098) rfl) rfl
set_option maxRecDepth 20000 in
theorem wk_660 : Cond.fieldLink RX9 130 RX9 "fault" "I" ∈ gj_gw := gj_good (List.mem_of_getElem? (i := 965) rfl) rfl
set_option maxRecDepth 20000 in
theorem wk_661 : Cond.fieldLink RX9 133 RX9 "faultPlace" "I" ∈ gj_gw := gj_good (List.mem_of_getElem? (i := 966) rfl) rfl
set_option maxRecDepth 20000 in
theorem wk_662 : Cond.instanceMethod yX9_must ∈ gj_gw := gj_good (List.mem_of_getElem? (i := 1174) rfl) rfl
set_option maxRecDepth 20000 in
theorem wk_663 : Cond.selects RX9 yX9_must yX9_must ∈ gj_gw := gj_goodP (List.mem_of_getElem? (i := 43) rfl) rfl
set_option maxRecDepth 20000 in
theorem wk_664 : Cond.code yX9_must cX9_must 3 (some .boolean) ∈ gj_gw := gj_good (List.mem_of_getElem? (i := 1175) rfl) rfl
set_option maxRecDepth 20000 in
theorem wk_665 : Cond.methodLink RX9 146 yX9_spelled ∈ gj_gw := gj_good (List.mem_of_getElem? (i := 1117) rfl) rfl
set_option maxRecDepth 20000 in
theorem wk_666 : Cond.instanceMethod yX9_is ∈ gj_gw := gj_good (List.mem_of_getElem? (i := 1115) rfl) rfl
set_option maxRecDepth 20000 in
theorem wk_667 : Cond.selects RX9 yX9_is yX9_is ∈ gj_gw := gj_goodP (List.mem_of_getElem? (i := 41) rfl) rfl
set_option maxRecDepth 20000 in
theorem wk_668 : Cond.code yX9_is cX9_is 2 (some .boolean) ∈ gj_gw := gj_good (List.mem_of_getElem? (i := 1116) rfl) rfl
set_option maxRecDepth 20000 in
theorem wk_669 : Cond.methodLink RX9 152 yX9_is ∈ gj_gw := gj_good (List.mem_of_getElem? (i := 1113) rfl) rfl
set_option maxRecDepth 20000 in
theorem wk_670 : Cond.instanceMethod yX9_isOwn ∈ gj_gw := gj_good (List.mem_of_getElem? (i := 1186) rfl) rfl
set_option maxRecDepth 20000 in
theorem wk_671 : Cond.selects RX9 yX9_isOwn yX9_isOwn ∈ gj_gw := gj_goodP (List.mem_of_getElem? (i := 46) rfl) rfl
set_option maxRecDepth 20000 in
theorem wk_672 : Cond.code yX9_isOwn cX9_isOwn 1 (some .boolean) ∈ gj_gw := gj_good (List.mem_of_getElem? (i := 1187) rfl) rfl
set_option maxRecDepth 20000 in
theorem wk_673 : Cond.methodLink RX9 165 yX9_isOwn ∈ gj_gw := gj_good (List.mem_of_getElem? (i := 1184) rfl) rfl
set_option maxRecDepth 20000 in
theorem wk_674 : Cond.instanceMethod yX9_isName ∈ gj_gw := gj_good (List.mem_of_getElem? (i := 1182) rfl) rfl
set_option maxRecDepth 20000 in
theorem wk_675 : Cond.selects RX9 yX9_isName yX9_isName ∈ gj_gw := gj_goodP (List.mem_of_getElem? (i := 45) rfl) rfl
set_option maxRecDepth 20000 in
theorem wk_676 : Cond.code yX9_isName cX9_isName 1 (some .boolean) ∈ gj_gw := gj_good (List.mem_of_getElem? (i := 1183) rfl) rfl
set_option maxRecDepth 20000 in
theorem wk_677 : Cond.methodLink RX9 169 yX9_must ∈ gj_gw := gj_good (List.mem_of_getElem? (i := 1172) rfl) rfl
set_option maxRecDepth 20000 in
theorem wk_678 : Cond.methodLink RX9 173 yX9_goesOn ∈ gj_gw := gj_good (List.mem_of_getElem? (i := 1095) rfl) rfl
set_option maxRecDepth 20000 in
theorem wk_679 : Cond.instanceMethod yX9_number ∈ gj_gw := gj_good (List.mem_of_getElem? (i := 1204) rfl) rfl
set_option maxRecDepth 20000 in
theorem wk_680 : Cond.selects RX9 yX9_number yX9_number ∈ gj_gw := gj_goodP (List.mem_of_getElem? (i := 49) rfl) rfl
set_option maxRecDepth 20000 in
theorem wk_681 : Cond.code yX9_number cX9_number 4 (some .int) ∈ gj_gw := gj_good (List.mem_of_getElem? (i := 1205) rfl) rfl
set_option maxRecDepth 20000 in
theorem wk_682 : Cond.methodLink RX9 176 yX9_number ∈ gj_gw := gj_good (List.mem_of_getElem? (i := 1202) rfl) rfl
set_option maxRecDepth 20000 in
theorem wk_683 : Cond.instanceMethod yX9_behind ∈ gj_gw := gj_good (List.mem_of_getElem? (i := 1200) rfl) rfl
set_option maxRecDepth 20000 in
theorem wk_684 : Cond.selects RX9 yX9_behind yX9_behind ∈ gj_gw := gj_goodP (List.mem_of_getElem? (i := 48) rfl) rfl
set_option maxRecDepth 20000 in
theorem wk_685 : Cond.code yX9_behind cX9_behind 4 (some .int) ∈ gj_gw := gj_good (List.mem_of_getElem? (i := 1201) rfl) rfl
set_option maxRecDepth 20000 in
theorem wk_686 : Cond.fieldLink RX9 20 RX9 "names" "[J" ∈ gj_gw := gj_good (List.mem_of_getElem? (i := 969) rfl) rfl
set_option maxRecDepth 20000 in
theorem wk_687 : Cond.instanceMethod yX9_findRead ∈ gj_gw := gj_good (List.mem_of_getElem? (i := 1196) rfl) rfl
set_option maxRecDepth 20000 in
theorem wk_688 : Cond.selects RX9 yX9_findRead yX9_findRead ∈ gj_gw := gj_goodP (List.mem_of_getElem? (i := 47) rfl) rfl
set_option maxRecDepth 20000 in
theorem wk_689 : Cond.code yX9_findRead cX9_findRead 4 (some .int) ∈ gj_gw := gj_good (List.mem_of_getElem? (i := 1197) rfl) rfl
set_option maxRecDepth 20000 in
theorem wk_690 : Cond.methodLink RX9 180 yX9_isName ∈ gj_gw := gj_good (List.mem_of_getElem? (i := 1180) rfl) rfl
set_option maxRecDepth 20000 in
theorem wk_691 : Cond.fieldLink RX9 13 RX9 "docks" "[I" ∈ gj_gw := gj_good (List.mem_of_getElem? (i := 967) rfl) rfl
set_option maxRecDepth 20000 in
theorem wk_692 : Cond.methodLink RX9 183 yX9_findRead ∈ gj_gw := gj_good (List.mem_of_getElem? (i := 1194) rfl) rfl
set_option maxRecDepth 20000 in
theorem wk_693 : Cond.fieldLink RX9 17 RX9 "routes" "[I" ∈ gj_gw := gj_good (List.mem_of_getElem? (i := 968) rfl) rfl
set_option maxRecDepth 20000 in
theorem wk_694 : Cond.instanceMethod yX9_newName ∈ gj_gw := gj_good (List.mem_of_getElem? (i := 1178) rfl) rfl
set_option maxRecDepth 20000 in
theorem wk_695 : Cond.selects RX9 yX9_newName yX9_newName ∈ gj_gw := gj_goodP (List.mem_of_getElem? (i := 44) rfl) rfl
set_option maxRecDepth 20000 in
theorem wk_696 : Cond.code yX9_newName cX9_newName 2 none ∈ gj_gw := gj_good (List.mem_of_getElem? (i := 1179) rfl) rfl
set_option maxRecDepth 20000 in
theorem wk_697 : Cond.instanceMethod yX9_readDock ∈ gj_gw := gj_good (List.mem_of_getElem? (i := 1212) rfl) rfl
set_option maxRecDepth 20000 in
theorem wk_698 : Cond.selects RX9 yX9_readDock yX9_readDock ∈ gj_gw := gj_goodP (List.mem_of_getElem? (i := 51) rfl) rfl
set_option maxRecDepth 20000 in
theorem wk_699 : Cond.code yX9_readDock cX9_readDock 3 (some .int) ∈ gj_gw := gj_good (List.mem_of_getElem? (i := 1213) rfl) rfl
set_option maxRecDepth 20000 in
theorem wk_700 : Cond.methodLink RX9 186 yX9_newName ∈ gj_gw := gj_good (List.mem_of_getElem? (i := 1176) rfl) rfl
set_option maxRecDepth 20000 in
theorem wk_701 : Cond.methodLink RX9 189 yX9_behind ∈ gj_gw := gj_good (List.mem_of_getElem? (i := 1198) rfl) rfl
set_option maxRecDepth 20000 in
theorem wk_702 : Cond.fieldLink RX9 24 RX9 "gives" "[I" ∈ gj_gw := gj_good (List.mem_of_getElem? (i := 970) rfl) rfl
set_option maxRecDepth 20000 in
theorem wk_703 : Cond.instanceMethod yX9_dockLine ∈ gj_gw := gj_good (List.mem_of_getElem? (i := 1170) rfl) rfl
set_option maxRecDepth 20000 in
theorem wk_704 : Cond.selects RX9 yX9_dockLine yX9_dockLine ∈ gj_gw := gj_goodP (List.mem_of_getElem? (i := 42) rfl) rfl
set_option maxRecDepth 20000 in
theorem wk_705 : Cond.code yX9_dockLine cX9_dockLine 2 none ∈ gj_gw := gj_good (List.mem_of_getElem? (i := 1171) rfl) rfl
set_option maxRecDepth 20000 in
theorem wk_706 : Cond.fieldLink RX9 27 RX9 "begin" "[I" ∈ gj_gw := gj_good (List.mem_of_getElem? (i := 971) rfl) rfl
set_option maxRecDepth 20000 in
theorem wk_707 : Cond.methodLink RX9 193 yX9_readDock ∈ gj_gw := gj_good (List.mem_of_getElem? (i := 1210) rfl) rfl
set_option maxRecDepth 20000 in
theorem wk_708 : Cond.fieldLink RX9 30 RX9 "end" "[I" ∈ gj_gw := gj_good (List.mem_of_getElem? (i := 972) rfl) rfl
set_option maxRecDepth 20000 in
theorem wk_709 : Cond.fieldLink RX9 33 RX9 "costs" "[I" ∈ gj_gw := gj_good (List.mem_of_getElem? (i := 973) rfl) rfl
set_option maxRecDepth 20000 in
theorem wk_710 : Cond.fieldLink RX9 36 RX9 "holds" "[I" ∈ gj_gw := gj_good (List.mem_of_getElem? (i := 974) rfl) rfl
set_option maxRecDepth 20000 in
theorem wk_711 : Cond.instanceMethod yX9_routeLine ∈ gj_gw := gj_good (List.mem_of_getElem? (i := 1208) rfl) rfl
set_option maxRecDepth 20000 in
theorem wk_712 : Cond.selects RX9 yX9_routeLine yX9_routeLine ∈ gj_gw := gj_goodP (List.mem_of_getElem? (i := 50) rfl) rfl
set_option maxRecDepth 20000 in
theorem wk_713 : Cond.code yX9_routeLine cX9_routeLine 2 none ∈ gj_gw := gj_good (List.mem_of_getElem? (i := 1209) rfl) rfl
set_option maxRecDepth 20000 in
theorem wk_714 : Cond.fieldLink RX9 196 RX9 "hasBlock" "Z" ∈ gj_gw := gj_good (List.mem_of_getElem? (i := 976) rfl) rfl
set_option maxRecDepth 20000 in
theorem wk_715 : Cond.fieldLink RX9 200 RX9 "blockRead" "I" ∈ gj_gw := gj_good (List.mem_of_getElem? (i := 975) rfl) rfl
set_option maxRecDepth 20000 in
theorem wk_716 : Cond.instanceMethod yX9_blockLine ∈ gj_gw := gj_good (List.mem_of_getElem? (i := 1216) rfl) rfl
set_option maxRecDepth 20000 in
theorem wk_717 : Cond.selects RX9 yX9_blockLine yX9_blockLine ∈ gj_gw := gj_goodP (List.mem_of_getElem? (i := 52) rfl) rfl
set_option maxRecDepth 20000 in
theorem wk_718 : Cond.code yX9_blockLine cX9_blockLine 1 none ∈ gj_gw := gj_good (List.mem_of_getElem? (i := 1217) rfl) rfl
set_option maxRecDepth 20000 in
theorem wk_719 : Cond.methodLink RX9 209 yX9_blockLine ∈ gj_gw := gj_good (List.mem_of_getElem? (i := 1214) rfl) rfl
set_option maxRecDepth 20000 in
theorem wk_720 : Cond.methodLink RX9 206 yX9_routeLine ∈ gj_gw := gj_good (List.mem_of_getElem? (i := 1206) rfl) rfl
set_option maxRecDepth 20000 in
theorem wk_721 : Cond.methodLink RX9 203 yX9_dockLine ∈ gj_gw := gj_good (List.mem_of_getElem? (i := 1168) rfl) rfl
set_option maxRecDepth 20000 in
theorem wk_722 : Cond.instanceMethod yX9_lineHere ∈ gj_gw := gj_good (List.mem_of_getElem? (i := 1110) rfl) rfl
set_option maxRecDepth 20000 in
theorem wk_723 : Cond.selects RX9 yX9_lineHere yX9_lineHere ∈ gj_gw := gj_goodP (List.mem_of_getElem? (i := 40) rfl) rfl
set_option maxRecDepth 20000 in
theorem wk_724 : Cond.code yX9_lineHere cX9_lineHere 1 none ∈ gj_gw := gj_good (List.mem_of_getElem? (i := 1111) rfl) rfl
set_option maxRecDepth 20000 in
theorem wk_725 : Cond.fieldLink RX9 39 RX9 "s" "[I" ∈ gj_gw := gj_good (List.mem_of_getElem? (i := 977) rfl) rfl
set_option maxRecDepth 20000 in
theorem wk_726 : Cond.instanceMethod yX9_begins ∈ gj_gw := gj_good (List.mem_of_getElem? (i := 954) rfl) rfl
set_option maxRecDepth 20000 in
theorem wk_727 : Cond.selects RX9 yX9_begins yX9_begins ∈ gj_gw := gj_goodP (List.mem_of_getElem? (i := 36) rfl) rfl
set_option maxRecDepth 20000 in
theorem wk_728 : Cond.code yX9_begins cX9_begins 3 none ∈ gj_gw := gj_good (List.mem_of_getElem? (i := 955) rfl) rfl
set_option maxRecDepth 20000 in
theorem wk_729 : Cond.methodLink RX9 212 yX9_lineHere ∈ gj_gw := gj_good (List.mem_of_getElem? (i := 1108) rfl) rfl
set_option maxRecDepth 20000 in
theorem wk_730 : Cond.methodLink RX9 79 yX9_begins ∈ gj_gw := gj_good (List.mem_of_getElem? (i := 952) rfl) rfl
set_option maxRecDepth 20000 in
theorem wk_731 : Cond.fieldLink RX9 215 RX9 "undos" "I" ∈ gj_gw := gj_good (List.mem_of_getElem? (i := 979) rfl) rfl
set_option maxRecDepth 20000 in
theorem wk_732 : Cond.fieldLink RX9 48 RX9 "isKept" "[Z" ∈ gj_gw := gj_good (List.mem_of_getElem? (i := 981) rfl) rfl
set_option maxRecDepth 20000 in
theorem wk_733 : Cond.instanceMethod yX9_text ∈ gj_gw := gj_good (List.mem_of_getElem? (i := 1089) rfl) rfl
set_option maxRecDepth 20000 in
theorem wk_734 : Cond.selects RX9 yX9_text yX9_text ∈ gj_gw := gj_good (List.mem_of_getElem? (i := 1090) rfl) rfl
set_option maxRecDepth 20000 in
theorem wk_735 : Cond.code yX9_text cX9_text 3 (some .int) ∈ gj_gw := gj_good (List.mem_of_getElem? (i := 1091) rfl) rfl
set_option maxRecDepth 20000 in
theorem wk_736 : Cond.instanceMethod yX9_ways ∈ gj_gw := gj_good (List.mem_of_getElem? (i := 1233) rfl) rfl
set_option maxRecDepth 20000 in
theorem wk_737 : Cond.selects RX9 yX9_ways yX9_ways ∈ gj_gw := gj_goodP (List.mem_of_getElem? (i := 55) rfl) rfl
set_option maxRecDepth 20000 in
theorem wk_738 : Cond.code yX9_ways cX9_ways 1 (some .int) ∈ gj_gw := gj_good (List.mem_of_getElem? (i := 1234) rfl) rfl
set_option maxRecDepth 20000 in
theorem wk_739 : Cond.instanceMethod yX9_isDock ∈ gj_gw := gj_good (List.mem_of_getElem? (i := 1224) rfl) rfl
set_option maxRecDepth 20000 in
theorem wk_740 : Cond.selects RX9 yX9_isDock yX9_isDock ∈ gj_gw := gj_goodP (List.mem_of_getElem? (i := 53) rfl) rfl
set_option maxRecDepth 20000 in
theorem wk_741 : Cond.code yX9_isDock cX9_isDock 2 (some .boolean) ∈ gj_gw := gj_good (List.mem_of_getElem? (i := 1225) rfl) rfl
set_option maxRecDepth 20000 in
theorem wk_742 : Cond.instanceMethod yX9_isRoute ∈ gj_gw := gj_good (List.mem_of_getElem? (i := 1420) rfl) rfl
set_option maxRecDepth 20000 in
theorem wk_743 : Cond.selects RX9 yX9_isRoute yX9_isRoute ∈ gj_gw := gj_goodP (List.mem_of_getElem? (i := 81) rfl) rfl
set_option maxRecDepth 20000 in
theorem wk_744 : Cond.code yX9_isRoute cX9_isRoute 2 (some .boolean) ∈ gj_gw := gj_good (List.mem_of_getElem? (i := 1421) rfl) rfl
set_option maxRecDepth 20000 in
theorem wk_745 : Cond.methodLink RX9 218 yX9_ways ∈ gj_gw := gj_good (List.mem_of_getElem? (i := 1231) rfl) rfl
set_option maxRecDepth 20000 in
theorem wk_746 : Cond.instanceMethod yX9_isWay ∈ gj_gw := gj_good (List.mem_of_getElem? (i := 1273) rfl) rfl
set_option maxRecDepth 20000 in
theorem wk_747 : Cond.selects RX9 yX9_isWay yX9_isWay ∈ gj_gw := gj_goodP (List.mem_of_getElem? (i := 64) rfl) rfl
set_option maxRecDepth 20000 in
theorem wk_748 : Cond.code yX9_isWay cX9_isWay 2 (some .boolean) ∈ gj_gw := gj_good (List.mem_of_getElem? (i := 1274) rfl) rfl
set_option maxRecDepth 20000 in
theorem wk_749 : Cond.instanceMethod yX9_beginOf ∈ gj_gw := gj_good (List.mem_of_getElem? (i := 1237) rfl) rfl
set_option maxRecDepth 20000 in
theorem wk_750 : Cond.selects RX9 yX9_beginOf yX9_beginOf ∈ gj_gw := gj_goodP (List.mem_of_getElem? (i := 56) rfl) rfl
set_option maxRecDepth 20000 in
theorem wk_751 : Cond.code yX9_beginOf cX9_beginOf 3 (some .int) ∈ gj_gw := gj_good (List.mem_of_getElem? (i := 1238) rfl) rfl
set_option maxRecDepth 20000 in
theorem wk_752 : Cond.instanceMethod yX9_endOf ∈ gj_gw := gj_good (List.mem_of_getElem? (i := 1241) rfl) rfl
set_option maxRecDepth 20000 in
theorem wk_753 : Cond.selects RX9 yX9_endOf yX9_endOf ∈ gj_gw := gj_goodP (List.mem_of_getElem? (i := 57) rfl) rfl
set_option maxRecDepth 20000 in
theorem wk_754 : Cond.code yX9_endOf cX9_endOf 3 (some .int) ∈ gj_gw := gj_good (List.mem_of_getElem? (i := 1242) rfl) rfl
set_option maxRecDepth 20000 in
theorem wk_755 : Cond.instanceMethod yX9_costOf ∈ gj_gw := gj_good (List.mem_of_getElem? (i := 1245) rfl) rfl
set_option maxRecDepth 20000 in
theorem wk_756 : Cond.selects RX9 yX9_costOf yX9_costOf ∈ gj_gw := gj_goodP (List.mem_of_getElem? (i := 58) rfl) rfl
set_option maxRecDepth 20000 in
theorem wk_757 : Cond.code yX9_costOf cX9_costOf 2 (some .int) ∈ gj_gw := gj_good (List.mem_of_getElem? (i := 1246) rfl) rfl
set_option maxRecDepth 20000 in
theorem wk_758 : Cond.constant RX9 221 (1000000000 : Int32) ∈ gj_gw := gj_good (List.mem_of_getElem? (i := 1325) rfl) rfl
set_option maxRecDepth 20000 in
theorem wk_759 : Cond.instanceMethod yX9_holdsOf ∈ gj_gw := gj_good (List.mem_of_getElem? (i := 1332) rfl) rfl
set_option maxRecDepth 20000 in
theorem wk_760 : Cond.selects RX9 yX9_holdsOf yX9_holdsOf ∈ gj_gw := gj_goodP (List.mem_of_getElem? (i := 73) rfl) rfl
set_option maxRecDepth 20000 in
theorem wk_761 : Cond.code yX9_holdsOf cX9_holdsOf 2 (some .int) ∈ gj_gw := gj_good (List.mem_of_getElem? (i := 1333) rfl) rfl
set_option maxRecDepth 20000 in
theorem wk_762 : Cond.fieldLink RX9 55 RX9 "up" "[I" ∈ gj_gw := gj_good (List.mem_of_getElem? (i := 983) rfl) rfl
set_option maxRecDepth 20000 in
theorem wk_763 : Cond.fieldLink RX9 58 RX9 "depth" "[I" ∈ gj_gw := gj_good (List.mem_of_getElem? (i := 984) rfl) rfl
set_option maxRecDepth 20000 in
theorem wk_764 : Cond.fieldLink RX9 61 RX9 "price" "[I" ∈ gj_gw := gj_good (List.mem_of_getElem? (i := 985) rfl) rfl
set_option maxRecDepth 20000 in
theorem wk_765 : Cond.instanceMethod yX9_hangs ∈ gj_gw := gj_good (List.mem_of_getElem? (i := 1249) rfl) rfl
set_option maxRecDepth 20000 in
theorem wk_766 : Cond.selects RX9 yX9_hangs yX9_hangs ∈ gj_gw := gj_goodP (List.mem_of_getElem? (i := 59) rfl) rfl
set_option maxRecDepth 20000 in
theorem wk_767 : Cond.code yX9_hangs cX9_hangs 5 none ∈ gj_gw := gj_good (List.mem_of_getElem? (i := 1250) rfl) rfl
set_option maxRecDepth 20000 in
theorem wk_768 : Cond.methodLink RX9 222 yX9_beginOf ∈ gj_gw := gj_good (List.mem_of_getElem? (i := 1235) rfl) rfl
set_option maxRecDepth 20000 in
theorem wk_769 : Cond.methodLink RX9 225 yX9_endOf ∈ gj_gw := gj_good (List.mem_of_getElem? (i := 1239) rfl) rfl
set_option maxRecDepth 20000 in
theorem wk_770 : Cond.methodLink RX9 228 yX9_costOf ∈ gj_gw := gj_good (List.mem_of_getElem? (i := 1243) rfl) rfl
set_option maxRecDepth 20000 in
theorem wk_771 : Cond.methodLink RX9 231 yX9_hangs ∈ gj_gw := gj_good (List.mem_of_getElem? (i := 1247) rfl) rfl
set_option maxRecDepth 20000 in
theorem wk_772 : Cond.instanceMethod yX9_laysTree ∈ gj_gw := gj_good (List.mem_of_getElem? (i := 1229) rfl) rfl
set_option maxRecDepth 20000 in
theorem wk_773 : Cond.selects RX9 yX9_laysTree yX9_laysTree ∈ gj_gw := gj_goodP (List.mem_of_getElem? (i := 54) rfl) rfl
set_option maxRecDepth 20000 in
theorem wk_774 : Cond.code yX9_laysTree cX9_laysTree 5 none ∈ gj_gw := gj_good (List.mem_of_getElem? (i := 1230) rfl) rfl
set_option maxRecDepth 20000 in
theorem wk_775 : Cond.instanceMethod yX9_aboveOf ∈ gj_gw := gj_good (List.mem_of_getElem? (i := 1257) rfl) rfl
set_option maxRecDepth 20000 in
theorem wk_776 : Cond.selects RX9 yX9_aboveOf yX9_aboveOf ∈ gj_gw := gj_goodP (List.mem_of_getElem? (i := 61) rfl) rfl
set_option maxRecDepth 20000 in
theorem wk_777 : Cond.code yX9_aboveOf cX9_aboveOf 2 (some .int) ∈ gj_gw := gj_good (List.mem_of_getElem? (i := 1258) rfl) rfl
set_option maxRecDepth 20000 in
theorem wk_778 : Cond.instanceMethod yX9_isUpward ∈ gj_gw := gj_good (List.mem_of_getElem? (i := 1323) rfl) rfl
set_option maxRecDepth 20000 in
theorem wk_779 : Cond.selects RX9 yX9_isUpward yX9_isUpward ∈ gj_gw := gj_goodP (List.mem_of_getElem? (i := 71) rfl) rfl
set_option maxRecDepth 20000 in
theorem wk_780 : Cond.code yX9_isUpward cX9_isUpward 2 (some .boolean) ∈ gj_gw := gj_good (List.mem_of_getElem? (i := 1324) rfl) rfl
set_option maxRecDepth 20000 in
theorem wk_781 : Cond.instanceMethod yX9_gainOf ∈ gj_gw := gj_good (List.mem_of_getElem? (i := 1280) rfl) rfl
set_option maxRecDepth 20000 in
theorem wk_782 : Cond.selects RX9 yX9_gainOf yX9_gainOf ∈ gj_gw := gj_goodP (List.mem_of_getElem? (i := 65) rfl) rfl
set_option maxRecDepth 20000 in
theorem wk_783 : Cond.code yX9_gainOf cX9_gainOf 2 (some .int) ∈ gj_gw := gj_good (List.mem_of_getElem? (i := 1281) rfl) rfl
set_option maxRecDepth 20000 in
theorem wk_784 : Cond.methodLink RX9 235 yX9_gainOf ∈ gj_gw := gj_good (List.mem_of_getElem? (i := 1278) rfl) rfl
set_option maxRecDepth 20000 in
theorem wk_785 : Cond.instanceMethod yX9_isGood ∈ gj_gw := gj_good (List.mem_of_getElem? (i := 1296) rfl) rfl
set_option maxRecDepth 20000 in
theorem wk_786 : Cond.selects RX9 yX9_isGood yX9_isGood ∈ gj_gw := gj_goodP (List.mem_of_getElem? (i := 67) rfl) rfl
set_option maxRecDepth 20000 in
theorem wk_787 : Cond.code yX9_isGood cX9_isGood 2 (some .boolean) ∈ gj_gw := gj_good (List.mem_of_getElem? (i := 1297) rfl) rfl
set_option maxRecDepth 20000 in
theorem wk_788 : Cond.methodLink RX9 238 yX9_isGood ∈ gj_gw := gj_good (List.mem_of_getElem? (i := 1294) rfl) rfl
set_option maxRecDepth 20000 in
theorem wk_789 : Cond.instanceMethod yX9_goodMany ∈ gj_gw := gj_good (List.mem_of_getElem? (i := 1292) rfl) rfl
set_option maxRecDepth 20000 in
theorem wk_790 : Cond.selects RX9 yX9_goodMany yX9_goodMany ∈ gj_gw := gj_goodP (List.mem_of_getElem? (i := 66) rfl) rfl
set_option maxRecDepth 20000 in
theorem wk_791 : Cond.code yX9_goodMany cX9_goodMany 3 (some .int) ∈ gj_gw := gj_good (List.mem_of_getElem? (i := 1293) rfl) rfl
set_option maxRecDepth 20000 in
theorem wk_792 : Cond.methodLink RX9 242 yX9_laysTree ∈ gj_gw := gj_good (List.mem_of_getElem? (i := 1227) rfl) rfl
set_option maxRecDepth 20000 in
theorem wk_793 : Cond.methodLink RX9 245 yX9_goodMany ∈ gj_gw := gj_good (List.mem_of_getElem? (i := 1290) rfl) rfl
set_option maxRecDepth 20000 in
theorem wk_794 : Cond.instanceMethod yX9_isEnd ∈ gj_gw := gj_good (List.mem_of_getElem? (i := 1349) rfl) rfl
set_option maxRecDepth 20000 in
theorem wk_795 : Cond.selects RX9 yX9_isEnd yX9_isEnd ∈ gj_gw := gj_goodP (List.mem_of_getElem? (i := 74) rfl) rfl
set_option maxRecDepth 20000 in
theorem wk_796 : Cond.code yX9_isEnd cX9_isEnd 1 (some .boolean) ∈ gj_gw := gj_good (List.mem_of_getElem? (i := 1350) rfl) rfl
set_option maxRecDepth 20000 in
theorem wk_797 : Cond.methodLink RX9 248 yX9_aboveOf ∈ gj_gw := gj_good (List.mem_of_getElem? (i := 1255) rfl) rfl
set_option maxRecDepth 20000 in
theorem wk_798 : Cond.instanceMethod yX9_underOf ∈ gj_gw := gj_good (List.mem_of_getElem? (i := 1253) rfl) rfl
set_option maxRecDepth 20000 in
theorem wk_799 : Cond.selects RX9 yX9_underOf yX9_underOf ∈ gj_gw := gj_goodP (List.mem_of_getElem? (i := 60) rfl) rfl
set_option maxRecDepth 20000 in
theorem wk_800 : Cond.code yX9_underOf cX9_underOf 5 (some .int) ∈ gj_gw := gj_good (List.mem_of_getElem? (i := 1254) rfl) rfl
set_option maxRecDepth 20000 in
theorem wk_801 : Cond.instanceMethod yX9_lackOf ∈ gj_gw := gj_good (List.mem_of_getElem? (i := 1261) rfl) rfl
set_option maxRecDepth 20000 in
theorem wk_802 : Cond.selects RX9 yX9_lackOf yX9_lackOf ∈ gj_gw := gj_goodP (List.mem_of_getElem? (i := 62) rfl) rfl
set_option maxRecDepth 20000 in
theorem wk_803 : Cond.code yX9_lackOf cX9_lackOf 2 (some .int) ∈ gj_gw := gj_good (List.mem_of_getElem? (i := 1262) rfl) rfl
set_option maxRecDepth 20000 in
theorem wk_804 : Cond.instanceMethod yX9_stuckOf ∈ gj_gw := gj_good (List.mem_of_getElem? (i := 1265) rfl) rfl
set_option maxRecDepth 20000 in
theorem wk_805 : Cond.selects RX9 yX9_stuckOf yX9_stuckOf ∈ gj_gw := gj_goodP (List.mem_of_getElem? (i := 63) rfl) rfl
set_option maxRecDepth 20000 in
theorem wk_806 : Cond.code yX9_stuckOf cX9_stuckOf 2 (some .int) ∈ gj_gw := gj_good (List.mem_of_getElem? (i := 1266) rfl) rfl
set_option maxRecDepth 20000 in
theorem wk_807 : Cond.methodLink RX9 251 yX9_isDock ∈ gj_gw := gj_good (List.mem_of_getElem? (i := 1222) rfl) rfl
set_option maxRecDepth 20000 in
theorem wk_808 : Cond.constantLong RX9 254 (6 : Int64) ∈ gj_gw := gj_good (List.mem_of_getElem? (i := 1226) rfl) rfl
set_option maxRecDepth 20000 in
theorem wk_809 : Cond.methodLink RX9 256 yX9_underOf ∈ gj_gw := gj_good (List.mem_of_getElem? (i := 1251) rfl) rfl
set_option maxRecDepth 20000 in
theorem wk_810 : Cond.methodLink RX9 259 yX9_lackOf ∈ gj_gw := gj_good (List.mem_of_getElem? (i := 1259) rfl) rfl
set_option maxRecDepth 20000 in
theorem wk_811 : Cond.methodLink RX9 262 yX9_stuckOf ∈ gj_gw := gj_good (List.mem_of_getElem? (i := 1263) rfl) rfl
set_option maxRecDepth 20000 in
theorem wk_812 : Cond.instanceMethod yX9_dock ∈ gj_gw := gj_good (List.mem_of_getElem? (i := 1219) rfl) rfl
set_option maxRecDepth 20000 in
theorem wk_813 : Cond.selects RX9 yX9_dock yX9_dock ∈ gj_gw := gj_good (List.mem_of_getElem? (i := 1220) rfl) rfl
set_option maxRecDepth 20000 in
theorem wk_814 : Cond.code yX9_dock cX9_dock 3 (some .int) ∈ gj_gw := gj_good (List.mem_of_getElem? (i := 1221) rfl) rfl
set_option maxRecDepth 20000 in
theorem wk_815 : Cond.static yX9_told ∈ gj_gw := gj_good (List.mem_of_getElem? (i := 1276) rfl) rfl
set_option maxRecDepth 20000 in
theorem wk_816 : Cond.code yX9_told cX9_told 1 (some .int) ∈ gj_gw := gj_good (List.mem_of_getElem? (i := 1277) rfl) rfl
set_option maxRecDepth 20000 in
theorem wk_817 : Cond.methodLink RX9 265 yX9_isWay ∈ gj_gw := gj_good (List.mem_of_getElem? (i := 1271) rfl) rfl
set_option maxRecDepth 20000 in
theorem wk_818 : Cond.methodLink RX9 268 yX9_told ∈ gj_gw := gj_good (List.mem_of_getElem? (i := 1275) rfl) rfl
set_option maxRecDepth 20000 in
theorem wk_819 : Cond.instanceMethod yX9_way ∈ gj_gw := gj_good (List.mem_of_getElem? (i := 1268) rfl) rfl
set_option maxRecDepth 20000 in
theorem wk_820 : Cond.selects RX9 yX9_way yX9_way ∈ gj_gw := gj_good (List.mem_of_getElem? (i := 1269) rfl) rfl
set_option maxRecDepth 20000 in
theorem wk_821 : Cond.code yX9_way cX9_way 3 (some .int) ∈ gj_gw := gj_good (List.mem_of_getElem? (i := 1270) rfl) rfl
set_option maxRecDepth 20000 in
theorem wk_822 : Cond.instanceMethod yX9_ranked ∈ gj_gw := gj_good (List.mem_of_getElem? (i := 1283) rfl) rfl
set_option maxRecDepth 20000 in
theorem wk_823 : Cond.selects RX9 yX9_ranked yX9_ranked ∈ gj_gw := gj_good (List.mem_of_getElem? (i := 1284) rfl) rfl
set_option maxRecDepth 20000 in
theorem wk_824 : Cond.code yX9_ranked cX9_ranked 5 (some .int) ∈ gj_gw := gj_good (List.mem_of_getElem? (i := 1285) rfl) rfl
set_option maxRecDepth 20000 in
theorem wk_825 : Cond.static yX9_sizeOf ∈ gj_gw := gj_good (List.mem_of_getElem? (i := 1307) rfl) rfl
set_option maxRecDepth 20000 in
theorem wk_826 : Cond.code yX9_sizeOf cX9_sizeOf 1 (some .int) ∈ gj_gw := gj_good (List.mem_of_getElem? (i := 1308) rfl) rfl
set_option maxRecDepth 20000 in
theorem wk_827 : Cond.methodLink RX9 271 yX9_sizeOf ∈ gj_gw := gj_good (List.mem_of_getElem? (i := 1306) rfl) rfl
set_option maxRecDepth 20000 in
theorem wk_828 : Cond.fieldLink RX9 274 RX9 "lookedBehind" "I" ∈ gj_gw := gj_good (List.mem_of_getElem? (i := 986) rfl) rfl
set_option maxRecDepth 20000 in
theorem wk_829 : Cond.instanceMethod yX9_entering ∈ gj_gw := gj_good (List.mem_of_getElem? (i := 1304) rfl) rfl
set_option maxRecDepth 20000 in
theorem wk_830 : Cond.selects RX9 yX9_entering yX9_entering ∈ gj_gw := gj_goodP (List.mem_of_getElem? (i := 68) rfl) rfl
set_option maxRecDepth 20000 in
theorem wk_831 : Cond.code yX9_entering cX9_entering 5 (some .int) ∈ gj_gw := gj_good (List.mem_of_getElem? (i := 1305) rfl) rfl
set_option maxRecDepth 20000 in
theorem wk_832 : Cond.instanceMethod yX9_apexOf ∈ gj_gw := gj_good (List.mem_of_getElem? (i := 1319) rfl) rfl
set_option maxRecDepth 20000 in
theorem wk_833 : Cond.selects RX9 yX9_apexOf yX9_apexOf ∈ gj_gw := gj_goodP (List.mem_of_getElem? (i := 70) rfl) rfl
set_option maxRecDepth 20000 in
theorem wk_834 : Cond.code yX9_apexOf cX9_apexOf 5 (some .int) ∈ gj_gw := gj_good (List.mem_of_getElem? (i := 1320) rfl) rfl
set_option maxRecDepth 20000 in
theorem wk_835 : Cond.fieldLink RX9 64 RX9 "ring" "[I" ∈ gj_gw := gj_good (List.mem_of_getElem? (i := 987) rfl) rfl
set_option maxRecDepth 20000 in
theorem wk_836 : Cond.fieldLink RX9 67 RX9 "along" "[Z" ∈ gj_gw := gj_good (List.mem_of_getElem? (i := 988) rfl) rfl
set_option maxRecDepth 20000 in
theorem wk_837 : Cond.methodLink RX9 277 yX9_holdsOf ∈ gj_gw := gj_good (List.mem_of_getElem? (i := 1330) rfl) rfl
set_option maxRecDepth 20000 in
theorem wk_838 : Cond.instanceMethod yX9_roomOf ∈ gj_gw := gj_good (List.mem_of_getElem? (i := 1328) rfl) rfl
set_option maxRecDepth 20000 in
theorem wk_839 : Cond.selects RX9 yX9_roomOf yX9_roomOf ∈ gj_gw := gj_goodP (List.mem_of_getElem? (i := 72) rfl) rfl
set_option maxRecDepth 20000 in
theorem wk_840 : Cond.code yX9_roomOf cX9_roomOf 3 (some .int) ∈ gj_gw := gj_good (List.mem_of_getElem? (i := 1329) rfl) rfl
set_option maxRecDepth 20000 in
theorem wk_841 : Cond.methodLink RX9 280 yX9_apexOf ∈ gj_gw := gj_good (List.mem_of_getElem? (i := 1317) rfl) rfl
set_option maxRecDepth 20000 in
theorem wk_842 : Cond.fieldLink RX9 283 RX9 "apex" "I" ∈ gj_gw := gj_good (List.mem_of_getElem? (i := 990) rfl) rfl
set_option maxRecDepth 20000 in
theorem wk_843 : Cond.fieldLink RX9 286 RX9 "ringMany" "I" ∈ gj_gw := gj_good (List.mem_of_getElem? (i := 989) rfl) rfl
set_option maxRecDepth 20000 in
theorem wk_844 : Cond.methodLink RX9 289 yX9_isUpward ∈ gj_gw := gj_good (List.mem_of_getElem? (i := 1321) rfl) rfl
set_option maxRecDepth 20000 in
theorem wk_845 : Cond.fieldLink RX9 292 RX9 "load" "I" ∈ gj_gw := gj_good (List.mem_of_getElem? (i := 991) rfl) rfl
set_option maxRecDepth 20000 in
theorem wk_846 : Cond.fieldLink RX9 295 RX9 "leaving" "I" ∈ gj_gw := gj_good (List.mem_of_getElem? (i := 992) rfl) rfl
set_option maxRecDepth 20000 in
theorem wk_847 : Cond.methodLink RX9 298 yX9_roomOf ∈ gj_gw := gj_good (List.mem_of_getElem? (i := 1326) rfl) rfl
set_option maxRecDepth 20000 in
theorem wk_848 : Cond.instanceMethod yX9_laysRing ∈ gj_gw := gj_good (List.mem_of_getElem? (i := 1315) rfl) rfl
set_option maxRecDepth 20000 in
theorem wk_849 : Cond.selects RX9 yX9_laysRing yX9_laysRing ∈ gj_gw := gj_goodP (List.mem_of_getElem? (i := 69) rfl) rfl
set_option maxRecDepth 20000 in
theorem wk_850 : Cond.code yX9_laysRing cX9_laysRing 8 none ∈ gj_gw := gj_good (List.mem_of_getElem? (i := 1316) rfl) rfl
set_option maxRecDepth 20000 in
theorem wk_851 : Cond.instanceMethod yX9_good ∈ gj_gw := gj_good (List.mem_of_getElem? (i := 1287) rfl) rfl
set_option maxRecDepth 20000 in
theorem wk_852 : Cond.selects RX9 yX9_good yX9_good ∈ gj_gw := gj_good (List.mem_of_getElem? (i := 1288) rfl) rfl
set_option maxRecDepth 20000 in
theorem wk_853 : Cond.code yX9_good cX9_good 1 (some .int) ∈ gj_gw := gj_good (List.mem_of_getElem? (i := 1289) rfl) rfl
set_option maxRecDepth 20000 in
theorem wk_854 : Cond.methodLink RX9 301 yX9_entering ∈ gj_gw := gj_good (List.mem_of_getElem? (i := 1302) rfl) rfl
set_option maxRecDepth 20000 in
theorem wk_855 : Cond.instanceMethod yX9_enters ∈ gj_gw := gj_good (List.mem_of_getElem? (i := 1299) rfl) rfl
set_option maxRecDepth 20000 in
theorem wk_856 : Cond.selects RX9 yX9_enters yX9_enters ∈ gj_gw := gj_good (List.mem_of_getElem? (i := 1300) rfl) rfl
set_option maxRecDepth 20000 in
theorem wk_857 : Cond.code yX9_enters cX9_enters 2 (some .int) ∈ gj_gw := gj_good (List.mem_of_getElem? (i := 1301) rfl) rfl
set_option maxRecDepth 20000 in
theorem wk_858 : Cond.methodLink RX9 304 yX9_laysRing ∈ gj_gw := gj_good (List.mem_of_getElem? (i := 1313) rfl) rfl
set_option maxRecDepth 20000 in
theorem wk_859 : Cond.instanceMethod yX9_ring ∈ gj_gw := gj_good (List.mem_of_getElem? (i := 1310) rfl) rfl
set_option maxRecDepth 20000 in
theorem wk_860 : Cond.selects RX9 yX9_ring yX9_ring ∈ gj_gw := gj_good (List.mem_of_getElem? (i := 1311) rfl) rfl
set_option maxRecDepth 20000 in
theorem wk_861 : Cond.code yX9_ring cX9_ring 3 (some .int) ∈ gj_gw := gj_good (List.mem_of_getElem? (i := 1312) rfl) rfl
set_option maxRecDepth 20000 in
theorem wk_862 : Cond.constantLong RX9 307 (2 : Int64) ∈ gj_gw := gj_good (List.mem_of_getElem? (i := 1338) rfl) rfl
set_option maxRecDepth 20000 in
theorem wk_863 : Cond.instanceMethod yX9_closes ∈ gj_gw := gj_good (List.mem_of_getElem? (i := 1335) rfl) rfl
set_option maxRecDepth 20000 in
theorem wk_864 : Cond.selects RX9 yX9_closes yX9_closes ∈ gj_gw := gj_good (List.mem_of_getElem? (i := 1336) rfl) rfl
set_option maxRecDepth 20000 in
theorem wk_865 : Cond.code yX9_closes cX9_closes 3 (some .int) ∈ gj_gw := gj_good (List.mem_of_getElem? (i := 1337) rfl) rfl
set_option maxRecDepth 20000 in
theorem wk_866 : Cond.instanceMethod yX9_strong ∈ gj_gw := gj_good (List.mem_of_getElem? (i := 1340) rfl) rfl
set_option maxRecDepth 20000 in
theorem wk_867 : Cond.selects RX9 yX9_strong yX9_strong ∈ gj_gw := gj_good (List.mem_of_getElem? (i := 1341) rfl) rfl
set_option maxRecDepth 20000 in
theorem wk_868 : Cond.code yX9_strong cX9_strong 3 (some .int) ∈ gj_gw := gj_good (List.mem_of_getElem? (i := 1342) rfl) rfl
set_option maxRecDepth 20000 in
theorem wk_869 : Cond.fieldLink RX9 70 RX9 "priceWas" "[I" ∈ gj_gw := gj_good (List.mem_of_getElem? (i := 993) rfl) rfl
set_option maxRecDepth 20000 in
theorem wk_870 : Cond.instanceMethod yX9_moved ∈ gj_gw := gj_good (List.mem_of_getElem? (i := 1361) rfl) rfl
set_option maxRecDepth 20000 in
theorem wk_871 : Cond.selects RX9 yX9_moved yX9_moved ∈ gj_gw := gj_goodP (List.mem_of_getElem? (i := 77) rfl) rfl
set_option maxRecDepth 20000 in
theorem wk_872 : Cond.code yX9_moved cX9_moved 3 (some .int) ∈ gj_gw := gj_good (List.mem_of_getElem? (i := 1362) rfl) rfl
set_option maxRecDepth 20000 in
theorem wk_873 : Cond.instanceMethod yX9_logs ∈ gj_gw := gj_good (List.mem_of_getElem? (i := 1365) rfl) rfl
set_option maxRecDepth 20000 in
theorem wk_874 : Cond.selects RX9 yX9_logs yX9_logs ∈ gj_gw := gj_goodP (List.mem_of_getElem? (i := 78) rfl) rfl
set_option maxRecDepth 20000 in
theorem wk_875 : Cond.code yX9_logs cX9_logs 7 none ∈ gj_gw := gj_good (List.mem_of_getElem? (i := 1366) rfl) rfl
set_option maxRecDepth 20000 in
theorem wk_876 : Cond.methodLink RX9 309 yX9_moved ∈ gj_gw := gj_good (List.mem_of_getElem? (i := 1359) rfl) rfl
set_option maxRecDepth 20000 in
theorem wk_877 : Cond.methodLink RX9 312 yX9_logs ∈ gj_gw := gj_good (List.mem_of_getElem? (i := 1363) rfl) rfl
set_option maxRecDepth 20000 in
theorem wk_878 : Cond.instanceMethod yX9_pivot ∈ gj_gw := gj_good (List.mem_of_getElem? (i := 1357) rfl) rfl
set_option maxRecDepth 20000 in
theorem wk_879 : Cond.selects RX9 yX9_pivot yX9_pivot ∈ gj_gw := gj_goodP (List.mem_of_getElem? (i := 76) rfl) rfl
set_option maxRecDepth 20000 in
theorem wk_880 : Cond.code yX9_pivot cX9_pivot 4 (some .int) ∈ gj_gw := gj_good (List.mem_of_getElem? (i := 1358) rfl) rfl
set_option maxRecDepth 20000 in
theorem wk_881 : Cond.fieldLink RX9 42 RX9 "undone" "[I" ∈ gj_gw := gj_good (List.mem_of_getElem? (i := 978) rfl) rfl
set_option maxRecDepth 20000 in
theorem wk_882 : Cond.instanceMethod yX9_keeps ∈ gj_gw := gj_good (List.mem_of_getElem? (i := 1353) rfl) rfl
set_option maxRecDepth 20000 in
theorem wk_883 : Cond.selects RX9 yX9_keeps yX9_keeps ∈ gj_gw := gj_goodP (List.mem_of_getElem? (i := 75) rfl) rfl
set_option maxRecDepth 20000 in
theorem wk_884 : Cond.code yX9_keeps cX9_keeps 2 none ∈ gj_gw := gj_good (List.mem_of_getElem? (i := 1354) rfl) rfl
set_option maxRecDepth 20000 in
theorem wk_885 : Cond.methodLink RX9 316 yX9_isEnd ∈ gj_gw := gj_good (List.mem_of_getElem? (i := 1347) rfl) rfl
set_option maxRecDepth 20000 in
theorem wk_886 : Cond.methodLink RX9 319 yX9_keeps ∈ gj_gw := gj_good (List.mem_of_getElem? (i := 1351) rfl) rfl
set_option maxRecDepth 20000 in
theorem wk_887 : Cond.methodLink RX9 322 yX9_pivot ∈ gj_gw := gj_good (List.mem_of_getElem? (i := 1355) rfl) rfl
set_option maxRecDepth 20000 in
theorem wk_888 : Cond.instanceMethod yX9_step ∈ gj_gw := gj_good (List.mem_of_getElem? (i := 1344) rfl) rfl
set_option maxRecDepth 20000 in
theorem wk_889 : Cond.selects RX9 yX9_step yX9_step ∈ gj_gw := gj_good (List.mem_of_getElem? (i := 1345) rfl) rfl
set_option maxRecDepth 20000 in
theorem wk_890 : Cond.code yX9_step cX9_step 1 (some .int) ∈ gj_gw := gj_good (List.mem_of_getElem? (i := 1346) rfl) rfl
set_option maxRecDepth 20000 in
theorem wk_891 : Cond.constantLong RX9 325 (99 : Int64) ∈ gj_gw := gj_good (List.mem_of_getElem? (i := 1371) rfl) rfl
set_option maxRecDepth 20000 in
theorem wk_892 : Cond.instanceMethod yX9_run ∈ gj_gw := gj_good (List.mem_of_getElem? (i := 1368) rfl) rfl
set_option maxRecDepth 20000 in
theorem wk_893 : Cond.selects RX9 yX9_run yX9_run ∈ gj_gw := gj_good (List.mem_of_getElem? (i := 1369) rfl) rfl
set_option maxRecDepth 20000 in
theorem wk_894 : Cond.code yX9_run cX9_run 3 (some .int) ∈ gj_gw := gj_good (List.mem_of_getElem? (i := 1370) rfl) rfl
set_option maxRecDepth 20000 in
theorem wk_895 : Cond.constantLong RX9 327 (4 : Int64) ∈ gj_gw := gj_good (List.mem_of_getElem? (i := 1376) rfl) rfl
set_option maxRecDepth 20000 in
theorem wk_896 : Cond.instanceMethod yX9_log ∈ gj_gw := gj_good (List.mem_of_getElem? (i := 1373) rfl) rfl
set_option maxRecDepth 20000 in
theorem wk_897 : Cond.selects RX9 yX9_log yX9_log ∈ gj_gw := gj_good (List.mem_of_getElem? (i := 1374) rfl) rfl
set_option maxRecDepth 20000 in
theorem wk_898 : Cond.code yX9_log cX9_log 3 (some .int) ∈ gj_gw := gj_good (List.mem_of_getElem? (i := 1375) rfl) rfl
set_option maxRecDepth 20000 in
theorem wk_899 : Cond.instanceMethod yX9_costNow ∈ gj_gw := gj_good (List.mem_of_getElem? (i := 1383) rfl) rfl
set_option maxRecDepth 20000 in
theorem wk_900 : Cond.selects RX9 yX9_costNow yX9_costNow ∈ gj_gw := gj_goodP (List.mem_of_getElem? (i := 79) rfl) rfl
set_option maxRecDepth 20000 in
theorem wk_901 : Cond.code yX9_costNow cX9_costNow 3 (some .int) ∈ gj_gw := gj_good (List.mem_of_getElem? (i := 1384) rfl) rfl
set_option maxRecDepth 20000 in
theorem wk_902 : Cond.methodLink RX9 329 yX9_costNow ∈ gj_gw := gj_good (List.mem_of_getElem? (i := 1381) rfl) rfl
set_option maxRecDepth 20000 in
theorem wk_903 : Cond.instanceMethod yX9_cost ∈ gj_gw := gj_good (List.mem_of_getElem? (i := 1378) rfl) rfl
set_option maxRecDepth 20000 in
theorem wk_904 : Cond.selects RX9 yX9_cost yX9_cost ∈ gj_gw := gj_good (List.mem_of_getElem? (i := 1379) rfl) rfl
set_option maxRecDepth 20000 in
theorem wk_905 : Cond.code yX9_cost cX9_cost 1 (some .int) ∈ gj_gw := gj_good (List.mem_of_getElem? (i := 1380) rfl) rfl
set_option maxRecDepth 20000 in
theorem wk_906 : Cond.constantLong RX9 334 (-2147483648 : Int64) ∈ gj_gw := gj_good (List.mem_of_getElem? (i := 1389) rfl) rfl
set_option maxRecDepth 20000 in
theorem wk_907 : Cond.constantLong RX9 336 (2147483647 : Int64) ∈ gj_gw := gj_good (List.mem_of_getElem? (i := 1390) rfl) rfl
set_option maxRecDepth 20000 in
theorem wk_908 : Cond.constant RX9 338 (-2147483648 : Int32) ∈ gj_gw := gj_good (List.mem_of_getElem? (i := 1391) rfl) rfl
set_option maxRecDepth 20000 in
theorem wk_909 : Cond.instanceMethod yX9_bill ∈ gj_gw := gj_good (List.mem_of_getElem? (i := 1386) rfl) rfl
set_option maxRecDepth 20000 in
theorem wk_910 : Cond.selects RX9 yX9_bill yX9_bill ∈ gj_gw := gj_good (List.mem_of_getElem? (i := 1387) rfl) rfl
set_option maxRecDepth 20000 in
theorem wk_911 : Cond.code yX9_bill cX9_bill 5 (some .int) ∈ gj_gw := gj_good (List.mem_of_getElem? (i := 1388) rfl) rfl
set_option maxRecDepth 20000 in
theorem wk_912 : Cond.constantLong RX9 339 (10000 : Int64) ∈ gj_gw := gj_good (List.mem_of_getElem? (i := 1396) rfl) rfl
set_option maxRecDepth 20000 in
theorem wk_913 : Cond.instanceMethod yX9_total ∈ gj_gw := gj_good (List.mem_of_getElem? (i := 1393) rfl) rfl
set_option maxRecDepth 20000 in
theorem wk_914 : Cond.selects RX9 yX9_total yX9_total ∈ gj_gw := gj_good (List.mem_of_getElem? (i := 1394) rfl) rfl
set_option maxRecDepth 20000 in
theorem wk_915 : Cond.code yX9_total cX9_total 4 (some .long) ∈ gj_gw := gj_good (List.mem_of_getElem? (i := 1395) rfl) rfl
set_option maxRecDepth 20000 in
theorem wk_916 : Cond.instanceMethod yX9_proof ∈ gj_gw := gj_good (List.mem_of_getElem? (i := 1398) rfl) rfl
set_option maxRecDepth 20000 in
theorem wk_917 : Cond.selects RX9 yX9_proof yX9_proof ∈ gj_gw := gj_good (List.mem_of_getElem? (i := 1399) rfl) rfl
set_option maxRecDepth 20000 in
theorem wk_918 : Cond.code yX9_proof cX9_proof 4 (some .long) ∈ gj_gw := gj_good (List.mem_of_getElem? (i := 1400) rfl) rfl
set_option maxRecDepth 20000 in
theorem wk_919 : Cond.instanceMethod yX9_allLack ∈ gj_gw := gj_good (List.mem_of_getElem? (i := 1430) rfl) rfl
set_option maxRecDepth 20000 in
theorem wk_920 : Cond.selects RX9 yX9_allLack yX9_allLack ∈ gj_gw := gj_goodP (List.mem_of_getElem? (i := 82) rfl) rfl
set_option maxRecDepth 20000 in
theorem wk_921 : Cond.code yX9_allLack cX9_allLack 3 (some .int) ∈ gj_gw := gj_good (List.mem_of_getElem? (i := 1431) rfl) rfl
set_option maxRecDepth 20000 in
theorem wk_922 : Cond.constantLong RX9 341 (3 : Int64) ∈ gj_gw := gj_good (List.mem_of_getElem? (i := 1405) rfl) rfl
set_option maxRecDepth 20000 in
theorem wk_923 : Cond.instanceMethod yX9_lack ∈ gj_gw := gj_good (List.mem_of_getElem? (i := 1402) rfl) rfl
set_option maxRecDepth 20000 in
theorem wk_924 : Cond.selects RX9 yX9_lack yX9_lack ∈ gj_gw := gj_good (List.mem_of_getElem? (i := 1403) rfl) rfl
set_option maxRecDepth 20000 in
theorem wk_925 : Cond.code yX9_lack cX9_lack 6 (some .int) ∈ gj_gw := gj_good (List.mem_of_getElem? (i := 1404) rfl) rfl
set_option maxRecDepth 20000 in
theorem wk_926 : Cond.fieldLink RX9 73 RX9 "dear" "[I" ∈ gj_gw := gj_good (List.mem_of_getElem? (i := 994) rfl) rfl
set_option maxRecDepth 20000 in
theorem wk_927 : Cond.instanceMethod yX9_cheaper ∈ gj_gw := gj_good (List.mem_of_getElem? (i := 1412) rfl) rfl
set_option maxRecDepth 20000 in
theorem wk_928 : Cond.selects RX9 yX9_cheaper yX9_cheaper ∈ gj_gw := gj_goodP (List.mem_of_getElem? (i := 80) rfl) rfl
set_option maxRecDepth 20000 in
theorem wk_929 : Cond.code yX9_cheaper cX9_cheaper 4 none ∈ gj_gw := gj_good (List.mem_of_getElem? (i := 1413) rfl) rfl
set_option maxRecDepth 20000 in
theorem wk_930 : Cond.methodLink RX9 343 yX9_cheaper ∈ gj_gw := gj_good (List.mem_of_getElem? (i := 1410) rfl) rfl
set_option maxRecDepth 20000 in
theorem wk_931 : Cond.instanceMethod yX9_unit ∈ gj_gw := gj_good (List.mem_of_getElem? (i := 1407) rfl) rfl
set_option maxRecDepth 20000 in
theorem wk_932 : Cond.selects RX9 yX9_unit yX9_unit ∈ gj_gw := gj_good (List.mem_of_getElem? (i := 1408) rfl) rfl
set_option maxRecDepth 20000 in
theorem wk_933 : Cond.code yX9_unit cX9_unit 5 (some .int) ∈ gj_gw := gj_good (List.mem_of_getElem? (i := 1409) rfl) rfl
set_option maxRecDepth 20000 in
theorem wk_934 : Cond.methodLink RX9 347 yX9_isRoute ∈ gj_gw := gj_good (List.mem_of_getElem? (i := 1418) rfl) rfl
set_option maxRecDepth 20000 in
theorem wk_935 : Cond.instanceMethod yX9_range ∈ gj_gw := gj_good (List.mem_of_getElem? (i := 1415) rfl) rfl
set_option maxRecDepth 20000 in
theorem wk_936 : Cond.selects RX9 yX9_range yX9_range ∈ gj_gw := gj_good (List.mem_of_getElem? (i := 1416) rfl) rfl
set_option maxRecDepth 20000 in
theorem wk_937 : Cond.code yX9_range cX9_range 7 (some .int) ∈ gj_gw := gj_good (List.mem_of_getElem? (i := 1417) rfl) rfl
set_option maxRecDepth 20000 in
theorem wk_938 : Cond.constantLong RX9 352 (-999 : Int64) ∈ gj_gw := gj_good (List.mem_of_getElem? (i := 1427) rfl) rfl
set_option maxRecDepth 20000 in
theorem wk_939 : Cond.constantLong RX9 350 (999 : Int64) ∈ gj_gw := gj_good (List.mem_of_getElem? (i := 1426) rfl) rfl
set_option maxRecDepth 20000 in
theorem wk_940 : Cond.fieldLink RX9 52 RX9 "aside" "[I" ∈ gj_gw := gj_good (List.mem_of_getElem? (i := 982) rfl) rfl
set_option maxRecDepth 20000 in
theorem wk_941 : Cond.methodLink RX9 354 yX9_allLack ∈ gj_gw := gj_good (List.mem_of_getElem? (i := 1428) rfl) rfl
set_option maxRecDepth 20000 in
theorem wk_942 : Cond.instanceMethod yX9_tried ∈ gj_gw := gj_good (List.mem_of_getElem? (i := 1423) rfl) rfl
set_option maxRecDepth 20000 in
theorem wk_943 : Cond.selects RX9 yX9_tried yX9_tried ∈ gj_gw := gj_good (List.mem_of_getElem? (i := 1424) rfl) rfl
set_option maxRecDepth 20000 in
theorem wk_944 : Cond.code yX9_tried cX9_tried 8 (some .int) ∈ gj_gw := gj_good (List.mem_of_getElem? (i := 1425) rfl) rfl
set_option maxRecDepth 20000 in
theorem wk_945 : Cond.constant RX9 357 (1000000 : Int32) ∈ gj_gw := gj_good (List.mem_of_getElem? (i := 1442) rfl) rfl
set_option maxRecDepth 20000 in
theorem wk_946 : Cond.instanceMethod yX9_spareOf ∈ gj_gw := gj_good (List.mem_of_getElem? (i := 1440) rfl) rfl
set_option maxRecDepth 20000 in
theorem wk_947 : Cond.selects RX9 yX9_spareOf yX9_spareOf ∈ gj_gw := gj_goodP (List.mem_of_getElem? (i := 83) rfl) rfl
set_option maxRecDepth 20000 in
theorem wk_948 : Cond.code yX9_spareOf cX9_spareOf 4 (some .int) ∈ gj_gw := gj_good (List.mem_of_getElem? (i := 1441) rfl) rfl
set_option maxRecDepth 20000 in
theorem wk_949 : Cond.constantLong RX9 358 (-1998 : Int64) ∈ gj_gw := gj_good (List.mem_of_getElem? (i := 1436) rfl) rfl
set_option maxRecDepth 20000 in
theorem wk_950 : Cond.constantLong RX9 360 (1998 : Int64) ∈ gj_gw := gj_good (List.mem_of_getElem? (i := 1437) rfl) rfl
set_option maxRecDepth 20000 in
theorem wk_951 : Cond.methodLink RX9 362 yX9_spareOf ∈ gj_gw := gj_good (List.mem_of_getElem? (i := 1438) rfl) rfl
set_option maxRecDepth 20000 in
theorem wk_952 : Cond.instanceMethod yX9_load ∈ gj_gw := gj_good (List.mem_of_getElem? (i := 1433) rfl) rfl
set_option maxRecDepth 20000 in
theorem wk_953 : Cond.selects RX9 yX9_load yX9_load ∈ gj_gw := gj_good (List.mem_of_getElem? (i := 1434) rfl) rfl
set_option maxRecDepth 20000 in
theorem wk_954 : Cond.code yX9_load cX9_load 4 (some .int) ∈ gj_gw := gj_good (List.mem_of_getElem? (i := 1435) rfl) rfl
set_option maxRecDepth 20000 in
theorem wk_955 : Cond.instanceMethod yX9_spare ∈ gj_gw := gj_good (List.mem_of_getElem? (i := 1444) rfl) rfl
set_option maxRecDepth 20000 in
theorem wk_956 : Cond.selects RX9 yX9_spare yX9_spare ∈ gj_gw := gj_good (List.mem_of_getElem? (i := 1445) rfl) rfl
set_option maxRecDepth 20000 in
theorem wk_957 : Cond.code yX9_spare cX9_spare 5 (some .int) ∈ gj_gw := gj_good (List.mem_of_getElem? (i := 1446) rfl) rfl
set_option maxRecDepth 20000 in
theorem wk_958 : Cond.instanceMethod yX9_retold ∈ gj_gw := gj_good (List.mem_of_getElem? (i := 1453) rfl) rfl
set_option maxRecDepth 20000 in
theorem wk_959 : Cond.selects RX9 yX9_retold yX9_retold ∈ gj_gw := gj_goodP (List.mem_of_getElem? (i := 84) rfl) rfl
set_option maxRecDepth 20000 in
theorem wk_960 : Cond.code yX9_retold cX9_retold 4 (some .int) ∈ gj_gw := gj_good (List.mem_of_getElem? (i := 1454) rfl) rfl
set_option maxRecDepth 20000 in
theorem wk_961 : Cond.methodLink RX9 366 yX9_retold ∈ gj_gw := gj_good (List.mem_of_getElem? (i := 1451) rfl) rfl
set_option maxRecDepth 20000 in
theorem wk_962 : Cond.instanceMethod yX9_toll ∈ gj_gw := gj_good (List.mem_of_getElem? (i := 1448) rfl) rfl
set_option maxRecDepth 20000 in
theorem wk_963 : Cond.selects RX9 yX9_toll yX9_toll ∈ gj_gw := gj_good (List.mem_of_getElem? (i := 1449) rfl) rfl
set_option maxRecDepth 20000 in
theorem wk_964 : Cond.code yX9_toll cX9_toll 3 (some .int) ∈ gj_gw := gj_good (List.mem_of_getElem? (i := 1450) rfl) rfl
set_option maxRecDepth 20000 in
theorem wk_965 : Cond.instanceMethod yX9_hold ∈ gj_gw := gj_good (List.mem_of_getElem? (i := 1456) rfl) rfl
set_option maxRecDepth 20000 in
theorem wk_966 : Cond.selects RX9 yX9_hold yX9_hold ∈ gj_gw := gj_good (List.mem_of_getElem? (i := 1457) rfl) rfl
set_option maxRecDepth 20000 in
theorem wk_967 : Cond.code yX9_hold cX9_hold 3 (some .int) ∈ gj_gw := gj_good (List.mem_of_getElem? (i := 1458) rfl) rfl
set_option maxRecDepth 20000 in
theorem wk_968 : Cond.constantLong RX9 369 (24 : Int64) ∈ gj_gw := gj_good (List.mem_of_getElem? (i := 1463) rfl) rfl
set_option maxRecDepth 20000 in
theorem wk_969 : Cond.instanceMethod yX9_block ∈ gj_gw := gj_good (List.mem_of_getElem? (i := 1460) rfl) rfl
set_option maxRecDepth 20000 in
theorem wk_970 : Cond.selects RX9 yX9_block yX9_block ∈ gj_gw := gj_good (List.mem_of_getElem? (i := 1461) rfl) rfl
set_option maxRecDepth 20000 in
theorem wk_971 : Cond.code yX9_block cX9_block 2 (some .int) ∈ gj_gw := gj_good (List.mem_of_getElem? (i := 1462) rfl) rfl
set_option maxRecDepth 20000 in
theorem wk_972 : Cond.instanceMethod yX9_anew ∈ gj_gw := gj_good (List.mem_of_getElem? (i := 1465) rfl) rfl
set_option maxRecDepth 20000 in
theorem wk_973 : Cond.selects RX9 yX9_anew yX9_anew ∈ gj_gw := gj_good (List.mem_of_getElem? (i := 1466) rfl) rfl
set_option maxRecDepth 20000 in
theorem wk_974 : Cond.code yX9_anew cX9_anew 2 (some .int) ∈ gj_gw := gj_good (List.mem_of_getElem? (i := 1467) rfl) rfl
set_option maxRecDepth 20000 in
theorem wk_975 : Cond.fieldLink RX9 76 RX9 "page" "[I" ∈ gj_gw := gj_good (List.mem_of_getElem? (i := 995) rfl) rfl
set_option maxRecDepth 20000 in
theorem wk_976 : Cond.fieldLink RX9 371 RX9 "pageMany" "I" ∈ gj_gw := gj_good (List.mem_of_getElem? (i := 996) rfl) rfl
set_option maxRecDepth 20000 in
theorem wk_977 : Cond.instanceMethod yX9_writes ∈ gj_gw := gj_good (List.mem_of_getElem? (i := 1479) rfl) rfl
set_option maxRecDepth 20000 in
theorem wk_978 : Cond.selects RX9 yX9_writes yX9_writes ∈ gj_gw := gj_goodP (List.mem_of_getElem? (i := 86) rfl) rfl
set_option maxRecDepth 20000 in
theorem wk_979 : Cond.code yX9_writes cX9_writes 2 none ∈ gj_gw := gj_good (List.mem_of_getElem? (i := 1480) rfl) rfl
set_option maxRecDepth 20000 in
theorem wk_980 : Cond.constantLong RX9 374 (31 : Int64) ∈ gj_gw := gj_good (List.mem_of_getElem? (i := 1476) rfl) rfl
set_option maxRecDepth 20000 in
theorem wk_981 : Cond.methodLink RX9 376 yX9_writes ∈ gj_gw := gj_good (List.mem_of_getElem? (i := 1477) rfl) rfl
set_option maxRecDepth 20000 in
theorem wk_982 : Cond.instanceMethod yX9_writesName ∈ gj_gw := gj_good (List.mem_of_getElem? (i := 1474) rfl) rfl
set_option maxRecDepth 20000 in
theorem wk_983 : Cond.selects RX9 yX9_writesName yX9_writesName ∈ gj_gw := gj_goodP (List.mem_of_getElem? (i := 85) rfl) rfl
set_option maxRecDepth 20000 in
theorem wk_984 : Cond.code yX9_writesName cX9_writesName 5 none ∈ gj_gw := gj_good (List.mem_of_getElem? (i := 1475) rfl) rfl
set_option maxRecDepth 20000 in
theorem wk_985 : Cond.instanceMethod yX9_writesNumber ∈ gj_gw := gj_good (List.mem_of_getElem? (i := 1483) rfl) rfl
set_option maxRecDepth 20000 in
theorem wk_986 : Cond.selects RX9 yX9_writesNumber yX9_writesNumber ∈ gj_gw := gj_goodP (List.mem_of_getElem? (i := 87) rfl) rfl
set_option maxRecDepth 20000 in
theorem wk_987 : Cond.code yX9_writesNumber cX9_writesNumber 2 none ∈ gj_gw := gj_good (List.mem_of_getElem? (i := 1484) rfl) rfl
set_option maxRecDepth 20000 in
theorem wk_988 : Cond.methodLink RX9 379 yX9_writesName ∈ gj_gw := gj_good (List.mem_of_getElem? (i := 1472) rfl) rfl
set_option maxRecDepth 20000 in
theorem wk_989 : Cond.methodLink RX9 383 yX9_writesNumber ∈ gj_gw := gj_good (List.mem_of_getElem? (i := 1481) rfl) rfl
set_option maxRecDepth 20000 in
theorem wk_990 : Cond.instanceMethod yX9_sheet ∈ gj_gw := gj_good (List.mem_of_getElem? (i := 1469) rfl) rfl
set_option maxRecDepth 20000 in
theorem wk_991 : Cond.selects RX9 yX9_sheet yX9_sheet ∈ gj_gw := gj_good (List.mem_of_getElem? (i := 1470) rfl) rfl
set_option maxRecDepth 20000 in
theorem wk_992 : Cond.code yX9_sheet cX9_sheet 3 (some .int) ∈ gj_gw := gj_good (List.mem_of_getElem? (i := 1471) rfl) rfl
set_option maxRecDepth 20000 in
theorem wk_993 : Cond.instanceMethod yX9_undo ∈ gj_gw := gj_good (List.mem_of_getElem? (i := 1486) rfl) rfl
set_option maxRecDepth 20000 in
theorem wk_994 : Cond.selects RX9 yX9_undo yX9_undo ∈ gj_gw := gj_good (List.mem_of_getElem? (i := 1487) rfl) rfl
set_option maxRecDepth 20000 in
theorem wk_995 : Cond.code yX9_undo cX9_undo 2 (some .int) ∈ gj_gw := gj_good (List.mem_of_getElem? (i := 1488) rfl) rfl
set_option maxRecDepth 20000 in
theorem wk_996 : Cond.fieldLink RX9 45 RX9 "kept" "[I" ∈ gj_gw := gj_good (List.mem_of_getElem? (i := 980) rfl) rfl
set_option maxRecDepth 20000 in
theorem wk_997 : Cond.instanceMethod yX9_keep ∈ gj_gw := gj_good (List.mem_of_getElem? (i := 1490) rfl) rfl
set_option maxRecDepth 20000 in
theorem wk_998 : Cond.selects RX9 yX9_keep yX9_keep ∈ gj_gw := gj_good (List.mem_of_getElem? (i := 1491) rfl) rfl
set_option maxRecDepth 20000 in
theorem wk_999 : Cond.code yX9_keep cX9_keep 4 (some .boolean) ∈ gj_gw := gj_good (List.mem_of_getElem? (i := 1492) rfl) rfl
set_option maxRecDepth 20000 in
theorem wk_1000 : Cond.instanceMethod yX9_count ∈ gj_gw := gj_good (List.mem_of_getElem? (i := 1494) rfl) rfl
set_option maxRecDepth 20000 in
theorem wk_1001 : Cond.selects RX9 yX9_count yX9_count ∈ gj_gw := gj_good (List.mem_of_getElem? (i := 1495) rfl) rfl
set_option maxRecDepth 20000 in
theorem wk_1002 : Cond.code yX9_count cX9_count 4 (some .int) ∈ gj_gw := gj_good (List.mem_of_getElem? (i := 1496) rfl) rfl
