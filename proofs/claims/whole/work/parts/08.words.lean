set_option maxRecDepth 100000 in
theorem tw_0 : Cond.selects RX7 yX7_readWalk yX7_readWalk ∈ gTs := g_word (i := 0) (by decide +kernel) rfl
set_option maxRecDepth 100000 in
theorem tw_1 : Cond.selects RX7 yX7_add yX7_add ∈ gTs := g_word (i := 1) (by decide +kernel) rfl
set_option maxRecDepth 100000 in
theorem tw_2 : Cond.selects RX4 yX4_readClause yX4_readClause ∈ gTs := g_word (i := 2) (by decide +kernel) rfl
set_option maxRecDepth 100000 in
theorem tw_3 : Cond.selects RX4 yX4_readSum yX4_readSum ∈ gTs := g_word (i := 3) (by decide +kernel) rfl
set_option maxRecDepth 100000 in
theorem tw_4 : Cond.selects RX4 yX4_readProduct yX4_readProduct ∈ gTs := g_word (i := 4) (by decide +kernel) rfl
set_option maxRecDepth 100000 in
theorem tw_5 : Cond.selects RX4 yX4_readFactor yX4_readFactor ∈ gTs := g_word (i := 5) (by decide +kernel) rfl
set_option maxRecDepth 100000 in
theorem tw_6 : Cond.selects RX4 yX4_goesDeeper yX4_goesDeeper ∈ gTs := g_word (i := 6) (by decide +kernel) rfl
set_option maxRecDepth 100000 in
theorem tw_7 : Cond.selects RX4 yX4_readNumber yX4_readNumber ∈ gTs := g_word (i := 7) (by decide +kernel) rfl
set_option maxRecDepth 100000 in
theorem tw_8 : Cond.selects RX4 yX4_readParts yX4_readParts ∈ gTs := g_word (i := 8) (by decide +kernel) rfl
set_option maxRecDepth 100000 in
theorem tw_9 : Cond.selects RX4 yX4_readPieces yX4_readPieces ∈ gTs := g_word (i := 9) (by decide +kernel) rfl
set_option maxRecDepth 100000 in
theorem tw_10 : Cond.selects RX4 yX4_readPiece yX4_readPiece ∈ gTs := g_word (i := 10) (by decide +kernel) rfl
set_option maxRecDepth 100000 in
theorem tw_11 : Cond.selects RX4 yX4_comparisonAt yX4_comparisonAt ∈ gTs := g_word (i := 11) (by decide +kernel) rfl
set_option maxRecDepth 100000 in
theorem tw_12 : Cond.selects RX4 yX4_addJump yX4_addJump ∈ gTs := g_word (i := 12) (by decide +kernel) rfl
set_option maxRecDepth 100000 in
theorem tw_13 : Cond.selects RX1 yX1_isNear yX1_isNear ∈ gTs := g_word (i := 13) (by decide +kernel) rfl
set_option maxRecDepth 100000 in
theorem tw_14 : Cond.selects RX1 yX1_tellWalk yX1_tellWalk ∈ gTs := g_word (i := 14) (by decide +kernel) rfl
set_option maxRecDepth 100000 in
theorem tw_15 : Cond.selects RX1 yX1_tellLetter yX1_tellLetter ∈ gTs := g_word (i := 15) (by decide +kernel) rfl
set_option maxRecDepth 100000 in
theorem tw_16 : Cond.selects RX3 yX3_reckon yX3_reckon ∈ gTs := g_word (i := 16) (by decide +kernel) rfl
set_option maxRecDepth 100000 in
theorem tw_17 : Cond.selects RX9 yX9_isSum yX9_isSum ∈ gTs := g_word (i := 17) (by decide +kernel) rfl
set_option maxRecDepth 100000 in
theorem tw_18 : Cond.selects RX8 yX8_goOut yX8_goOut ∈ gTs := g_word (i := 18) (by decide +kernel) rfl
set_option maxRecDepth 100000 in
theorem tw_19 : Cond.selects RX8 yX8_chainFor yX8_chainFor ∈ gTs := g_word (i := 19) (by decide +kernel) rfl
set_option maxRecDepth 100000 in
theorem tw_20 : Cond.selects RX9 yX9_areSleepers yX9_areSleepers ∈ gTs := g_word (i := 20) (by decide +kernel) rfl
set_option maxRecDepth 100000 in
theorem tw_21 : Cond.selects RX0 yX0_useGhost yX0_useGhost ∈ gTs := g_word (i := 21) (by decide +kernel) rfl
set_option maxRecDepth 100000 in
theorem tw_22 : Cond.selects RX0 yX0_useWalk yX0_useWalk ∈ gTs := g_word (i := 22) (by decide +kernel) rfl
set_option maxRecDepth 100000 in
theorem tw_23 : Cond.selects RX0 yX0_leastWalk yX0_leastWalk ∈ gTs := g_word (i := 23) (by decide +kernel) rfl
set_option maxRecDepth 100000 in
theorem tw_24 : Cond.selects RX9 yX9_gainByMending yX9_gainByMending ∈ gTs := g_word (i := 24) (by decide +kernel) rfl
set_option maxRecDepth 100000 in
theorem tw_25 : Cond.selects RX9 yX9_weighChains yX9_weighChains ∈ gTs := g_word (i := 25) (by decide +kernel) rfl
set_option maxRecDepth 100000 in
theorem tw_26 : Cond.selects RX9 yX9_dearest yX9_dearest ∈ gTs := g_word (i := 26) (by decide +kernel) rfl
set_option maxRecDepth 100000 in
theorem tw_27 : Cond.selects RX5 yX5_bestRoom yX5_bestRoom ∈ gTs := g_word (i := 27) (by decide +kernel) rfl
set_option maxRecDepth 100000 in
theorem tw_28 : Cond.selects RX9 yX9_nextOff yX9_nextOff ∈ gTs := g_word (i := 28) (by decide +kernel) rfl
set_option maxRecDepth 100000 in
theorem tw_29 : Cond.selects RX9 yX9_countInHouse yX9_countInHouse ∈ gTs := g_word (i := 29) (by decide +kernel) rfl
set_option maxRecDepth 100000 in
theorem tw_30 : Cond.selects RX10 yX10_isSleeper yX10_isSleeper ∈ gTs := g_word (i := 30) (by decide +kernel) rfl
set_option maxRecDepth 100000 in
theorem tw_31 : Cond.selects RX10 yX10_types yX10_types ∈ gTs := g_word (i := 31) (by decide +kernel) rfl
set_option maxRecDepth 100000 in
theorem tw_32 : Cond.selects RX10 yX10_readsWalk yX10_readsWalk ∈ gTs := g_word (i := 32) (by decide +kernel) rfl
set_option maxRecDepth 100000 in
theorem tw_33 : Cond.selects RX10 yX10_isDigit yX10_isDigit ∈ gTs := g_word (i := 33) (by decide +kernel) rfl
set_option maxRecDepth 100000 in
theorem tw_34 : Cond.selects RX10 yX10_here yX10_here ∈ gTs := g_word (i := 34) (by decide +kernel) rfl
set_option maxRecDepth 100000 in
theorem tw_35 : Cond.selects RX10 yX10_wrongAt yX10_wrongAt ∈ gTs := g_word (i := 35) (by decide +kernel) rfl
set_option maxRecDepth 100000 in
theorem tw_36 : Cond.selects RX10 yX10_readsOne yX10_readsOne ∈ gTs := g_word (i := 36) (by decide +kernel) rfl
set_option maxRecDepth 100000 in
theorem tw_37 : Cond.selects RX10 yX10_takes yX10_takes ∈ gTs := g_word (i := 37) (by decide +kernel) rfl
set_option maxRecDepth 100000 in
theorem tw_38 : Cond.selects RX10 yX10_readsRoom yX10_readsRoom ∈ gTs := g_word (i := 38) (by decide +kernel) rfl
set_option maxRecDepth 100000 in
theorem tw_39 : Cond.selects RX10 yX10_counts yX10_counts ∈ gTs := g_word (i := 39) (by decide +kernel) rfl
set_option maxRecDepth 100000 in
theorem tw_40 : Cond.selects RX10 yX10_isGhost yX10_isGhost ∈ gTs := g_word (i := 40) (by decide +kernel) rfl
set_option maxRecDepth 100000 in
theorem tw_41 : Cond.selects RX10 yX10_readsClause yX10_readsClause ∈ gTs := g_word (i := 41) (by decide +kernel) rfl
set_option maxRecDepth 100000 in
theorem tw_42 : Cond.selects RX10 yX10_readsSum yX10_readsSum ∈ gTs := g_word (i := 42) (by decide +kernel) rfl
set_option maxRecDepth 100000 in
theorem tw_43 : Cond.selects RX10 yX10_readsFactor yX10_readsFactor ∈ gTs := g_word (i := 43) (by decide +kernel) rfl
set_option maxRecDepth 100000 in
theorem tw_44 : Cond.selects RX10 yX10_opens yX10_opens ∈ gTs := g_word (i := 44) (by decide +kernel) rfl
set_option maxRecDepth 100000 in
theorem tw_45 : Cond.selects RX10 yX10_readsNumber yX10_readsNumber ∈ gTs := g_word (i := 45) (by decide +kernel) rfl
set_option maxRecDepth 100000 in
theorem tw_46 : Cond.selects RX10 yX10_notes yX10_notes ∈ gTs := g_word (i := 46) (by decide +kernel) rfl
set_option maxRecDepth 100000 in
theorem tw_47 : Cond.selects RX10 yX10_closesSums yX10_closesSums ∈ gTs := g_word (i := 47) (by decide +kernel) rfl
set_option maxRecDepth 100000 in
theorem tw_48 : Cond.selects RX10 yX10_waitTop yX10_waitTop ∈ gTs := g_word (i := 48) (by decide +kernel) rfl
set_option maxRecDepth 100000 in
theorem tw_49 : Cond.selects RX10 yX10_hasOpenSum yX10_hasOpenSum ∈ gTs := g_word (i := 49) (by decide +kernel) rfl
set_option maxRecDepth 100000 in
theorem tw_50 : Cond.selects RX10 yX10_readsCondition yX10_readsCondition ∈ gTs := g_word (i := 50) (by decide +kernel) rfl
set_option maxRecDepth 100000 in
theorem tw_51 : Cond.selects RX10 yX10_readsCompared yX10_readsCompared ∈ gTs := g_word (i := 51) (by decide +kernel) rfl
set_option maxRecDepth 100000 in
theorem tw_52 : Cond.selects RX10 yX10_endsPiece yX10_endsPiece ∈ gTs := g_word (i := 52) (by decide +kernel) rfl
set_option maxRecDepth 100000 in
theorem tw_53 : Cond.selects RX10 yX10_lands yX10_lands ∈ gTs := g_word (i := 53) (by decide +kernel) rfl
set_option maxRecDepth 100000 in
theorem tw_54 : Cond.selects RX10 yX10_jumps yX10_jumps ∈ gTs := g_word (i := 54) (by decide +kernel) rfl
set_option maxRecDepth 100000 in
theorem tw_55 : Cond.selects RX10 yX10_frightOf yX10_frightOf ∈ gTs := g_word (i := 55) (by decide +kernel) rfl
set_option maxRecDepth 100000 in
theorem tw_56 : Cond.selects RX10 yX10_sleepIn yX10_sleepIn ∈ gTs := g_word (i := 56) (by decide +kernel) rfl
set_option maxRecDepth 100000 in
theorem tw_57 : Cond.selects RX10 yX10_feels yX10_feels ∈ gTs := g_word (i := 57) (by decide +kernel) rfl
set_option maxRecDepth 100000 in
theorem tw_58 : Cond.selects RX10 yX10_anyFright yX10_anyFright ∈ gTs := g_word (i := 58) (by decide +kernel) rfl
set_option maxRecDepth 100000 in
theorem tw_59 : Cond.selects RX10 yX10_comesTo yX10_comesTo ∈ gTs := g_word (i := 59) (by decide +kernel) rfl
set_option maxRecDepth 100000 in
theorem tw_60 : Cond.selects RX10 yX10_byLaw yX10_byLaw ∈ gTs := g_word (i := 60) (by decide +kernel) rfl
set_option maxRecDepth 100000 in
theorem tw_61 : Cond.selects RX10 yX10_isSum yX10_isSum ∈ gTs := g_word (i := 61) (by decide +kernel) rfl
set_option maxRecDepth 100000 in
theorem tw_62 : Cond.selects RX10 yX10_laysWeek yX10_laysWeek ∈ gTs := g_word (i := 62) (by decide +kernel) rfl
set_option maxRecDepth 100000 in
theorem tw_63 : Cond.selects RX10 yX10_goesThrough yX10_goesThrough ∈ gTs := g_word (i := 63) (by decide +kernel) rfl
set_option maxRecDepth 100000 in
theorem tw_64 : Cond.selects RX10 yX10_goes yX10_goes ∈ gTs := g_word (i := 64) (by decide +kernel) rfl
set_option maxRecDepth 100000 in
theorem tw_65 : Cond.selects RX10 yX10_stands yX10_stands ∈ gTs := g_word (i := 65) (by decide +kernel) rfl
set_option maxRecDepth 100000 in
theorem tw_66 : Cond.selects RX10 yX10_draws yX10_draws ∈ gTs := g_word (i := 66) (by decide +kernel) rfl
set_option maxRecDepth 100000 in
theorem tw_67 : Cond.selects RX10 yX10_frightens yX10_frightens ∈ gTs := g_word (i := 67) (by decide +kernel) rfl
set_option maxRecDepth 100000 in
theorem tw_68 : Cond.selects RX10 yX10_laysOnce yX10_laysOnce ∈ gTs := g_word (i := 68) (by decide +kernel) rfl
set_option maxRecDepth 100000 in
theorem tw_69 : Cond.selects RX10 yX10_frightened yX10_frightened ∈ gTs := g_word (i := 69) (by decide +kernel) rfl
set_option maxRecDepth 100000 in
theorem tw_70 : Cond.selects RX10 yX10_onceBy yX10_onceBy ∈ gTs := g_word (i := 70) (by decide +kernel) rfl
set_option maxRecDepth 100000 in
theorem tw_71 : Cond.selects RX10 yX10_leastCode yX10_leastCode ∈ gTs := g_word (i := 71) (by decide +kernel) rfl
set_option maxRecDepth 100000 in
theorem tw_72 : Cond.selects RX10 yX10_frightBy yX10_frightBy ∈ gTs := g_word (i := 72) (by decide +kernel) rfl
set_option maxRecDepth 100000 in
theorem tw_73 : Cond.selects RX10 yX10_mendedBy yX10_mendedBy ∈ gTs := g_word (i := 73) (by decide +kernel) rfl
set_option maxRecDepth 100000 in
theorem tw_74 : Cond.selects RX10 yX10_laysWorths yX10_laysWorths ∈ gTs := g_word (i := 74) (by decide +kernel) rfl
set_option maxRecDepth 100000 in
theorem tw_75 : Cond.selects RX10 yX10_coldIn yX10_coldIn ∈ gTs := g_word (i := 75) (by decide +kernel) rfl
set_option maxRecDepth 100000 in
theorem tw_76 : Cond.selects RX10 yX10_laysJuly yX10_laysJuly ∈ gTs := g_word (i := 76) (by decide +kernel) rfl
set_option maxRecDepth 100000 in
theorem tw_77 : Cond.selects RX10 yX10_lodgeBy yX10_lodgeBy ∈ gTs := g_word (i := 77) (by decide +kernel) rfl
set_option maxRecDepth 100000 in
theorem tw_78 : Cond.selects RX10 yX10_tapeNumber yX10_tapeNumber ∈ gTs := g_word (i := 78) (by decide +kernel) rfl
set_option maxRecDepth 100000 in
theorem tw_80 : Cond.initialized RX9 ∈ gTs := g_word (i := 80) (by decide +kernel) rfl
set_option maxRecDepth 100000 in
theorem tw_81 : Cond.initialized RX2 ∈ gTs := g_word (i := 81) (by decide +kernel) rfl
set_option maxRecDepth 100000 in
theorem tw_82 : Cond.initialized RX6 ∈ gTs := g_word (i := 82) (by decide +kernel) rfl
set_option maxRecDepth 100000 in
theorem tw_83 : Cond.initialized RX7 ∈ gTs := g_word (i := 83) (by decide +kernel) rfl
set_option maxRecDepth 100000 in
theorem tw_84 : Cond.initialized RX3 ∈ gTs := g_word (i := 84) (by decide +kernel) rfl
set_option maxRecDepth 100000 in
theorem tw_85 : Cond.initialized RX4 ∈ gTs := g_word (i := 85) (by decide +kernel) rfl
set_option maxRecDepth 100000 in
theorem tw_86 : Cond.initialized RX1 ∈ gTs := g_word (i := 86) (by decide +kernel) rfl
set_option maxRecDepth 100000 in
theorem tw_87 : Cond.initialized RX8 ∈ gTs := g_word (i := 87) (by decide +kernel) rfl
set_option maxRecDepth 100000 in
theorem tw_88 : Cond.initialized RX0 ∈ gTs := g_word (i := 88) (by decide +kernel) rfl
set_option maxRecDepth 100000 in
theorem tw_89 : Cond.initialized RX5 ∈ gTs := g_word (i := 89) (by decide +kernel) rfl
set_option maxRecDepth 100000 in
theorem tw_90 : Cond.initialized RX10 ∈ gTs := g_word (i := 90) (by decide +kernel) rfl
set_option maxRecDepth 100000 in
theorem tw_91 : Cond.initialized RJ10 ∈ gTs := g_word (i := 91) (by decide +kernel) rfl
set_option maxRecDepth 100000 in
theorem tw_94 : Cond.initialized RJ9 ∈ gTs := g_word (i := 94) (by decide +kernel) rfl
set_option maxRecDepth 100000 in
theorem tw_98 : Cond.initialized RJ7 ∈ gTs := g_word (i := 98) (by decide +kernel) rfl
set_option maxRecDepth 100000 in
theorem tw_99 : Cond.initialized RJ6 ∈ gTs := g_word (i := 99) (by decide +kernel) rfl
set_option maxRecDepth 100000 in
theorem tw_114 : Cond.fieldLink RX2 9 RX2 (TX2 0).2.1 (TX2 0).2.2.1 ∈ gTs := g_word (i := 114) (by decide +kernel) rfl
set_option maxRecDepth 100000 in
theorem tw_115 : Cond.fieldLink RX9 100 RX2 (TX2 0).2.1 (TX2 0).2.2.1 ∈ gTs := g_word (i := 115) (by decide +kernel) rfl
set_option maxRecDepth 100000 in
theorem tw_116 : Cond.fieldLink RX1 83 RX2 (TX2 0).2.1 (TX2 0).2.2.1 ∈ gTs := g_word (i := 116) (by decide +kernel) rfl
set_option maxRecDepth 100000 in
theorem tw_117 : Cond.fieldLink RX2 15 RX2 (TX2 1).2.1 (TX2 1).2.2.1 ∈ gTs := g_word (i := 117) (by decide +kernel) rfl
set_option maxRecDepth 100000 in
theorem tw_118 : Cond.fieldLink RX1 42 RX2 (TX2 1).2.1 (TX2 1).2.2.1 ∈ gTs := g_word (i := 118) (by decide +kernel) rfl
set_option maxRecDepth 100000 in
theorem tw_119 : Cond.fieldLink RX9 120 RX2 (TX2 1).2.1 (TX2 1).2.2.1 ∈ gTs := g_word (i := 119) (by decide +kernel) rfl
set_option maxRecDepth 100000 in
theorem tw_120 : Cond.fieldLink RX2 18 RX2 (TX2 2).2.1 (TX2 2).2.2.1 ∈ gTs := g_word (i := 120) (by decide +kernel) rfl
set_option maxRecDepth 100000 in
theorem tw_121 : Cond.fieldLink RX1 53 RX2 (TX2 2).2.1 (TX2 2).2.2.1 ∈ gTs := g_word (i := 121) (by decide +kernel) rfl
set_option maxRecDepth 100000 in
theorem tw_122 : Cond.fieldLink RX2 21 RX2 (TX2 3).2.1 (TX2 3).2.2.1 ∈ gTs := g_word (i := 122) (by decide +kernel) rfl
set_option maxRecDepth 100000 in
theorem tw_123 : Cond.fieldLink RX1 35 RX2 (TX2 3).2.1 (TX2 3).2.2.1 ∈ gTs := g_word (i := 123) (by decide +kernel) rfl
set_option maxRecDepth 100000 in
theorem tw_124 : Cond.fieldLink RX9 310 RX2 (TX2 3).2.1 (TX2 3).2.2.1 ∈ gTs := g_word (i := 124) (by decide +kernel) rfl
set_option maxRecDepth 100000 in
theorem tw_125 : Cond.fieldLink RX2 24 RX2 (TX2 4).2.1 (TX2 4).2.2.1 ∈ gTs := g_word (i := 125) (by decide +kernel) rfl
set_option maxRecDepth 100000 in
theorem tw_126 : Cond.fieldLink RX1 86 RX2 (TX2 4).2.1 (TX2 4).2.2.1 ∈ gTs := g_word (i := 126) (by decide +kernel) rfl
set_option maxRecDepth 100000 in
theorem tw_127 : Cond.fieldLink RX9 243 RX2 (TX2 4).2.1 (TX2 4).2.2.1 ∈ gTs := g_word (i := 127) (by decide +kernel) rfl
set_option maxRecDepth 100000 in
theorem tw_128 : Cond.fieldLink RX2 27 RX2 (TX2 5).2.1 (TX2 5).2.2.1 ∈ gTs := g_word (i := 128) (by decide +kernel) rfl
set_option maxRecDepth 100000 in
theorem tw_129 : Cond.fieldLink RX7 94 RX2 (TX2 5).2.1 (TX2 5).2.2.1 ∈ gTs := g_word (i := 129) (by decide +kernel) rfl
set_option maxRecDepth 100000 in
theorem tw_130 : Cond.fieldLink RX1 89 RX2 (TX2 5).2.1 (TX2 5).2.2.1 ∈ gTs := g_word (i := 130) (by decide +kernel) rfl
set_option maxRecDepth 100000 in
theorem tw_131 : Cond.fieldLink RX2 30 RX2 (TX2 6).2.1 (TX2 6).2.2.1 ∈ gTs := g_word (i := 131) (by decide +kernel) rfl
set_option maxRecDepth 100000 in
theorem tw_132 : Cond.fieldLink RX7 91 RX2 (TX2 6).2.1 (TX2 6).2.2.1 ∈ gTs := g_word (i := 132) (by decide +kernel) rfl
set_option maxRecDepth 100000 in
theorem tw_133 : Cond.fieldLink RX1 92 RX2 (TX2 6).2.1 (TX2 6).2.2.1 ∈ gTs := g_word (i := 133) (by decide +kernel) rfl
set_option maxRecDepth 100000 in
theorem tw_134 : Cond.fieldLink RX9 313 RX2 (TX2 6).2.1 (TX2 6).2.2.1 ∈ gTs := g_word (i := 134) (by decide +kernel) rfl
set_option maxRecDepth 100000 in
theorem tw_135 : Cond.fieldLink RX2 33 RX2 (TX2 7).2.1 (TX2 7).2.2.1 ∈ gTs := g_word (i := 135) (by decide +kernel) rfl
set_option maxRecDepth 100000 in
theorem tw_136 : Cond.fieldLink RX9 195 RX2 (TX2 7).2.1 (TX2 7).2.2.1 ∈ gTs := g_word (i := 136) (by decide +kernel) rfl
set_option maxRecDepth 100000 in
theorem tw_137 : Cond.fieldLink RX2 43 RX2 (TX2 8).2.1 (TX2 8).2.2.1 ∈ gTs := g_word (i := 137) (by decide +kernel) rfl
set_option maxRecDepth 100000 in
theorem tw_138 : Cond.fieldLink RX9 270 RX2 (TX2 8).2.1 (TX2 8).2.2.1 ∈ gTs := g_word (i := 138) (by decide +kernel) rfl
set_option maxRecDepth 100000 in
theorem tw_139 : Cond.fieldLink RX2 46 RX2 (TX2 9).2.1 (TX2 9).2.2.1 ∈ gTs := g_word (i := 139) (by decide +kernel) rfl
set_option maxRecDepth 100000 in
theorem tw_140 : Cond.fieldLink RX9 229 RX2 (TX2 9).2.1 (TX2 9).2.2.1 ∈ gTs := g_word (i := 140) (by decide +kernel) rfl
set_option maxRecDepth 100000 in
theorem tw_141 : Cond.fieldLink RX8 40 RX2 (TX2 10).2.1 (TX2 10).2.2.1 ∈ gTs := g_word (i := 141) (by decide +kernel) rfl
set_option maxRecDepth 100000 in
theorem tw_142 : Cond.fieldLink RX9 110 RX2 (TX2 10).2.1 (TX2 10).2.2.1 ∈ gTs := g_word (i := 142) (by decide +kernel) rfl
set_option maxRecDepth 100000 in
theorem tw_143 : Cond.fieldLink RX2 65 RX2 (TX2 10).2.1 (TX2 10).2.2.1 ∈ gTs := g_word (i := 143) (by decide +kernel) rfl
set_option maxRecDepth 100000 in
theorem tw_144 : Cond.fieldLink RX2 36 RX2 (TX2 11).2.1 (TX2 11).2.2.1 ∈ gTs := g_word (i := 144) (by decide +kernel) rfl
set_option maxRecDepth 100000 in
theorem tw_145 : Cond.fieldLink RX9 106 RX2 (TX2 11).2.1 (TX2 11).2.2.1 ∈ gTs := g_word (i := 145) (by decide +kernel) rfl
set_option maxRecDepth 100000 in
theorem tw_146 : Cond.fieldLink RX8 93 RX2 (TX2 11).2.1 (TX2 11).2.2.1 ∈ gTs := g_word (i := 146) (by decide +kernel) rfl
set_option maxRecDepth 100000 in
theorem tw_147 : Cond.fieldLink RX2 68 RX2 (TX2 12).2.1 (TX2 12).2.2.1 ∈ gTs := g_word (i := 147) (by decide +kernel) rfl
set_option maxRecDepth 100000 in
theorem tw_148 : Cond.fieldLink RX9 198 RX2 (TX2 12).2.1 (TX2 12).2.2.1 ∈ gTs := g_word (i := 148) (by decide +kernel) rfl
set_option maxRecDepth 100000 in
theorem tw_149 : Cond.fieldLink RX2 40 RX2 (TX2 13).2.1 (TX2 13).2.2.1 ∈ gTs := g_word (i := 149) (by decide +kernel) rfl
set_option maxRecDepth 100000 in
theorem tw_150 : Cond.fieldLink RX8 33 RX2 (TX2 13).2.1 (TX2 13).2.2.1 ∈ gTs := g_word (i := 150) (by decide +kernel) rfl
set_option maxRecDepth 100000 in
theorem tw_151 : Cond.fieldLink RX9 204 RX2 (TX2 13).2.1 (TX2 13).2.2.1 ∈ gTs := g_word (i := 151) (by decide +kernel) rfl
set_option maxRecDepth 100000 in
theorem tw_188 : Cond.fieldLink RX6 9 RX6 (TX6 0).2.1 (TX6 0).2.2.1 ∈ gTs := g_word (i := 188) (by decide +kernel) rfl
set_option maxRecDepth 100000 in
theorem tw_189 : Cond.fieldLink RX6 13 RX6 (TX6 1).2.1 (TX6 1).2.2.1 ∈ gTs := g_word (i := 189) (by decide +kernel) rfl
set_option maxRecDepth 100000 in
theorem tw_190 : Cond.fieldLink RX9 135 RX6 (TX6 1).2.1 (TX6 1).2.2.1 ∈ gTs := g_word (i := 190) (by decide +kernel) rfl
set_option maxRecDepth 100000 in
theorem tw_191 : Cond.fieldLink RX6 17 RX6 (TX6 2).2.1 (TX6 2).2.2.1 ∈ gTs := g_word (i := 191) (by decide +kernel) rfl
set_option maxRecDepth 100000 in
theorem tw_192 : Cond.fieldLink RX4 50 RX6 (TX6 3).2.1 (TX6 3).2.2.1 ∈ gTs := g_word (i := 192) (by decide +kernel) rfl
set_option maxRecDepth 100000 in
theorem tw_193 : Cond.fieldLink RX7 70 RX6 (TX6 3).2.1 (TX6 3).2.2.1 ∈ gTs := g_word (i := 193) (by decide +kernel) rfl
set_option maxRecDepth 100000 in
theorem tw_194 : Cond.fieldLink RX6 20 RX6 (TX6 3).2.1 (TX6 3).2.2.1 ∈ gTs := g_word (i := 194) (by decide +kernel) rfl
set_option maxRecDepth 100000 in
theorem tw_195 : Cond.fieldLink RX4 47 RX6 (TX6 4).2.1 (TX6 4).2.2.1 ∈ gTs := g_word (i := 195) (by decide +kernel) rfl
set_option maxRecDepth 100000 in
theorem tw_196 : Cond.fieldLink RX7 63 RX6 (TX6 4).2.1 (TX6 4).2.2.1 ∈ gTs := g_word (i := 196) (by decide +kernel) rfl
set_option maxRecDepth 100000 in
theorem tw_197 : Cond.fieldLink RX6 23 RX6 (TX6 4).2.1 (TX6 4).2.2.1 ∈ gTs := g_word (i := 197) (by decide +kernel) rfl
set_option maxRecDepth 100000 in
theorem tw_198 : Cond.fieldLink RX9 145 RX6 (TX6 4).2.1 (TX6 4).2.2.1 ∈ gTs := g_word (i := 198) (by decide +kernel) rfl
set_option maxRecDepth 100000 in
theorem tw_216 : Cond.fieldLink RX7 11 RX7 (TX7 0).2.1 (TX7 0).2.2.1 ∈ gTs := g_word (i := 216) (by decide +kernel) rfl
set_option maxRecDepth 100000 in
theorem tw_217 : Cond.fieldLink RX8 69 RX7 (TX7 0).2.1 (TX7 0).2.2.1 ∈ gTs := g_word (i := 217) (by decide +kernel) rfl
set_option maxRecDepth 100000 in
theorem tw_218 : Cond.fieldLink RX9 162 RX7 (TX7 0).2.1 (TX7 0).2.2.1 ∈ gTs := g_word (i := 218) (by decide +kernel) rfl
set_option maxRecDepth 100000 in
theorem tw_219 : Cond.fieldLink RX7 15 RX7 (TX7 1).2.1 (TX7 1).2.2.1 ∈ gTs := g_word (i := 219) (by decide +kernel) rfl
set_option maxRecDepth 100000 in
theorem tw_220 : Cond.fieldLink RX8 51 RX7 (TX7 1).2.1 (TX7 1).2.2.1 ∈ gTs := g_word (i := 220) (by decide +kernel) rfl
set_option maxRecDepth 100000 in
theorem tw_221 : Cond.fieldLink RX9 165 RX7 (TX7 1).2.1 (TX7 1).2.2.1 ∈ gTs := g_word (i := 221) (by decide +kernel) rfl
set_option maxRecDepth 100000 in
theorem tw_222 : Cond.fieldLink RX7 18 RX7 (TX7 2).2.1 (TX7 2).2.2.1 ∈ gTs := g_word (i := 222) (by decide +kernel) rfl
set_option maxRecDepth 100000 in
theorem tw_223 : Cond.fieldLink RX8 72 RX7 (TX7 2).2.1 (TX7 2).2.2.1 ∈ gTs := g_word (i := 223) (by decide +kernel) rfl
set_option maxRecDepth 100000 in
theorem tw_224 : Cond.fieldLink RX9 168 RX7 (TX7 2).2.1 (TX7 2).2.2.1 ∈ gTs := g_word (i := 224) (by decide +kernel) rfl
set_option maxRecDepth 100000 in
theorem tw_225 : Cond.fieldLink RX7 21 RX7 (TX7 3).2.1 (TX7 3).2.2.1 ∈ gTs := g_word (i := 225) (by decide +kernel) rfl
set_option maxRecDepth 100000 in
theorem tw_226 : Cond.fieldLink RX8 96 RX7 (TX7 3).2.1 (TX7 3).2.2.1 ∈ gTs := g_word (i := 226) (by decide +kernel) rfl
set_option maxRecDepth 100000 in
theorem tw_227 : Cond.fieldLink RX9 171 RX7 (TX7 3).2.1 (TX7 3).2.2.1 ∈ gTs := g_word (i := 227) (by decide +kernel) rfl
set_option maxRecDepth 100000 in
theorem tw_228 : Cond.fieldLink RX7 24 RX7 (TX7 4).2.1 (TX7 4).2.2.1 ∈ gTs := g_word (i := 228) (by decide +kernel) rfl
set_option maxRecDepth 100000 in
theorem tw_229 : Cond.fieldLink RX7 27 RX7 (TX7 5).2.1 (TX7 5).2.2.1 ∈ gTs := g_word (i := 229) (by decide +kernel) rfl
set_option maxRecDepth 100000 in
theorem tw_230 : Cond.fieldLink RX8 46 RX7 (TX7 5).2.1 (TX7 5).2.2.1 ∈ gTs := g_word (i := 230) (by decide +kernel) rfl
set_option maxRecDepth 100000 in
theorem tw_231 : Cond.fieldLink RX9 152 RX7 (TX7 5).2.1 (TX7 5).2.2.1 ∈ gTs := g_word (i := 231) (by decide +kernel) rfl
set_option maxRecDepth 100000 in
theorem tw_251 : Cond.fieldLink RX3 9 RX3 (TX3 0).2.1 (TX3 0).2.2.1 ∈ gTs := g_word (i := 251) (by decide +kernel) rfl
set_option maxRecDepth 100000 in
theorem tw_252 : Cond.fieldLink RX3 13 RX3 (TX3 1).2.1 (TX3 1).2.2.1 ∈ gTs := g_word (i := 252) (by decide +kernel) rfl
set_option maxRecDepth 100000 in
theorem tw_253 : Cond.fieldLink RX3 16 RX3 (TX3 2).2.1 (TX3 2).2.2.1 ∈ gTs := g_word (i := 253) (by decide +kernel) rfl
set_option maxRecDepth 100000 in
theorem tw_254 : Cond.fieldLink RX3 28 RX3 (TX3 3).2.1 (TX3 3).2.2.1 ∈ gTs := g_word (i := 254) (by decide +kernel) rfl
set_option maxRecDepth 100000 in
theorem tw_255 : Cond.fieldLink RX4 43 RX3 (TX3 3).2.1 (TX3 3).2.2.1 ∈ gTs := g_word (i := 255) (by decide +kernel) rfl
set_option maxRecDepth 100000 in
theorem tw_256 : Cond.fieldLink RX9 159 RX3 (TX3 3).2.1 (TX3 3).2.2.1 ∈ gTs := g_word (i := 256) (by decide +kernel) rfl
set_option maxRecDepth 100000 in
theorem tw_257 : Cond.fieldLink RX3 19 RX3 (TX3 4).2.1 (TX3 4).2.2.1 ∈ gTs := g_word (i := 257) (by decide +kernel) rfl
set_option maxRecDepth 100000 in
theorem tw_258 : Cond.fieldLink RX3 22 RX3 (TX3 5).2.1 (TX3 5).2.2.1 ∈ gTs := g_word (i := 258) (by decide +kernel) rfl
set_option maxRecDepth 100000 in
theorem tw_259 : Cond.fieldLink RX3 32 RX3 (TX3 6).2.1 (TX3 6).2.2.1 ∈ gTs := g_word (i := 259) (by decide +kernel) rfl
set_option maxRecDepth 100000 in
theorem tw_260 : Cond.fieldLink RX4 53 RX3 (TX3 6).2.1 (TX3 6).2.2.1 ∈ gTs := g_word (i := 260) (by decide +kernel) rfl
set_option maxRecDepth 100000 in
theorem tw_261 : Cond.fieldLink RX3 25 RX3 (TX3 7).2.1 (TX3 7).2.2.1 ∈ gTs := g_word (i := 261) (by decide +kernel) rfl
set_option maxRecDepth 100000 in
theorem tw_285 : Cond.fieldLink RX4 9 RX4 (TX4 0).2.1 (TX4 0).2.2.1 ∈ gTs := g_word (i := 285) (by decide +kernel) rfl
set_option maxRecDepth 100000 in
theorem tw_286 : Cond.fieldLink RX4 15 RX4 (TX4 1).2.1 (TX4 1).2.2.1 ∈ gTs := g_word (i := 286) (by decide +kernel) rfl
set_option maxRecDepth 100000 in
theorem tw_298 : Cond.fieldLink RX1 17 RX1 (TX1 0).2.1 (TX1 0).2.2.1 ∈ gTs := g_word (i := 298) (by decide +kernel) rfl
set_option maxRecDepth 100000 in
theorem tw_299 : Cond.fieldLink RX1 21 RX1 (TX1 1).2.1 (TX1 1).2.2.1 ∈ gTs := g_word (i := 299) (by decide +kernel) rfl
set_option maxRecDepth 100000 in
theorem tw_300 : Cond.fieldLink RX1 11 RX1 (TX1 2).2.1 (TX1 2).2.2.1 ∈ gTs := g_word (i := 300) (by decide +kernel) rfl
set_option maxRecDepth 100000 in
theorem tw_314 : Cond.fieldLink RX8 15 RX8 (TX8 0).2.1 (TX8 0).2.2.1 ∈ gTs := g_word (i := 314) (by decide +kernel) rfl
set_option maxRecDepth 100000 in
theorem tw_315 : Cond.fieldLink RX8 19 RX8 (TX8 1).2.1 (TX8 1).2.2.1 ∈ gTs := g_word (i := 315) (by decide +kernel) rfl
set_option maxRecDepth 100000 in
theorem tw_316 : Cond.fieldLink RX8 23 RX8 (TX8 2).2.1 (TX8 2).2.2.1 ∈ gTs := g_word (i := 316) (by decide +kernel) rfl
set_option maxRecDepth 100000 in
theorem tw_317 : Cond.fieldLink RX8 9 RX8 (TX8 3).2.1 (TX8 3).2.2.1 ∈ gTs := g_word (i := 317) (by decide +kernel) rfl
set_option maxRecDepth 100000 in
theorem tw_318 : Cond.fieldLink RX9 185 RX8 (TX8 3).2.1 (TX8 3).2.2.1 ∈ gTs := g_word (i := 318) (by decide +kernel) rfl
set_option maxRecDepth 100000 in
theorem tw_319 : Cond.fieldLink RX8 39 RX8 (TX8 4).2.1 (TX8 4).2.2.1 ∈ gTs := g_word (i := 319) (by decide +kernel) rfl
set_option maxRecDepth 100000 in
theorem tw_320 : Cond.fieldLink RX9 201 RX8 (TX8 4).2.1 (TX8 4).2.2.1 ∈ gTs := g_word (i := 320) (by decide +kernel) rfl
set_option maxRecDepth 100000 in
theorem tw_321 : Cond.fieldLink RX8 43 RX8 (TX8 5).2.1 (TX8 5).2.2.1 ∈ gTs := g_word (i := 321) (by decide +kernel) rfl
set_option maxRecDepth 100000 in
theorem tw_341 : Cond.fieldLink RX0 22 RX0 (TX0 0).2.1 (TX0 0).2.2.1 ∈ gTs := g_word (i := 341) (by decide +kernel) rfl
set_option maxRecDepth 100000 in
theorem tw_342 : Cond.fieldLink RX0 26 RX0 (TX0 1).2.1 (TX0 1).2.2.1 ∈ gTs := g_word (i := 342) (by decide +kernel) rfl
set_option maxRecDepth 100000 in
theorem tw_343 : Cond.fieldLink RX0 11 RX0 (TX0 2).2.1 (TX0 2).2.2.1 ∈ gTs := g_word (i := 343) (by decide +kernel) rfl
set_option maxRecDepth 100000 in
theorem tw_344 : Cond.fieldLink RX0 15 RX0 (TX0 3).2.1 (TX0 3).2.2.1 ∈ gTs := g_word (i := 344) (by decide +kernel) rfl
set_option maxRecDepth 100000 in
theorem tw_345 : Cond.fieldLink RX0 19 RX0 (TX0 4).2.1 (TX0 4).2.2.1 ∈ gTs := g_word (i := 345) (by decide +kernel) rfl
set_option maxRecDepth 100000 in
theorem tw_346 : Cond.fieldLink RX0 44 RX0 (TX0 5).2.1 (TX0 5).2.2.1 ∈ gTs := g_word (i := 346) (by decide +kernel) rfl
set_option maxRecDepth 100000 in
theorem tw_347 : Cond.fieldLink RX0 30 RX0 (TX0 6).2.1 (TX0 6).2.2.1 ∈ gTs := g_word (i := 347) (by decide +kernel) rfl
set_option maxRecDepth 100000 in
theorem tw_370 : Cond.fieldLink RX5 9 RX5 (TX5 0).2.1 (TX5 0).2.2.1 ∈ gTs := g_word (i := 370) (by decide +kernel) rfl
set_option maxRecDepth 100000 in
theorem tw_371 : Cond.fieldLink RX9 257 RX5 (TX5 0).2.1 (TX5 0).2.2.1 ∈ gTs := g_word (i := 371) (by decide +kernel) rfl
set_option maxRecDepth 100000 in
theorem tw_372 : Cond.fieldLink RX5 15 RX5 (TX5 1).2.1 (TX5 1).2.2.1 ∈ gTs := g_word (i := 372) (by decide +kernel) rfl
set_option maxRecDepth 100000 in
theorem tw_373 : Cond.fieldLink RX5 18 RX5 (TX5 2).2.1 (TX5 2).2.2.1 ∈ gTs := g_word (i := 373) (by decide +kernel) rfl
set_option maxRecDepth 100000 in
theorem tw_381 : Cond.fieldLink RX9 12 RX9 (TX9 0).2.1 (TX9 0).2.2.1 ∈ gTs := g_word (i := 381) (by decide +kernel) rfl
set_option maxRecDepth 100000 in
theorem tw_382 : Cond.fieldLink RX9 16 RX9 (TX9 1).2.1 (TX9 1).2.2.1 ∈ gTs := g_word (i := 382) (by decide +kernel) rfl
set_option maxRecDepth 100000 in
theorem tw_383 : Cond.fieldLink RX9 300 RX9 (TX9 2).2.1 (TX9 2).2.2.1 ∈ gTs := g_word (i := 383) (by decide +kernel) rfl
set_option maxRecDepth 100000 in
theorem tw_384 : Cond.fieldLink RX9 22 RX9 (TX9 3).2.1 (TX9 3).2.2.1 ∈ gTs := g_word (i := 384) (by decide +kernel) rfl
set_option maxRecDepth 100000 in
theorem tw_385 : Cond.fieldLink RX9 29 RX9 (TX9 4).2.1 (TX9 4).2.2.1 ∈ gTs := g_word (i := 385) (by decide +kernel) rfl
set_option maxRecDepth 100000 in
theorem tw_386 : Cond.fieldLink RX9 33 RX9 (TX9 5).2.1 (TX9 5).2.2.1 ∈ gTs := g_word (i := 386) (by decide +kernel) rfl
set_option maxRecDepth 100000 in
theorem tw_387 : Cond.fieldLink RX9 39 RX9 (TX9 6).2.1 (TX9 6).2.2.1 ∈ gTs := g_word (i := 387) (by decide +kernel) rfl
set_option maxRecDepth 100000 in
theorem tw_388 : Cond.fieldLink RX9 43 RX9 (TX9 7).2.1 (TX9 7).2.2.1 ∈ gTs := g_word (i := 388) (by decide +kernel) rfl
set_option maxRecDepth 100000 in
theorem tw_389 : Cond.fieldLink RX9 51 RX9 (TX9 8).2.1 (TX9 8).2.2.1 ∈ gTs := g_word (i := 389) (by decide +kernel) rfl
set_option maxRecDepth 100000 in
theorem tw_390 : Cond.fieldLink RX9 60 RX9 (TX9 9).2.1 (TX9 9).2.2.1 ∈ gTs := g_word (i := 390) (by decide +kernel) rfl
set_option maxRecDepth 100000 in
theorem tw_391 : Cond.fieldLink RX9 69 RX9 (TX9 10).2.1 (TX9 10).2.2.1 ∈ gTs := g_word (i := 391) (by decide +kernel) rfl
set_option maxRecDepth 100000 in
theorem tw_392 : Cond.fieldLink RX9 78 RX9 (TX9 11).2.1 (TX9 11).2.2.1 ∈ gTs := g_word (i := 392) (by decide +kernel) rfl
set_option maxRecDepth 100000 in
theorem tw_393 : Cond.fieldLink RX9 85 RX9 (TX9 12).2.1 (TX9 12).2.2.1 ∈ gTs := g_word (i := 393) (by decide +kernel) rfl
set_option maxRecDepth 100000 in
theorem tw_394 : Cond.fieldLink RX9 89 RX9 (TX9 13).2.1 (TX9 13).2.2.1 ∈ gTs := g_word (i := 394) (by decide +kernel) rfl
set_option maxRecDepth 100000 in
theorem tw_428 : Cond.methodLink RX9 93 yX9_isRoom ∈ gTs := g_word (i := 428) (by decide +kernel) rfl
set_option maxRecDepth 100000 in
theorem tw_429 : Cond.static yX9_isRoom ∈ gTs := g_word (i := 429) (by decide +kernel) rfl
set_option maxRecDepth 100000 in
theorem tw_430 : Cond.code yX9_isRoom cX9_isRoom 1 (some .boolean) ∈ gTs := g_word (i := 430) (by rfl) rfl
set_option maxRecDepth 100000 in
theorem tw_431 : Cond.methodLink RX9 97 yX9_isDigit ∈ gTs := g_word (i := 431) (by decide +kernel) rfl
set_option maxRecDepth 100000 in
theorem tw_432 : Cond.static yX9_isDigit ∈ gTs := g_word (i := 432) (by decide +kernel) rfl
set_option maxRecDepth 100000 in
theorem tw_433 : Cond.code yX9_isDigit cX9_isDigit 1 (some .boolean) ∈ gTs := g_word (i := 433) (by rfl) rfl
set_option maxRecDepth 100000 in
theorem tw_438 : Cond.methodLink RX9 103 yX9_isNight ∈ gTs := g_word (i := 438) (by decide +kernel) rfl
set_option maxRecDepth 100000 in
theorem tw_439 : Cond.static yX9_isNight ∈ gTs := g_word (i := 439) (by decide +kernel) rfl
set_option maxRecDepth 100000 in
theorem tw_440 : Cond.code yX9_isNight cX9_isNight 1 (some .boolean) ∈ gTs := g_word (i := 440) (by rfl) rfl
set_option maxRecDepth 100000 in
theorem tw_449 : Cond.methodLink RX9 113 yX2_tellSleeper ∈ gTs := g_word (i := 449) (by decide +kernel) rfl
set_option maxRecDepth 100000 in
theorem tw_450 : Cond.instanceMethod yX2_tellSleeper ∈ gTs := g_word (i := 450) (by decide +kernel) rfl
set_option maxRecDepth 100000 in
theorem tw_451 : Cond.selects RX2 yX2_tellSleeper yX2_tellSleeper ∈ gTs := g_word (i := 451) (by decide +kernel) rfl
set_option maxRecDepth 100000 in
theorem tw_452 : Cond.code yX2_tellSleeper cX2_tellSleeper 4 none ∈ gTs := g_word (i := 452) (by rfl) rfl
set_option maxRecDepth 100000 in
theorem tw_457 : Cond.methodLink RX9 117 yX2_hasSleeper ∈ gTs := g_word (i := 457) (by decide +kernel) rfl
set_option maxRecDepth 100000 in
theorem tw_458 : Cond.instanceMethod yX2_hasSleeper ∈ gTs := g_word (i := 458) (by decide +kernel) rfl
set_option maxRecDepth 100000 in
theorem tw_459 : Cond.selects RX2 yX2_hasSleeper yX2_hasSleeper ∈ gTs := g_word (i := 459) (by decide +kernel) rfl
set_option maxRecDepth 100000 in
theorem tw_460 : Cond.code yX2_hasSleeper cX2_hasSleeper 2 (some .boolean) ∈ gTs := g_word (i := 460) (by rfl) rfl
set_option maxRecDepth 100000 in
theorem tw_465 : Cond.methodLink RX9 123 yX2_tellGhost ∈ gTs := g_word (i := 465) (by decide +kernel) rfl
set_option maxRecDepth 100000 in
theorem tw_466 : Cond.instanceMethod yX2_tellGhost ∈ gTs := g_word (i := 466) (by decide +kernel) rfl
set_option maxRecDepth 100000 in
theorem tw_467 : Cond.selects RX2 yX2_tellGhost yX2_tellGhost ∈ gTs := g_word (i := 467) (by decide +kernel) rfl
set_option maxRecDepth 100000 in
theorem tw_468 : Cond.code yX2_tellGhost cX2_tellGhost 6 none ∈ gTs := g_word (i := 468) (by rfl) rfl
set_option maxRecDepth 100000 in
theorem tw_473 : Cond.methodLink RX9 127 yX6_hasSpace ∈ gTs := g_word (i := 473) (by decide +kernel) rfl
set_option maxRecDepth 100000 in
theorem tw_474 : Cond.instanceMethod yX6_hasSpace ∈ gTs := g_word (i := 474) (by decide +kernel) rfl
set_option maxRecDepth 100000 in
theorem tw_475 : Cond.selects RX6 yX6_hasSpace yX6_hasSpace ∈ gTs := g_word (i := 475) (by decide +kernel) rfl
set_option maxRecDepth 100000 in
theorem tw_476 : Cond.code yX6_hasSpace cX6_hasSpace 1 (some .boolean) ∈ gTs := g_word (i := 476) (by rfl) rfl
set_option maxRecDepth 100000 in
theorem tw_477 : Cond.methodLink RX9 131 yX6_push ∈ gTs := g_word (i := 477) (by decide +kernel) rfl
set_option maxRecDepth 100000 in
theorem tw_478 : Cond.instanceMethod yX6_push ∈ gTs := g_word (i := 478) (by decide +kernel) rfl
set_option maxRecDepth 100000 in
theorem tw_479 : Cond.selects RX6 yX6_push yX6_push ∈ gTs := g_word (i := 479) (by decide +kernel) rfl
set_option maxRecDepth 100000 in
theorem tw_480 : Cond.code yX6_push cX6_push 3 none ∈ gTs := g_word (i := 480) (by rfl) rfl
set_option maxRecDepth 100000 in
theorem tw_485 : Cond.methodLink RX9 138 yX6_open ∈ gTs := g_word (i := 485) (by decide +kernel) rfl
set_option maxRecDepth 100000 in
theorem tw_486 : Cond.instanceMethod yX6_open ∈ gTs := g_word (i := 486) (by decide +kernel) rfl
set_option maxRecDepth 100000 in
theorem tw_487 : Cond.selects RX6 yX6_open yX6_open ∈ gTs := g_word (i := 487) (by decide +kernel) rfl
set_option maxRecDepth 100000 in
theorem tw_488 : Cond.code yX6_open cX6_open 2 none ∈ gTs := g_word (i := 488) (by rfl) rfl
set_option maxRecDepth 100000 in
theorem tw_489 : Cond.methodLink RX9 141 yX7_readFrom ∈ gTs := g_word (i := 489) (by decide +kernel) rfl
set_option maxRecDepth 100000 in
theorem tw_490 : Cond.instanceMethod yX7_readFrom ∈ gTs := g_word (i := 490) (by decide +kernel) rfl
set_option maxRecDepth 100000 in
theorem tw_491 : Cond.selects RX7 yX7_readFrom yX7_readFrom ∈ gTs := g_word (i := 491) (by decide +kernel) rfl
set_option maxRecDepth 100000 in
theorem tw_492 : Cond.code yX7_readFrom cX7_readFrom 3 none ∈ gTs := g_word (i := 492) (by rfl) rfl
set_option maxRecDepth 100000 in
theorem tw_493 : Cond.methodLink RX7 31 yX7_readWalk ∈ gTs := g_word (i := 493) (by decide +kernel) rfl
set_option maxRecDepth 100000 in
theorem tw_495 : Cond.instanceMethod yX7_readWalk ∈ gTs := g_word (i := 495) (by decide +kernel) rfl
set_option maxRecDepth 100000 in
theorem tw_496 : Cond.code yX7_readWalk cX7_readWalk 6 none ∈ gTs := g_word (i := 496) (by rfl) rfl
set_option maxRecDepth 100000 in
theorem tw_497 : Cond.methodLink RX7 48 yX6_isAtDigit ∈ gTs := g_word (i := 497) (by decide +kernel) rfl
set_option maxRecDepth 100000 in
theorem tw_498 : Cond.instanceMethod yX6_isAtDigit ∈ gTs := g_word (i := 498) (by decide +kernel) rfl
set_option maxRecDepth 100000 in
theorem tw_499 : Cond.selects RX6 yX6_isAtDigit yX6_isAtDigit ∈ gTs := g_word (i := 499) (by decide +kernel) rfl
set_option maxRecDepth 100000 in
theorem tw_500 : Cond.code yX6_isAtDigit cX6_isAtDigit 1 (some .boolean) ∈ gTs := g_word (i := 500) (by rfl) rfl
set_option maxRecDepth 100000 in
theorem tw_501 : Cond.methodLink RX6 26 yX6_peek ∈ gTs := g_word (i := 501) (by decide +kernel) rfl
set_option maxRecDepth 100000 in
theorem tw_502 : Cond.instanceMethod yX6_peek ∈ gTs := g_word (i := 502) (by decide +kernel) rfl
set_option maxRecDepth 100000 in
theorem tw_503 : Cond.selects RX6 yX6_peek yX6_peek ∈ gTs := g_word (i := 503) (by decide +kernel) rfl
set_option maxRecDepth 100000 in
theorem tw_504 : Cond.code yX6_peek cX6_peek 1 (some .int) ∈ gTs := g_word (i := 504) (by rfl) rfl
set_option maxRecDepth 100000 in
theorem tw_505 : Cond.methodLink RX7 52 yX6_fail ∈ gTs := g_word (i := 505) (by decide +kernel) rfl
set_option maxRecDepth 100000 in
theorem tw_506 : Cond.instanceMethod yX6_fail ∈ gTs := g_word (i := 506) (by decide +kernel) rfl
set_option maxRecDepth 100000 in
theorem tw_507 : Cond.selects RX6 yX6_fail yX6_fail ∈ gTs := g_word (i := 507) (by decide +kernel) rfl
set_option maxRecDepth 100000 in
theorem tw_508 : Cond.code yX6_fail cX6_fail 2 none ∈ gTs := g_word (i := 508) (by rfl) rfl
set_option maxRecDepth 100000 in
theorem tw_509 : Cond.methodLink RX6 30 yX6_failAt ∈ gTs := g_word (i := 509) (by decide +kernel) rfl
set_option maxRecDepth 100000 in
theorem tw_510 : Cond.instanceMethod yX6_failAt ∈ gTs := g_word (i := 510) (by decide +kernel) rfl
set_option maxRecDepth 100000 in
theorem tw_511 : Cond.selects RX6 yX6_failAt yX6_failAt ∈ gTs := g_word (i := 511) (by decide +kernel) rfl
set_option maxRecDepth 100000 in
theorem tw_512 : Cond.code yX6_failAt cX6_failAt 3 none ∈ gTs := g_word (i := 512) (by rfl) rfl
set_option maxRecDepth 100000 in
theorem tw_513 : Cond.methodLink RX7 55 yX6_takeDigit ∈ gTs := g_word (i := 513) (by decide +kernel) rfl
set_option maxRecDepth 100000 in
theorem tw_514 : Cond.instanceMethod yX6_takeDigit ∈ gTs := g_word (i := 514) (by decide +kernel) rfl
set_option maxRecDepth 100000 in
theorem tw_515 : Cond.selects RX6 yX6_takeDigit yX6_takeDigit ∈ gTs := g_word (i := 515) (by decide +kernel) rfl
set_option maxRecDepth 100000 in
theorem tw_516 : Cond.code yX6_takeDigit cX6_takeDigit 3 (some .int) ∈ gTs := g_word (i := 516) (by rfl) rfl
set_option maxRecDepth 100000 in
theorem tw_517 : Cond.methodLink RX6 34 yX6_fail ∈ gTs := g_word (i := 517) (by decide +kernel) rfl
set_option maxRecDepth 100000 in
theorem tw_518 : Cond.methodLink RX7 41 yX6_takeSign ∈ gTs := g_word (i := 518) (by decide +kernel) rfl
set_option maxRecDepth 100000 in
theorem tw_519 : Cond.instanceMethod yX6_takeSign ∈ gTs := g_word (i := 519) (by decide +kernel) rfl
set_option maxRecDepth 100000 in
theorem tw_520 : Cond.selects RX6 yX6_takeSign yX6_takeSign ∈ gTs := g_word (i := 520) (by decide +kernel) rfl
set_option maxRecDepth 100000 in
theorem tw_521 : Cond.code yX6_takeSign cX6_takeSign 2 none ∈ gTs := g_word (i := 521) (by rfl) rfl
set_option maxRecDepth 100000 in
theorem tw_522 : Cond.methodLink RX7 59 yX7_readRoom ∈ gTs := g_word (i := 522) (by decide +kernel) rfl
set_option maxRecDepth 100000 in
theorem tw_523 : Cond.static yX7_readRoom ∈ gTs := g_word (i := 523) (by decide +kernel) rfl
set_option maxRecDepth 100000 in
theorem tw_524 : Cond.code yX7_readRoom cX7_readRoom 3 (some .int) ∈ gTs := g_word (i := 524) (by rfl) rfl
set_option maxRecDepth 100000 in
theorem tw_525 : Cond.methodLink RX7 73 yX6_failAt ∈ gTs := g_word (i := 525) (by decide +kernel) rfl
set_option maxRecDepth 100000 in
theorem tw_526 : Cond.methodLink RX7 35 yX6_peek ∈ gTs := g_word (i := 526) (by decide +kernel) rfl
set_option maxRecDepth 100000 in
theorem tw_527 : Cond.methodLink RX7 66 yX7_add ∈ gTs := g_word (i := 527) (by decide +kernel) rfl
set_option maxRecDepth 100000 in
theorem tw_529 : Cond.instanceMethod yX7_add ∈ gTs := g_word (i := 529) (by decide +kernel) rfl
set_option maxRecDepth 100000 in
theorem tw_530 : Cond.code yX7_add cX7_add 6 none ∈ gTs := g_word (i := 530) (by rfl) rfl
set_option maxRecDepth 100000 in
theorem tw_531 : Cond.methodLink RX7 45 yX6_takeEnd ∈ gTs := g_word (i := 531) (by decide +kernel) rfl
set_option maxRecDepth 100000 in
theorem tw_532 : Cond.instanceMethod yX6_takeEnd ∈ gTs := g_word (i := 532) (by decide +kernel) rfl
set_option maxRecDepth 100000 in
theorem tw_533 : Cond.selects RX6 yX6_takeEnd yX6_takeEnd ∈ gTs := g_word (i := 533) (by decide +kernel) rfl
set_option maxRecDepth 100000 in
theorem tw_534 : Cond.code yX6_takeEnd cX6_takeEnd 1 none ∈ gTs := g_word (i := 534) (by rfl) rfl
set_option maxRecDepth 100000 in
theorem tw_535 : Cond.methodLink RX9 148 yX7_copy ∈ gTs := g_word (i := 535) (by decide +kernel) rfl
set_option maxRecDepth 100000 in
theorem tw_536 : Cond.instanceMethod yX7_copy ∈ gTs := g_word (i := 536) (by decide +kernel) rfl
set_option maxRecDepth 100000 in
theorem tw_537 : Cond.selects RX7 yX7_copy yX7_copy ∈ gTs := g_word (i := 537) (by decide +kernel) rfl
set_option maxRecDepth 100000 in
theorem tw_538 : Cond.code yX7_copy cX7_copy 2 none ∈ gTs := g_word (i := 538) (by rfl) rfl
set_option maxRecDepth 100000 in
theorem tw_539 : Cond.methodLink RX7 97 arraycopyName ∈ gTs := g_word (i := 539) (by decide +kernel) rfl
set_option maxRecDepth 100000 in
theorem tw_540 : Cond.static arraycopyName ∈ gTs := g_word (i := 540) (by decide +kernel) rfl
set_option maxRecDepth 100000 in
theorem tw_541 : Cond.native arraycopyName ∈ gTs := g_word (i := 541) (by decide +kernel) rfl
set_option maxRecDepth 100000 in
theorem tw_546 : Cond.methodLink RX9 153 yX4_readLaw ∈ gTs := g_word (i := 546) (by decide +kernel) rfl
set_option maxRecDepth 100000 in
theorem tw_547 : Cond.instanceMethod yX4_readLaw ∈ gTs := g_word (i := 547) (by decide +kernel) rfl
set_option maxRecDepth 100000 in
theorem tw_548 : Cond.selects RX4 yX4_readLaw yX4_readLaw ∈ gTs := g_word (i := 548) (by decide +kernel) rfl
set_option maxRecDepth 100000 in
theorem tw_549 : Cond.code yX4_readLaw cX4_readLaw 2 none ∈ gTs := g_word (i := 549) (by rfl) rfl
set_option maxRecDepth 100000 in
theorem tw_550 : Cond.methodLink RX4 19 yX3_clear ∈ gTs := g_word (i := 550) (by decide +kernel) rfl
set_option maxRecDepth 100000 in
theorem tw_551 : Cond.instanceMethod yX3_clear ∈ gTs := g_word (i := 551) (by decide +kernel) rfl
set_option maxRecDepth 100000 in
theorem tw_552 : Cond.selects RX3 yX3_clear yX3_clear ∈ gTs := g_word (i := 552) (by decide +kernel) rfl
set_option maxRecDepth 100000 in
theorem tw_553 : Cond.code yX3_clear cX3_clear 1 none ∈ gTs := g_word (i := 553) (by rfl) rfl
set_option maxRecDepth 100000 in
theorem tw_554 : Cond.methodLink RX4 24 yX4_readClause ∈ gTs := g_word (i := 554) (by decide +kernel) rfl
set_option maxRecDepth 100000 in
theorem tw_556 : Cond.instanceMethod yX4_readClause ∈ gTs := g_word (i := 556) (by decide +kernel) rfl
set_option maxRecDepth 100000 in
theorem tw_557 : Cond.code yX4_readClause cX4_readClause 4 none ∈ gTs := g_word (i := 557) (by rfl) rfl
set_option maxRecDepth 100000 in
theorem tw_558 : Cond.methodLink RX4 27 yX6_peek ∈ gTs := g_word (i := 558) (by decide +kernel) rfl
set_option maxRecDepth 100000 in
theorem tw_559 : Cond.methodLink RX4 40 yX6_fail ∈ gTs := g_word (i := 559) (by decide +kernel) rfl
set_option maxRecDepth 100000 in
theorem tw_560 : Cond.methodLink RX4 56 yX4_readSum ∈ gTs := g_word (i := 560) (by decide +kernel) rfl
set_option maxRecDepth 100000 in
theorem tw_562 : Cond.instanceMethod yX4_readSum ∈ gTs := g_word (i := 562) (by decide +kernel) rfl
set_option maxRecDepth 100000 in
theorem tw_563 : Cond.code yX4_readSum cX4_readSum 4 none ∈ gTs := g_word (i := 563) (by rfl) rfl
set_option maxRecDepth 100000 in
theorem tw_564 : Cond.methodLink RX4 91 yX4_readProduct ∈ gTs := g_word (i := 564) (by decide +kernel) rfl
set_option maxRecDepth 100000 in
theorem tw_566 : Cond.instanceMethod yX4_readProduct ∈ gTs := g_word (i := 566) (by decide +kernel) rfl
set_option maxRecDepth 100000 in
theorem tw_567 : Cond.code yX4_readProduct cX4_readProduct 4 none ∈ gTs := g_word (i := 567) (by rfl) rfl
set_option maxRecDepth 100000 in
theorem tw_568 : Cond.methodLink RX4 94 yX4_readFactor ∈ gTs := g_word (i := 568) (by decide +kernel) rfl
set_option maxRecDepth 100000 in
theorem tw_570 : Cond.instanceMethod yX4_readFactor ∈ gTs := g_word (i := 570) (by decide +kernel) rfl
set_option maxRecDepth 100000 in
theorem tw_571 : Cond.code yX4_readFactor cX4_readFactor 3 none ∈ gTs := g_word (i := 571) (by rfl) rfl
set_option maxRecDepth 100000 in
theorem tw_572 : Cond.methodLink RX4 83 yX4_goesDeeper ∈ gTs := g_word (i := 572) (by decide +kernel) rfl
set_option maxRecDepth 100000 in
theorem tw_574 : Cond.instanceMethod yX4_goesDeeper ∈ gTs := g_word (i := 574) (by decide +kernel) rfl
set_option maxRecDepth 100000 in
theorem tw_575 : Cond.code yX4_goesDeeper cX4_goesDeeper 2 (some .boolean) ∈ gTs := g_word (i := 575) (by rfl) rfl
set_option maxRecDepth 100000 in
theorem tw_576 : Cond.methodLink RX4 33 yX6_takeSign ∈ gTs := g_word (i := 576) (by decide +kernel) rfl
set_option maxRecDepth 100000 in
theorem tw_577 : Cond.methodLink RX4 100 yX6_isAtDigit ∈ gTs := g_word (i := 577) (by decide +kernel) rfl
set_option maxRecDepth 100000 in
theorem tw_578 : Cond.methodLink RX4 104 yX4_readNumber ∈ gTs := g_word (i := 578) (by decide +kernel) rfl
set_option maxRecDepth 100000 in
theorem tw_580 : Cond.instanceMethod yX4_readNumber ∈ gTs := g_word (i := 580) (by decide +kernel) rfl
set_option maxRecDepth 100000 in
theorem tw_581 : Cond.code yX4_readNumber cX4_readNumber 3 none ∈ gTs := g_word (i := 581) (by rfl) rfl
set_option maxRecDepth 100000 in
theorem tw_582 : Cond.methodLink RX4 59 yX3_addStep ∈ gTs := g_word (i := 582) (by decide +kernel) rfl
set_option maxRecDepth 100000 in
theorem tw_583 : Cond.instanceMethod yX3_addStep ∈ gTs := g_word (i := 583) (by decide +kernel) rfl
set_option maxRecDepth 100000 in
theorem tw_584 : Cond.selects RX3 yX3_addStep yX3_addStep ∈ gTs := g_word (i := 584) (by decide +kernel) rfl
set_option maxRecDepth 100000 in
theorem tw_585 : Cond.code yX3_addStep cX3_addStep 3 none ∈ gTs := g_word (i := 585) (by rfl) rfl
set_option maxRecDepth 100000 in
theorem tw_586 : Cond.methodLink RX4 107 yX4_isLetter ∈ gTs := g_word (i := 586) (by decide +kernel) rfl
set_option maxRecDepth 100000 in
theorem tw_587 : Cond.static yX4_isLetter ∈ gTs := g_word (i := 587) (by decide +kernel) rfl
set_option maxRecDepth 100000 in
theorem tw_588 : Cond.code yX4_isLetter cX4_isLetter 1 (some .boolean) ∈ gTs := g_word (i := 588) (by rfl) rfl
set_option maxRecDepth 100000 in
theorem tw_619 : Cond.static yJ9_max_7cf53 ∈ gTs := g_word (i := 619) (by decide +kernel) rfl
set_option maxRecDepth 100000 in
theorem tw_620 : Cond.code yJ9_max_7cf53 cJ9_max_7cf53 2 (some .int) ∈ gTs := g_word (i := 620) (by rfl) rfl
set_option maxRecDepth 100000 in
theorem tw_622 : Cond.static yJ9_min_7cf53 ∈ gTs := g_word (i := 622) (by decide +kernel) rfl
set_option maxRecDepth 100000 in
theorem tw_623 : Cond.code yJ9_min_7cf53 cJ9_min_7cf53 2 (some .int) ∈ gTs := g_word (i := 623) (by rfl) rfl
set_option maxRecDepth 100000 in
theorem tw_676 : Cond.methodLink RX4 97 yX4_timesAt ∈ gTs := g_word (i := 676) (by decide +kernel) rfl
set_option maxRecDepth 100000 in
theorem tw_677 : Cond.static yX4_timesAt ∈ gTs := g_word (i := 677) (by decide +kernel) rfl
set_option maxRecDepth 100000 in
theorem tw_678 : Cond.code yX4_timesAt cX4_timesAt 1 (some .int) ∈ gTs := g_word (i := 678) (by rfl) rfl
set_option maxRecDepth 100000 in
theorem tw_679 : Cond.methodLink RX4 63 yX4_readParts ∈ gTs := g_word (i := 679) (by decide +kernel) rfl
set_option maxRecDepth 100000 in
theorem tw_681 : Cond.instanceMethod yX4_readParts ∈ gTs := g_word (i := 681) (by decide +kernel) rfl
set_option maxRecDepth 100000 in
theorem tw_682 : Cond.code yX4_readParts cX4_readParts 4 none ∈ gTs := g_word (i := 682) (by rfl) rfl
set_option maxRecDepth 100000 in
theorem tw_683 : Cond.methodLink RX4 70 yX4_readPieces ∈ gTs := g_word (i := 683) (by decide +kernel) rfl
set_option maxRecDepth 100000 in
theorem tw_685 : Cond.instanceMethod yX4_readPieces ∈ gTs := g_word (i := 685) (by decide +kernel) rfl
set_option maxRecDepth 100000 in
theorem tw_686 : Cond.code yX4_readPieces cX4_readPieces 4 none ∈ gTs := g_word (i := 686) (by rfl) rfl
set_option maxRecDepth 100000 in
theorem tw_687 : Cond.methodLink RX4 80 yX4_readPiece ∈ gTs := g_word (i := 687) (by decide +kernel) rfl
set_option maxRecDepth 100000 in
theorem tw_689 : Cond.instanceMethod yX4_readPiece ∈ gTs := g_word (i := 689) (by decide +kernel) rfl
set_option maxRecDepth 100000 in
theorem tw_690 : Cond.code yX4_readPiece cX4_readPiece 3 none ∈ gTs := g_word (i := 690) (by rfl) rfl
set_option maxRecDepth 100000 in
theorem tw_691 : Cond.methodLink RX4 87 yX4_comparisonAt ∈ gTs := g_word (i := 691) (by decide +kernel) rfl
set_option maxRecDepth 100000 in
theorem tw_693 : Cond.instanceMethod yX4_comparisonAt ∈ gTs := g_word (i := 693) (by decide +kernel) rfl
set_option maxRecDepth 100000 in
theorem tw_694 : Cond.code yX4_comparisonAt cX4_comparisonAt 2 (some .int) ∈ gTs := g_word (i := 694) (by rfl) rfl
set_option maxRecDepth 100000 in
theorem tw_695 : Cond.methodLink RX4 73 yX4_addJump ∈ gTs := g_word (i := 695) (by decide +kernel) rfl
set_option maxRecDepth 100000 in
theorem tw_697 : Cond.instanceMethod yX4_addJump ∈ gTs := g_word (i := 697) (by decide +kernel) rfl
set_option maxRecDepth 100000 in
theorem tw_698 : Cond.code yX4_addJump cX4_addJump 5 (some .int) ∈ gTs := g_word (i := 698) (by rfl) rfl
set_option maxRecDepth 100000 in
theorem tw_699 : Cond.methodLink RX4 77 yX3_aim ∈ gTs := g_word (i := 699) (by decide +kernel) rfl
set_option maxRecDepth 100000 in
theorem tw_700 : Cond.instanceMethod yX3_aim ∈ gTs := g_word (i := 700) (by decide +kernel) rfl
set_option maxRecDepth 100000 in
theorem tw_701 : Cond.selects RX3 yX3_aim yX3_aim ∈ gTs := g_word (i := 701) (by decide +kernel) rfl
set_option maxRecDepth 100000 in
theorem tw_702 : Cond.code yX3_aim cX3_aim 3 none ∈ gTs := g_word (i := 702) (by rfl) rfl
set_option maxRecDepth 100000 in
theorem tw_703 : Cond.methodLink RX4 66 yX3_addClause ∈ gTs := g_word (i := 703) (by decide +kernel) rfl
set_option maxRecDepth 100000 in
theorem tw_704 : Cond.instanceMethod yX3_addClause ∈ gTs := g_word (i := 704) (by decide +kernel) rfl
set_option maxRecDepth 100000 in
theorem tw_705 : Cond.selects RX3 yX3_addClause yX3_addClause ∈ gTs := g_word (i := 705) (by decide +kernel) rfl
set_option maxRecDepth 100000 in
theorem tw_706 : Cond.code yX3_addClause cX3_addClause 4 none ∈ gTs := g_word (i := 706) (by rfl) rfl
set_option maxRecDepth 100000 in
theorem tw_707 : Cond.methodLink RX4 37 yX6_takeEnd ∈ gTs := g_word (i := 707) (by decide +kernel) rfl
set_option maxRecDepth 100000 in
theorem tw_708 : Cond.methodLink RX9 156 yX3_copy ∈ gTs := g_word (i := 708) (by decide +kernel) rfl
set_option maxRecDepth 100000 in
theorem tw_709 : Cond.instanceMethod yX3_copy ∈ gTs := g_word (i := 709) (by decide +kernel) rfl
set_option maxRecDepth 100000 in
theorem tw_710 : Cond.selects RX3 yX3_copy yX3_copy ∈ gTs := g_word (i := 710) (by decide +kernel) rfl
set_option maxRecDepth 100000 in
theorem tw_711 : Cond.code yX3_copy cX3_copy 2 none ∈ gTs := g_word (i := 711) (by rfl) rfl
set_option maxRecDepth 100000 in
theorem tw_712 : Cond.methodLink RX3 55 arraycopyName ∈ gTs := g_word (i := 712) (by decide +kernel) rfl
set_option maxRecDepth 100000 in
theorem tw_718 : Cond.methodLink RX9 174 yX7_isGone ∈ gTs := g_word (i := 718) (by decide +kernel) rfl
set_option maxRecDepth 100000 in
theorem tw_719 : Cond.instanceMethod yX7_isGone ∈ gTs := g_word (i := 719) (by decide +kernel) rfl
set_option maxRecDepth 100000 in
theorem tw_720 : Cond.selects RX7 yX7_isGone yX7_isGone ∈ gTs := g_word (i := 720) (by decide +kernel) rfl
set_option maxRecDepth 100000 in
theorem tw_721 : Cond.code yX7_isGone cX7_isGone 3 (some .boolean) ∈ gTs := g_word (i := 721) (by rfl) rfl
set_option maxRecDepth 100000 in
theorem tw_722 : Cond.methodLink RX7 77 yX2_hasGhost ∈ gTs := g_word (i := 722) (by decide +kernel) rfl
set_option maxRecDepth 100000 in
theorem tw_723 : Cond.instanceMethod yX2_hasGhost ∈ gTs := g_word (i := 723) (by decide +kernel) rfl
set_option maxRecDepth 100000 in
theorem tw_724 : Cond.selects RX2 yX2_hasGhost yX2_hasGhost ∈ gTs := g_word (i := 724) (by decide +kernel) rfl
set_option maxRecDepth 100000 in
theorem tw_725 : Cond.code yX2_hasGhost cX2_hasGhost 2 (some .boolean) ∈ gTs := g_word (i := 725) (by rfl) rfl
set_option maxRecDepth 100000 in
theorem tw_730 : Cond.methodLink RX9 178 yX2_hasGhost ∈ gTs := g_word (i := 730) (by decide +kernel) rfl
set_option maxRecDepth 100000 in
theorem tw_731 : Cond.methodLink RX9 181 yX1_frightOf ∈ gTs := g_word (i := 731) (by decide +kernel) rfl
set_option maxRecDepth 100000 in
theorem tw_732 : Cond.instanceMethod yX1_frightOf ∈ gTs := g_word (i := 732) (by decide +kernel) rfl
set_option maxRecDepth 100000 in
theorem tw_733 : Cond.selects RX1 yX1_frightOf yX1_frightOf ∈ gTs := g_word (i := 733) (by decide +kernel) rfl
set_option maxRecDepth 100000 in
theorem tw_734 : Cond.code yX1_frightOf cX1_frightOf 7 (some .int) ∈ gTs := g_word (i := 734) (by rfl) rfl
set_option maxRecDepth 100000 in
theorem tw_735 : Cond.methodLink RX1 25 yX1_isNear ∈ gTs := g_word (i := 735) (by decide +kernel) rfl
set_option maxRecDepth 100000 in
theorem tw_737 : Cond.instanceMethod yX1_isNear ∈ gTs := g_word (i := 737) (by decide +kernel) rfl
set_option maxRecDepth 100000 in
theorem tw_738 : Cond.code yX1_isNear cX1_isNear 6 (some .boolean) ∈ gTs := g_word (i := 738) (by rfl) rfl
set_option maxRecDepth 100000 in
theorem tw_739 : Cond.methodLink RX1 29 yX2_companyOf ∈ gTs := g_word (i := 739) (by decide +kernel) rfl
set_option maxRecDepth 100000 in
theorem tw_740 : Cond.instanceMethod yX2_companyOf ∈ gTs := g_word (i := 740) (by decide +kernel) rfl
set_option maxRecDepth 100000 in
theorem tw_741 : Cond.selects RX2 yX2_companyOf yX2_companyOf ∈ gTs := g_word (i := 741) (by decide +kernel) rfl
set_option maxRecDepth 100000 in
theorem tw_742 : Cond.code yX2_companyOf cX2_companyOf 6 (some .int) ∈ gTs := g_word (i := 742) (by rfl) rfl
set_option maxRecDepth 100000 in
theorem tw_743 : Cond.methodLink RX2 55 yX2_hasSleeper ∈ gTs := g_word (i := 743) (by decide +kernel) rfl
set_option maxRecDepth 100000 in
theorem tw_744 : Cond.methodLink RX1 38 yX1_isLet ∈ gTs := g_word (i := 744) (by decide +kernel) rfl
set_option maxRecDepth 100000 in
theorem tw_745 : Cond.static yX1_isLet ∈ gTs := g_word (i := 745) (by decide +kernel) rfl
set_option maxRecDepth 100000 in
theorem tw_746 : Cond.code yX1_isLet cX1_isLet 3 (some .boolean) ∈ gTs := g_word (i := 746) (by rfl) rfl
set_option maxRecDepth 100000 in
theorem tw_747 : Cond.methodLink RX1 45 yX1_tellWalk ∈ gTs := g_word (i := 747) (by decide +kernel) rfl
set_option maxRecDepth 100000 in
theorem tw_749 : Cond.instanceMethod yX1_tellWalk ∈ gTs := g_word (i := 749) (by decide +kernel) rfl
set_option maxRecDepth 100000 in
theorem tw_750 : Cond.code yX1_tellWalk cX1_tellWalk 5 none ∈ gTs := g_word (i := 750) (by rfl) rfl
set_option maxRecDepth 100000 in
theorem tw_751 : Cond.methodLink RX1 77 yJ7_fill_53178 ∈ gTs := g_word (i := 751) (by decide +kernel) rfl
set_option maxRecDepth 100000 in
theorem tw_752 : Cond.static yJ7_fill_53178 ∈ gTs := g_word (i := 752) (by decide +kernel) rfl
set_option maxRecDepth 100000 in
theorem tw_753 : Cond.code yJ7_fill_53178 cJ7_fill_53178 4 none ∈ gTs := g_word (i := 753) (by rfl) rfl
set_option maxRecDepth 100000 in
theorem tw_754 : Cond.methodLink RX1 49 yX1_tellLetter ∈ gTs := g_word (i := 754) (by decide +kernel) rfl
set_option maxRecDepth 100000 in
theorem tw_756 : Cond.instanceMethod yX1_tellLetter ∈ gTs := g_word (i := 756) (by decide +kernel) rfl
set_option maxRecDepth 100000 in
theorem tw_757 : Cond.code yX1_tellLetter cX1_tellLetter 3 none ∈ gTs := g_word (i := 757) (by rfl) rfl
set_option maxRecDepth 100000 in
theorem tw_758 : Cond.methodLink RX1 56 yX3_holds ∈ gTs := g_word (i := 758) (by decide +kernel) rfl
set_option maxRecDepth 100000 in
theorem tw_759 : Cond.instanceMethod yX3_holds ∈ gTs := g_word (i := 759) (by decide +kernel) rfl
set_option maxRecDepth 100000 in
theorem tw_760 : Cond.selects RX3 yX3_holds yX3_holds ∈ gTs := g_word (i := 760) (by decide +kernel) rfl
set_option maxRecDepth 100000 in
theorem tw_761 : Cond.code yX3_holds cX3_holds 4 (some .boolean) ∈ gTs := g_word (i := 761) (by rfl) rfl
set_option maxRecDepth 100000 in
theorem tw_762 : Cond.methodLink RX3 35 yX3_reckon ∈ gTs := g_word (i := 762) (by decide +kernel) rfl
set_option maxRecDepth 100000 in
theorem tw_764 : Cond.instanceMethod yX3_reckon ∈ gTs := g_word (i := 764) (by decide +kernel) rfl
set_option maxRecDepth 100000 in
theorem tw_765 : Cond.code yX3_reckon cX3_reckon 7 (some .int) ∈ gTs := g_word (i := 765) (by rfl) rfl
set_option maxRecDepth 100000 in
theorem tw_766 : Cond.methodLink RX3 48 yX3_letterAt ∈ gTs := g_word (i := 766) (by decide +kernel) rfl
set_option maxRecDepth 100000 in
theorem tw_767 : Cond.static yX3_letterAt ∈ gTs := g_word (i := 767) (by decide +kernel) rfl
set_option maxRecDepth 100000 in
theorem tw_768 : Cond.code yX3_letterAt cX3_letterAt 2 (some .int) ∈ gTs := g_word (i := 768) (by rfl) rfl
set_option maxRecDepth 100000 in
theorem tw_769 : Cond.methodLink RX3 45 yJ9_max_7cf53 ∈ gTs := g_word (i := 769) (by decide +kernel) rfl
set_option maxRecDepth 100000 in
theorem tw_770 : Cond.methodLink RX3 51 yX3_joined ∈ gTs := g_word (i := 770) (by decide +kernel) rfl
set_option maxRecDepth 100000 in
theorem tw_771 : Cond.static yX3_joined ∈ gTs := g_word (i := 771) (by decide +kernel) rfl
set_option maxRecDepth 100000 in
theorem tw_772 : Cond.code yX3_joined cX3_joined 3 (some .int) ∈ gTs := g_word (i := 772) (by rfl) rfl
set_option maxRecDepth 100000 in
theorem tw_773 : Cond.methodLink RX1 60 yX3_amountOf ∈ gTs := g_word (i := 773) (by decide +kernel) rfl
set_option maxRecDepth 100000 in
theorem tw_774 : Cond.instanceMethod yX3_amountOf ∈ gTs := g_word (i := 774) (by decide +kernel) rfl
set_option maxRecDepth 100000 in
theorem tw_775 : Cond.selects RX3 yX3_amountOf yX3_amountOf ∈ gTs := g_word (i := 775) (by decide +kernel) rfl
set_option maxRecDepth 100000 in
theorem tw_776 : Cond.code yX3_amountOf cX3_amountOf 5 (some .int) ∈ gTs := g_word (i := 776) (by rfl) rfl
set_option maxRecDepth 100000 in
theorem tw_777 : Cond.methodLink RX3 39 yJ9_min_7cf53 ∈ gTs := g_word (i := 777) (by decide +kernel) rfl
set_option maxRecDepth 100000 in
theorem tw_782 : Cond.methodLink RX9 188 yX9_isSum ∈ gTs := g_word (i := 782) (by decide +kernel) rfl
set_option maxRecDepth 100000 in
theorem tw_784 : Cond.instanceMethod yX9_isSum ∈ gTs := g_word (i := 784) (by decide +kernel) rfl
set_option maxRecDepth 100000 in
theorem tw_785 : Cond.code yX9_isSum cX9_isSum 3 (some .boolean) ∈ gTs := g_word (i := 785) (by rfl) rfl
set_option maxRecDepth 100000 in
theorem tw_786 : Cond.methodLink RX9 192 yX8_pass ∈ gTs := g_word (i := 786) (by decide +kernel) rfl
set_option maxRecDepth 100000 in
theorem tw_787 : Cond.instanceMethod yX8_pass ∈ gTs := g_word (i := 787) (by decide +kernel) rfl
set_option maxRecDepth 100000 in
theorem tw_788 : Cond.selects RX8 yX8_pass yX8_pass ∈ gTs := g_word (i := 788) (by decide +kernel) rfl
set_option maxRecDepth 100000 in
theorem tw_789 : Cond.code yX8_pass cX8_pass 3 none ∈ gTs := g_word (i := 789) (by rfl) rfl
set_option maxRecDepth 100000 in
theorem tw_790 : Cond.methodLink RX8 27 yJ7_fill_53178 ∈ gTs := g_word (i := 790) (by decide +kernel) rfl
set_option maxRecDepth 100000 in
theorem tw_791 : Cond.methodLink RX8 54 yX7_isGone ∈ gTs := g_word (i := 791) (by decide +kernel) rfl
set_option maxRecDepth 100000 in
theorem tw_792 : Cond.methodLink RX8 58 yX8_goOut ∈ gTs := g_word (i := 792) (by decide +kernel) rfl
set_option maxRecDepth 100000 in
theorem tw_794 : Cond.instanceMethod yX8_goOut ∈ gTs := g_word (i := 794) (by decide +kernel) rfl
set_option maxRecDepth 100000 in
theorem tw_795 : Cond.code yX8_goOut cX8_goOut 8 none ∈ gTs := g_word (i := 795) (by rfl) rfl
set_option maxRecDepth 100000 in
theorem tw_796 : Cond.methodLink RX8 62 yX8_chainFor ∈ gTs := g_word (i := 796) (by decide +kernel) rfl
set_option maxRecDepth 100000 in
theorem tw_798 : Cond.instanceMethod yX8_chainFor ∈ gTs := g_word (i := 798) (by decide +kernel) rfl
set_option maxRecDepth 100000 in
theorem tw_799 : Cond.code yX8_chainFor cX8_chainFor 2 (some .int) ∈ gTs := g_word (i := 799) (by rfl) rfl
set_option maxRecDepth 100000 in
theorem tw_800 : Cond.methodLink RX8 66 yX7_isClaimed ∈ gTs := g_word (i := 800) (by decide +kernel) rfl
set_option maxRecDepth 100000 in
theorem tw_801 : Cond.instanceMethod yX7_isClaimed ∈ gTs := g_word (i := 801) (by decide +kernel) rfl
set_option maxRecDepth 100000 in
theorem tw_802 : Cond.selects RX7 yX7_isClaimed yX7_isClaimed ∈ gTs := g_word (i := 802) (by decide +kernel) rfl
set_option maxRecDepth 100000 in
theorem tw_803 : Cond.code yX7_isClaimed cX7_isClaimed 6 (some .boolean) ∈ gTs := g_word (i := 803) (by rfl) rfl
set_option maxRecDepth 100000 in
theorem tw_804 : Cond.methodLink RX7 83 yX7_isGone ∈ gTs := g_word (i := 804) (by decide +kernel) rfl
set_option maxRecDepth 100000 in
theorem tw_805 : Cond.methodLink RX7 87 yX7_isElder ∈ gTs := g_word (i := 805) (by decide +kernel) rfl
set_option maxRecDepth 100000 in
theorem tw_806 : Cond.static yX7_isElder ∈ gTs := g_word (i := 806) (by decide +kernel) rfl
set_option maxRecDepth 100000 in
theorem tw_807 : Cond.code yX7_isElder cX7_isElder 3 (some .boolean) ∈ gTs := g_word (i := 807) (by rfl) rfl
set_option maxRecDepth 100000 in
theorem tw_808 : Cond.constant RX8 75 (65536) ∈ gTs := g_word (i := 808) (by decide +kernel) rfl
set_option maxRecDepth 100000 in
theorem tw_809 : Cond.methodLink RX8 76 yX1_tenthsOf ∈ gTs := g_word (i := 809) (by decide +kernel) rfl
set_option maxRecDepth 100000 in
theorem tw_810 : Cond.instanceMethod yX1_tenthsOf ∈ gTs := g_word (i := 810) (by decide +kernel) rfl
set_option maxRecDepth 100000 in
theorem tw_811 : Cond.selects RX1 yX1_tenthsOf yX1_tenthsOf ∈ gTs := g_word (i := 811) (by decide +kernel) rfl
set_option maxRecDepth 100000 in
theorem tw_812 : Cond.code yX1_tenthsOf cX1_tenthsOf 5 (some .int) ∈ gTs := g_word (i := 812) (by rfl) rfl
set_option maxRecDepth 100000 in
theorem tw_813 : Cond.methodLink RX8 82 yX2_hasSleeper ∈ gTs := g_word (i := 813) (by decide +kernel) rfl
set_option maxRecDepth 100000 in
theorem tw_814 : Cond.methodLink RX8 86 yX1_frightOf ∈ gTs := g_word (i := 814) (by decide +kernel) rfl
set_option maxRecDepth 100000 in
theorem tw_815 : Cond.methodLink RX8 90 yX1_wageOf ∈ gTs := g_word (i := 815) (by decide +kernel) rfl
set_option maxRecDepth 100000 in
theorem tw_816 : Cond.instanceMethod yX1_wageOf ∈ gTs := g_word (i := 816) (by decide +kernel) rfl
set_option maxRecDepth 100000 in
theorem tw_817 : Cond.selects RX1 yX1_wageOf yX1_wageOf ∈ gTs := g_word (i := 817) (by decide +kernel) rfl
set_option maxRecDepth 100000 in
theorem tw_818 : Cond.code yX1_wageOf cX1_wageOf 5 (some .int) ∈ gTs := g_word (i := 818) (by rfl) rfl
set_option maxRecDepth 100000 in
theorem tw_831 : Cond.methodLink RX9 205 yX9_areSleepers ∈ gTs := g_word (i := 831) (by decide +kernel) rfl
set_option maxRecDepth 100000 in
theorem tw_833 : Cond.instanceMethod yX9_areSleepers ∈ gTs := g_word (i := 833) (by decide +kernel) rfl
set_option maxRecDepth 100000 in
theorem tw_834 : Cond.code yX9_areSleepers cX9_areSleepers 2 (some .boolean) ∈ gTs := g_word (i := 834) (by rfl) rfl
set_option maxRecDepth 100000 in
theorem tw_835 : Cond.methodLink RX9 208 yX0_fill ∈ gTs := g_word (i := 835) (by decide +kernel) rfl
set_option maxRecDepth 100000 in
theorem tw_836 : Cond.instanceMethod yX0_fill ∈ gTs := g_word (i := 836) (by decide +kernel) rfl
set_option maxRecDepth 100000 in
theorem tw_837 : Cond.selects RX0 yX0_fill yX0_fill ∈ gTs := g_word (i := 837) (by decide +kernel) rfl
set_option maxRecDepth 100000 in
theorem tw_838 : Cond.code yX0_fill cX0_fill 4 none ∈ gTs := g_word (i := 838) (by rfl) rfl
set_option maxRecDepth 100000 in
theorem tw_839 : Cond.methodLink RX0 34 yX0_fewest ∈ gTs := g_word (i := 839) (by decide +kernel) rfl
set_option maxRecDepth 100000 in
theorem tw_840 : Cond.instanceMethod yX0_fewest ∈ gTs := g_word (i := 840) (by decide +kernel) rfl
set_option maxRecDepth 100000 in
theorem tw_841 : Cond.selects RX0 yX0_fewest yX0_fewest ∈ gTs := g_word (i := 841) (by decide +kernel) rfl
set_option maxRecDepth 100000 in
theorem tw_842 : Cond.code yX0_fewest cX0_fewest 3 (some .int) ∈ gTs := g_word (i := 842) (by rfl) rfl
set_option maxRecDepth 100000 in
theorem tw_843 : Cond.methodLink RX0 38 yX2_hasGhost ∈ gTs := g_word (i := 843) (by decide +kernel) rfl
set_option maxRecDepth 100000 in
theorem tw_844 : Cond.methodLink RX0 47 yX0_useGhost ∈ gTs := g_word (i := 844) (by decide +kernel) rfl
set_option maxRecDepth 100000 in
theorem tw_846 : Cond.instanceMethod yX0_useGhost ∈ gTs := g_word (i := 846) (by decide +kernel) rfl
set_option maxRecDepth 100000 in
theorem tw_847 : Cond.code yX0_useGhost cX0_useGhost 6 none ∈ gTs := g_word (i := 847) (by rfl) rfl
set_option maxRecDepth 100000 in
theorem tw_848 : Cond.methodLink RX0 51 yX1_frightenedBy ∈ gTs := g_word (i := 848) (by decide +kernel) rfl
set_option maxRecDepth 100000 in
theorem tw_849 : Cond.instanceMethod yX1_frightenedBy ∈ gTs := g_word (i := 849) (by decide +kernel) rfl
set_option maxRecDepth 100000 in
theorem tw_850 : Cond.selects RX1 yX1_frightenedBy yX1_frightenedBy ∈ gTs := g_word (i := 850) (by decide +kernel) rfl
set_option maxRecDepth 100000 in
theorem tw_851 : Cond.code yX1_frightenedBy cX1_frightenedBy 8 (some .int) ∈ gTs := g_word (i := 851) (by rfl) rfl
set_option maxRecDepth 100000 in
theorem tw_852 : Cond.methodLink RX1 68 yX1_frightOf ∈ gTs := g_word (i := 852) (by decide +kernel) rfl
set_option maxRecDepth 100000 in
theorem tw_853 : Cond.methodLink RX0 57 yX1_within ∈ gTs := g_word (i := 853) (by decide +kernel) rfl
set_option maxRecDepth 100000 in
theorem tw_854 : Cond.instanceMethod yX1_within ∈ gTs := g_word (i := 854) (by decide +kernel) rfl
set_option maxRecDepth 100000 in
theorem tw_855 : Cond.selects RX1 yX1_within yX1_within ∈ gTs := g_word (i := 855) (by decide +kernel) rfl
set_option maxRecDepth 100000 in
theorem tw_856 : Cond.code yX1_within cX1_within 7 (some .int) ∈ gTs := g_word (i := 856) (by rfl) rfl
set_option maxRecDepth 100000 in
theorem tw_857 : Cond.methodLink RX0 61 yX0_useWalk ∈ gTs := g_word (i := 857) (by decide +kernel) rfl
set_option maxRecDepth 100000 in
theorem tw_859 : Cond.instanceMethod yX0_useWalk ∈ gTs := g_word (i := 859) (by decide +kernel) rfl
set_option maxRecDepth 100000 in
theorem tw_860 : Cond.code yX0_useWalk cX0_useWalk 8 none ∈ gTs := g_word (i := 860) (by rfl) rfl
set_option maxRecDepth 100000 in
theorem tw_861 : Cond.methodLink RX9 211 yX0_isFound ∈ gTs := g_word (i := 861) (by decide +kernel) rfl
set_option maxRecDepth 100000 in
theorem tw_862 : Cond.instanceMethod yX0_isFound ∈ gTs := g_word (i := 862) (by decide +kernel) rfl
set_option maxRecDepth 100000 in
theorem tw_863 : Cond.selects RX0 yX0_isFound yX0_isFound ∈ gTs := g_word (i := 863) (by decide +kernel) rfl
set_option maxRecDepth 100000 in
theorem tw_864 : Cond.code yX0_isFound cX0_isFound 1 (some .boolean) ∈ gTs := g_word (i := 864) (by rfl) rfl
set_option maxRecDepth 100000 in
theorem tw_865 : Cond.methodLink RX9 214 yX0_fewest ∈ gTs := g_word (i := 865) (by decide +kernel) rfl
set_option maxRecDepth 100000 in
theorem tw_866 : Cond.methodLink RX9 218 yX0_walkOf ∈ gTs := g_word (i := 866) (by decide +kernel) rfl
set_option maxRecDepth 100000 in
theorem tw_867 : Cond.instanceMethod yX0_walkOf ∈ gTs := g_word (i := 867) (by decide +kernel) rfl
set_option maxRecDepth 100000 in
theorem tw_868 : Cond.selects RX0 yX0_walkOf yX0_walkOf ∈ gTs := g_word (i := 868) (by decide +kernel) rfl
set_option maxRecDepth 100000 in
theorem tw_869 : Cond.code yX0_walkOf cX0_walkOf 5 (some .int) ∈ gTs := g_word (i := 869) (by rfl) rfl
set_option maxRecDepth 100000 in
theorem tw_870 : Cond.methodLink RX0 65 yX0_leastWalk ∈ gTs := g_word (i := 870) (by decide +kernel) rfl
set_option maxRecDepth 100000 in
theorem tw_872 : Cond.instanceMethod yX0_leastWalk ∈ gTs := g_word (i := 872) (by decide +kernel) rfl
set_option maxRecDepth 100000 in
theorem tw_873 : Cond.code yX0_leastWalk cX0_leastWalk 5 (some .int) ∈ gTs := g_word (i := 873) (by rfl) rfl
set_option maxRecDepth 100000 in
theorem tw_878 : Cond.methodLink RX9 222 yX7_isListed ∈ gTs := g_word (i := 878) (by decide +kernel) rfl
set_option maxRecDepth 100000 in
theorem tw_879 : Cond.instanceMethod yX7_isListed ∈ gTs := g_word (i := 879) (by decide +kernel) rfl
set_option maxRecDepth 100000 in
theorem tw_880 : Cond.selects RX7 yX7_isListed yX7_isListed ∈ gTs := g_word (i := 880) (by decide +kernel) rfl
set_option maxRecDepth 100000 in
theorem tw_881 : Cond.code yX7_isListed cX7_isListed 3 (some .boolean) ∈ gTs := g_word (i := 881) (by rfl) rfl
set_option maxRecDepth 100000 in
theorem tw_882 : Cond.methodLink RX9 225 yX1_frightOfAll ∈ gTs := g_word (i := 882) (by decide +kernel) rfl
set_option maxRecDepth 100000 in
theorem tw_883 : Cond.instanceMethod yX1_frightOfAll ∈ gTs := g_word (i := 883) (by decide +kernel) rfl
set_option maxRecDepth 100000 in
theorem tw_884 : Cond.selects RX1 yX1_frightOfAll yX1_frightOfAll ∈ gTs := g_word (i := 884) (by decide +kernel) rfl
set_option maxRecDepth 100000 in
theorem tw_885 : Cond.code yX1_frightOfAll cX1_frightOfAll 7 (some .int) ∈ gTs := g_word (i := 885) (by rfl) rfl
set_option maxRecDepth 100000 in
theorem tw_886 : Cond.methodLink RX1 64 yX2_hasSleeper ∈ gTs := g_word (i := 886) (by decide +kernel) rfl
set_option maxRecDepth 100000 in
theorem tw_887 : Cond.methodLink RX1 72 yJ9_max_7cf53 ∈ gTs := g_word (i := 887) (by decide +kernel) rfl
set_option maxRecDepth 100000 in
theorem tw_892 : Cond.methodLink RX9 232 yX1_frightenedBy ∈ gTs := g_word (i := 892) (by decide +kernel) rfl
set_option maxRecDepth 100000 in
theorem tw_893 : Cond.methodLink RX9 236 yX1_within ∈ gTs := g_word (i := 893) (by decide +kernel) rfl
set_option maxRecDepth 100000 in
theorem tw_902 : Cond.methodLink RX9 239 yX9_gainByMending ∈ gTs := g_word (i := 902) (by decide +kernel) rfl
set_option maxRecDepth 100000 in
theorem tw_904 : Cond.instanceMethod yX9_gainByMending ∈ gTs := g_word (i := 904) (by decide +kernel) rfl
set_option maxRecDepth 100000 in
theorem tw_905 : Cond.code yX9_gainByMending cX9_gainByMending 4 (some .int) ∈ gTs := g_word (i := 905) (by rfl) rfl
set_option maxRecDepth 100000 in
theorem tw_906 : Cond.constant RX9 242 (-100000) ∈ gTs := g_word (i := 906) (by decide +kernel) rfl
set_option maxRecDepth 100000 in
theorem tw_915 : Cond.methodLink RX9 246 yX9_weighChains ∈ gTs := g_word (i := 915) (by decide +kernel) rfl
set_option maxRecDepth 100000 in
theorem tw_917 : Cond.instanceMethod yX9_weighChains ∈ gTs := g_word (i := 917) (by decide +kernel) rfl
set_option maxRecDepth 100000 in
theorem tw_918 : Cond.code yX9_weighChains cX9_weighChains 6 (some .int) ∈ gTs := g_word (i := 918) (by rfl) rfl
set_option maxRecDepth 100000 in
theorem tw_919 : Cond.methodLink RX9 281 yJ7_fill_53178 ∈ gTs := g_word (i := 919) (by decide +kernel) rfl
set_option maxRecDepth 100000 in
theorem tw_920 : Cond.methodLink RX9 249 yX9_dearest ∈ gTs := g_word (i := 920) (by decide +kernel) rfl
set_option maxRecDepth 100000 in
theorem tw_922 : Cond.instanceMethod yX9_dearest ∈ gTs := g_word (i := 922) (by decide +kernel) rfl
set_option maxRecDepth 100000 in
theorem tw_923 : Cond.code yX9_dearest cX9_dearest 3 (some .int) ∈ gTs := g_word (i := 923) (by rfl) rfl
set_option maxRecDepth 100000 in
theorem tw_928 : Cond.methodLink RX9 253 yX7_coldOf ∈ gTs := g_word (i := 928) (by decide +kernel) rfl
set_option maxRecDepth 100000 in
theorem tw_929 : Cond.instanceMethod yX7_coldOf ∈ gTs := g_word (i := 929) (by decide +kernel) rfl
set_option maxRecDepth 100000 in
theorem tw_930 : Cond.selects RX7 yX7_coldOf yX7_coldOf ∈ gTs := g_word (i := 930) (by decide +kernel) rfl
set_option maxRecDepth 100000 in
theorem tw_931 : Cond.code yX7_coldOf cX7_coldOf 7 (some .int) ∈ gTs := g_word (i := 931) (by rfl) rfl
set_option maxRecDepth 100000 in
theorem tw_932 : Cond.methodLink RX9 260 yX1_worthOf ∈ gTs := g_word (i := 932) (by decide +kernel) rfl
set_option maxRecDepth 100000 in
theorem tw_933 : Cond.instanceMethod yX1_worthOf ∈ gTs := g_word (i := 933) (by decide +kernel) rfl
set_option maxRecDepth 100000 in
theorem tw_934 : Cond.selects RX1 yX1_worthOf yX1_worthOf ∈ gTs := g_word (i := 934) (by decide +kernel) rfl
set_option maxRecDepth 100000 in
theorem tw_935 : Cond.code yX1_worthOf cX1_worthOf 4 (some .int) ∈ gTs := g_word (i := 935) (by rfl) rfl
set_option maxRecDepth 100000 in
theorem tw_936 : Cond.methodLink RX9 263 yX5_fill ∈ gTs := g_word (i := 936) (by decide +kernel) rfl
set_option maxRecDepth 100000 in
theorem tw_937 : Cond.instanceMethod yX5_fill ∈ gTs := g_word (i := 937) (by decide +kernel) rfl
set_option maxRecDepth 100000 in
theorem tw_938 : Cond.selects RX5 yX5_fill yX5_fill ∈ gTs := g_word (i := 938) (by decide +kernel) rfl
set_option maxRecDepth 100000 in
theorem tw_939 : Cond.code yX5_fill cX5_fill 5 none ∈ gTs := g_word (i := 939) (by rfl) rfl
set_option maxRecDepth 100000 in
theorem tw_940 : Cond.methodLink RX5 22 yJ6_bitCount_0f7a4 ∈ gTs := g_word (i := 940) (by decide +kernel) rfl
set_option maxRecDepth 100000 in
theorem tw_941 : Cond.static yJ6_bitCount_0f7a4 ∈ gTs := g_word (i := 941) (by decide +kernel) rfl
set_option maxRecDepth 100000 in
theorem tw_942 : Cond.code yJ6_bitCount_0f7a4 cJ6_bitCount_0f7a4 1 (some .int) ∈ gTs := g_word (i := 942) (by rfl) rfl
set_option maxRecDepth 100000 in
theorem tw_943 : Cond.constant RJ6 265 (1431655765) ∈ gTs := g_word (i := 943) (by decide +kernel) rfl
set_option maxRecDepth 100000 in
theorem tw_944 : Cond.constant RJ6 266 (858993459) ∈ gTs := g_word (i := 944) (by decide +kernel) rfl
set_option maxRecDepth 100000 in
theorem tw_945 : Cond.constant RJ6 267 (252645135) ∈ gTs := g_word (i := 945) (by decide +kernel) rfl
set_option maxRecDepth 100000 in
theorem tw_946 : Cond.methodLink RX5 28 yX5_bestRoom ∈ gTs := g_word (i := 946) (by decide +kernel) rfl
set_option maxRecDepth 100000 in
theorem tw_948 : Cond.instanceMethod yX5_bestRoom ∈ gTs := g_word (i := 948) (by decide +kernel) rfl
set_option maxRecDepth 100000 in
theorem tw_949 : Cond.code yX5_bestRoom cX5_bestRoom 7 (some .int) ∈ gTs := g_word (i := 949) (by rfl) rfl
set_option maxRecDepth 100000 in
theorem tw_950 : Cond.methodLink RX9 264 yX5_most ∈ gTs := g_word (i := 950) (by decide +kernel) rfl
set_option maxRecDepth 100000 in
theorem tw_951 : Cond.instanceMethod yX5_most ∈ gTs := g_word (i := 951) (by decide +kernel) rfl
set_option maxRecDepth 100000 in
theorem tw_952 : Cond.selects RX5 yX5_most yX5_most ∈ gTs := g_word (i := 952) (by decide +kernel) rfl
set_option maxRecDepth 100000 in
theorem tw_953 : Cond.code yX5_most cX5_most 1 (some .int) ∈ gTs := g_word (i := 953) (by rfl) rfl
set_option maxRecDepth 100000 in
theorem tw_954 : Cond.methodLink RX9 267 yX5_roomOf ∈ gTs := g_word (i := 954) (by decide +kernel) rfl
set_option maxRecDepth 100000 in
theorem tw_955 : Cond.instanceMethod yX5_roomOf ∈ gTs := g_word (i := 955) (by decide +kernel) rfl
set_option maxRecDepth 100000 in
theorem tw_956 : Cond.selects RX5 yX5_roomOf yX5_roomOf ∈ gTs := g_word (i := 956) (by decide +kernel) rfl
set_option maxRecDepth 100000 in
theorem tw_957 : Cond.code yX5_roomOf cX5_roomOf 4 (some .int) ∈ gTs := g_word (i := 957) (by rfl) rfl
set_option maxRecDepth 100000 in
theorem tw_962 : Cond.methodLink RX9 273 yJ6_bitCount_0f7a4 ∈ gTs := g_word (i := 962) (by decide +kernel) rfl
set_option maxRecDepth 100000 in
theorem tw_963 : Cond.methodLink RX9 278 yX2_rankOf ∈ gTs := g_word (i := 963) (by decide +kernel) rfl
set_option maxRecDepth 100000 in
theorem tw_964 : Cond.instanceMethod yX2_rankOf ∈ gTs := g_word (i := 964) (by decide +kernel) rfl
set_option maxRecDepth 100000 in
theorem tw_965 : Cond.selects RX2 yX2_rankOf yX2_rankOf ∈ gTs := g_word (i := 965) (by decide +kernel) rfl
set_option maxRecDepth 100000 in
theorem tw_966 : Cond.code yX2_rankOf cX2_rankOf 2 (some .int) ∈ gTs := g_word (i := 966) (by rfl) rfl
set_option maxRecDepth 100000 in
theorem tw_967 : Cond.methodLink RX2 49 yJ6_bitCount_0f7a4 ∈ gTs := g_word (i := 967) (by decide +kernel) rfl
set_option maxRecDepth 100000 in
theorem tw_968 : Cond.methodLink RX9 286 yX9_nextOff ∈ gTs := g_word (i := 968) (by decide +kernel) rfl
set_option maxRecDepth 100000 in
theorem tw_970 : Cond.instanceMethod yX9_nextOff ∈ gTs := g_word (i := 970) (by decide +kernel) rfl
set_option maxRecDepth 100000 in
theorem tw_971 : Cond.code yX9_nextOff cX9_nextOff 5 (some .int) ∈ gTs := g_word (i := 971) (by rfl) rfl
set_option maxRecDepth 100000 in
theorem tw_976 : Cond.methodLink RX9 289 yX9_isSettled ∈ gTs := g_word (i := 976) (by decide +kernel) rfl
set_option maxRecDepth 100000 in
theorem tw_977 : Cond.static yX9_isSettled ∈ gTs := g_word (i := 977) (by decide +kernel) rfl
set_option maxRecDepth 100000 in
theorem tw_978 : Cond.code yX9_isSettled cX9_isSettled 7 (some .boolean) ∈ gTs := g_word (i := 978) (by rfl) rfl
set_option maxRecDepth 100000 in
theorem tw_979 : Cond.methodLink RX9 316 yX9_gainOfFirst ∈ gTs := g_word (i := 979) (by decide +kernel) rfl
set_option maxRecDepth 100000 in
theorem tw_980 : Cond.static yX9_gainOfFirst ∈ gTs := g_word (i := 980) (by decide +kernel) rfl
set_option maxRecDepth 100000 in
theorem tw_981 : Cond.code yX9_gainOfFirst cX9_gainOfFirst 3 (some .int) ∈ gTs := g_word (i := 981) (by rfl) rfl
set_option maxRecDepth 100000 in
theorem tw_982 : Cond.methodLink RX9 319 yX9_gainOfSecond ∈ gTs := g_word (i := 982) (by decide +kernel) rfl
set_option maxRecDepth 100000 in
theorem tw_983 : Cond.static yX9_gainOfSecond ∈ gTs := g_word (i := 983) (by decide +kernel) rfl
set_option maxRecDepth 100000 in
theorem tw_984 : Cond.code yX9_gainOfSecond cX9_gainOfSecond 3 (some .int) ∈ gTs := g_word (i := 984) (by rfl) rfl
set_option maxRecDepth 100000 in
theorem tw_989 : Cond.methodLink RX9 293 yX8_oddsOf ∈ gTs := g_word (i := 989) (by decide +kernel) rfl
set_option maxRecDepth 100000 in
theorem tw_990 : Cond.instanceMethod yX8_oddsOf ∈ gTs := g_word (i := 990) (by decide +kernel) rfl
set_option maxRecDepth 100000 in
theorem tw_991 : Cond.selects RX8 yX8_oddsOf yX8_oddsOf ∈ gTs := g_word (i := 991) (by decide +kernel) rfl
set_option maxRecDepth 100000 in
theorem tw_992 : Cond.code yX8_oddsOf cX8_oddsOf 10 (some .int) ∈ gTs := g_word (i := 992) (by rfl) rfl
set_option maxRecDepth 100000 in
theorem tw_993 : Cond.methodLink RX8 99 yX8_reduced ∈ gTs := g_word (i := 993) (by decide +kernel) rfl
set_option maxRecDepth 100000 in
theorem tw_994 : Cond.static yX8_reduced ∈ gTs := g_word (i := 994) (by decide +kernel) rfl
set_option maxRecDepth 100000 in
theorem tw_995 : Cond.code yX8_reduced cX8_reduced 7 (some .int) ∈ gTs := g_word (i := 995) (by rfl) rfl
set_option maxRecDepth 100000 in
theorem tw_1000 : Cond.constant RX9 296 (65535) ∈ gTs := g_word (i := 1000) (by decide +kernel) rfl
set_option maxRecDepth 100000 in
theorem tw_1005 : Cond.methodLink RX9 297 yX2_copy ∈ gTs := g_word (i := 1005) (by decide +kernel) rfl
set_option maxRecDepth 100000 in
theorem tw_1006 : Cond.instanceMethod yX2_copy ∈ gTs := g_word (i := 1006) (by decide +kernel) rfl
set_option maxRecDepth 100000 in
theorem tw_1007 : Cond.selects RX2 yX2_copy yX2_copy ∈ gTs := g_word (i := 1007) (by decide +kernel) rfl
set_option maxRecDepth 100000 in
theorem tw_1008 : Cond.code yX2_copy cX2_copy 2 none ∈ gTs := g_word (i := 1008) (by rfl) rfl
set_option maxRecDepth 100000 in
theorem tw_1009 : Cond.methodLink RX2 59 arraycopyName ∈ gTs := g_word (i := 1009) (by decide +kernel) rfl
set_option maxRecDepth 100000 in
theorem tw_1018 : Cond.methodLink RX9 304 yX6_numberAt ∈ gTs := g_word (i := 1018) (by decide +kernel) rfl
set_option maxRecDepth 100000 in
theorem tw_1019 : Cond.instanceMethod yX6_numberAt ∈ gTs := g_word (i := 1019) (by decide +kernel) rfl
set_option maxRecDepth 100000 in
theorem tw_1020 : Cond.selects RX6 yX6_numberAt yX6_numberAt ∈ gTs := g_word (i := 1020) (by decide +kernel) rfl
set_option maxRecDepth 100000 in
theorem tw_1021 : Cond.code yX6_numberAt cX6_numberAt 2 (some .int) ∈ gTs := g_word (i := 1021) (by rfl) rfl
set_option maxRecDepth 100000 in
theorem tw_1026 : Cond.methodLink RX9 307 yX9_countInHouse ∈ gTs := g_word (i := 1026) (by decide +kernel) rfl
set_option maxRecDepth 100000 in
theorem tw_1028 : Cond.instanceMethod yX9_countInHouse ∈ gTs := g_word (i := 1028) (by decide +kernel) rfl
set_option maxRecDepth 100000 in
theorem tw_1029 : Cond.code yX9_countInHouse cX9_countInHouse 3 (some .int) ∈ gTs := g_word (i := 1029) (by rfl) rfl
set_option maxRecDepth 100000 in
theorem tw_1037 : Cond.fieldLink RX10 154 RX10 (TX10 0).2.1 (TX10 0).2.2.1 ∈ gTs := g_word (i := 1037) (by decide +kernel) rfl
set_option maxRecDepth 100000 in
theorem tw_1038 : Cond.fieldLink RX10 158 RX10 (TX10 1).2.1 (TX10 1).2.2.1 ∈ gTs := g_word (i := 1038) (by decide +kernel) rfl
set_option maxRecDepth 100000 in
theorem tw_1039 : Cond.fieldLink RX10 182 RX10 (TX10 2).2.1 (TX10 2).2.2.1 ∈ gTs := g_word (i := 1039) (by decide +kernel) rfl
set_option maxRecDepth 100000 in
theorem tw_1040 : Cond.fieldLink RX10 161 RX10 (TX10 3).2.1 (TX10 3).2.2.1 ∈ gTs := g_word (i := 1040) (by decide +kernel) rfl
set_option maxRecDepth 100000 in
theorem tw_1041 : Cond.fieldLink RX10 168 RX10 (TX10 4).2.1 (TX10 4).2.2.1 ∈ gTs := g_word (i := 1041) (by decide +kernel) rfl
set_option maxRecDepth 100000 in
theorem tw_1042 : Cond.fieldLink RX10 7 RX10 (TX10 5).2.1 (TX10 5).2.2.1 ∈ gTs := g_word (i := 1042) (by decide +kernel) rfl
set_option maxRecDepth 100000 in
theorem tw_1043 : Cond.fieldLink RX10 13 RX10 (TX10 6).2.1 (TX10 6).2.2.1 ∈ gTs := g_word (i := 1043) (by decide +kernel) rfl
set_option maxRecDepth 100000 in
theorem tw_1044 : Cond.fieldLink RX10 16 RX10 (TX10 7).2.1 (TX10 7).2.2.1 ∈ gTs := g_word (i := 1044) (by decide +kernel) rfl
set_option maxRecDepth 100000 in
theorem tw_1045 : Cond.fieldLink RX10 19 RX10 (TX10 8).2.1 (TX10 8).2.2.1 ∈ gTs := g_word (i := 1045) (by decide +kernel) rfl
set_option maxRecDepth 100000 in
theorem tw_1046 : Cond.fieldLink RX10 22 RX10 (TX10 9).2.1 (TX10 9).2.2.1 ∈ gTs := g_word (i := 1046) (by decide +kernel) rfl
set_option maxRecDepth 100000 in
theorem tw_1047 : Cond.fieldLink RX10 25 RX10 (TX10 10).2.1 (TX10 10).2.2.1 ∈ gTs := g_word (i := 1047) (by decide +kernel) rfl
set_option maxRecDepth 100000 in
theorem tw_1048 : Cond.fieldLink RX10 28 RX10 (TX10 11).2.1 (TX10 11).2.2.1 ∈ gTs := g_word (i := 1048) (by decide +kernel) rfl
set_option maxRecDepth 100000 in
theorem tw_1049 : Cond.fieldLink RX10 31 RX10 (TX10 12).2.1 (TX10 12).2.2.1 ∈ gTs := g_word (i := 1049) (by decide +kernel) rfl
set_option maxRecDepth 100000 in
theorem tw_1050 : Cond.fieldLink RX10 34 RX10 (TX10 13).2.1 (TX10 13).2.2.1 ∈ gTs := g_word (i := 1050) (by decide +kernel) rfl
set_option maxRecDepth 100000 in
theorem tw_1051 : Cond.fieldLink RX10 188 RX10 (TX10 14).2.1 (TX10 14).2.2.1 ∈ gTs := g_word (i := 1051) (by decide +kernel) rfl
set_option maxRecDepth 100000 in
theorem tw_1052 : Cond.fieldLink RX10 203 RX10 (TX10 15).2.1 (TX10 15).2.2.1 ∈ gTs := g_word (i := 1052) (by decide +kernel) rfl
set_option maxRecDepth 100000 in
theorem tw_1053 : Cond.fieldLink RX10 224 RX10 (TX10 16).2.1 (TX10 16).2.2.1 ∈ gTs := g_word (i := 1053) (by decide +kernel) rfl
set_option maxRecDepth 100000 in
theorem tw_1054 : Cond.fieldLink RX10 230 RX10 (TX10 17).2.1 (TX10 17).2.2.1 ∈ gTs := g_word (i := 1054) (by decide +kernel) rfl
set_option maxRecDepth 100000 in
theorem tw_1055 : Cond.fieldLink RX10 209 RX10 (TX10 18).2.1 (TX10 18).2.2.1 ∈ gTs := g_word (i := 1055) (by decide +kernel) rfl
set_option maxRecDepth 100000 in
theorem tw_1056 : Cond.fieldLink RX10 233 RX10 (TX10 19).2.1 (TX10 19).2.2.1 ∈ gTs := g_word (i := 1056) (by decide +kernel) rfl
set_option maxRecDepth 100000 in
theorem tw_1057 : Cond.fieldLink RX10 212 RX10 (TX10 20).2.1 (TX10 20).2.2.1 ∈ gTs := g_word (i := 1057) (by decide +kernel) rfl
set_option maxRecDepth 100000 in
theorem tw_1058 : Cond.fieldLink RX10 38 RX10 (TX10 21).2.1 (TX10 21).2.2.1 ∈ gTs := g_word (i := 1058) (by decide +kernel) rfl
set_option maxRecDepth 100000 in
theorem tw_1059 : Cond.fieldLink RX10 41 RX10 (TX10 22).2.1 (TX10 22).2.2.1 ∈ gTs := g_word (i := 1059) (by decide +kernel) rfl
set_option maxRecDepth 100000 in
theorem tw_1060 : Cond.fieldLink RX10 44 RX10 (TX10 23).2.1 (TX10 23).2.2.1 ∈ gTs := g_word (i := 1060) (by decide +kernel) rfl
set_option maxRecDepth 100000 in
theorem tw_1061 : Cond.fieldLink RX10 47 RX10 (TX10 24).2.1 (TX10 24).2.2.1 ∈ gTs := g_word (i := 1061) (by decide +kernel) rfl
set_option maxRecDepth 100000 in
theorem tw_1062 : Cond.fieldLink RX10 50 RX10 (TX10 25).2.1 (TX10 25).2.2.1 ∈ gTs := g_word (i := 1062) (by decide +kernel) rfl
set_option maxRecDepth 100000 in
theorem tw_1063 : Cond.fieldLink RX10 53 RX10 (TX10 26).2.1 (TX10 26).2.2.1 ∈ gTs := g_word (i := 1063) (by decide +kernel) rfl
set_option maxRecDepth 100000 in
theorem tw_1064 : Cond.fieldLink RX10 56 RX10 (TX10 27).2.1 (TX10 27).2.2.1 ∈ gTs := g_word (i := 1064) (by decide +kernel) rfl
set_option maxRecDepth 100000 in
theorem tw_1065 : Cond.fieldLink RX10 60 RX10 (TX10 28).2.1 (TX10 28).2.2.1 ∈ gTs := g_word (i := 1065) (by decide +kernel) rfl
set_option maxRecDepth 100000 in
theorem tw_1066 : Cond.fieldLink RX10 246 RX10 (TX10 29).2.1 (TX10 29).2.2.1 ∈ gTs := g_word (i := 1066) (by decide +kernel) rfl
set_option maxRecDepth 100000 in
theorem tw_1067 : Cond.fieldLink RX10 242 RX10 (TX10 30).2.1 (TX10 30).2.2.1 ∈ gTs := g_word (i := 1067) (by decide +kernel) rfl
set_option maxRecDepth 100000 in
theorem tw_1068 : Cond.fieldLink RX10 249 RX10 (TX10 31).2.1 (TX10 31).2.2.1 ∈ gTs := g_word (i := 1068) (by decide +kernel) rfl
set_option maxRecDepth 100000 in
theorem tw_1069 : Cond.fieldLink RX10 300 RX10 (TX10 32).2.1 (TX10 32).2.2.1 ∈ gTs := g_word (i := 1069) (by decide +kernel) rfl
set_option maxRecDepth 100000 in
theorem tw_1070 : Cond.fieldLink RX10 309 RX10 (TX10 33).2.1 (TX10 33).2.2.1 ∈ gTs := g_word (i := 1070) (by decide +kernel) rfl
set_option maxRecDepth 100000 in
theorem tw_1071 : Cond.fieldLink RX10 63 RX10 (TX10 34).2.1 (TX10 34).2.2.1 ∈ gTs := g_word (i := 1071) (by decide +kernel) rfl
set_option maxRecDepth 100000 in
theorem tw_1072 : Cond.fieldLink RX10 66 RX10 (TX10 35).2.1 (TX10 35).2.2.1 ∈ gTs := g_word (i := 1072) (by decide +kernel) rfl
set_option maxRecDepth 100000 in
theorem tw_1073 : Cond.fieldLink RX10 69 RX10 (TX10 36).2.1 (TX10 36).2.2.1 ∈ gTs := g_word (i := 1073) (by decide +kernel) rfl
set_option maxRecDepth 100000 in
theorem tw_1074 : Cond.fieldLink RX10 72 RX10 (TX10 37).2.1 (TX10 37).2.2.1 ∈ gTs := g_word (i := 1074) (by decide +kernel) rfl
set_option maxRecDepth 100000 in
theorem tw_1075 : Cond.fieldLink RX10 75 RX10 (TX10 38).2.1 (TX10 38).2.2.1 ∈ gTs := g_word (i := 1075) (by decide +kernel) rfl
set_option maxRecDepth 100000 in
theorem tw_1076 : Cond.fieldLink RX10 78 RX10 (TX10 39).2.1 (TX10 39).2.2.1 ∈ gTs := g_word (i := 1076) (by decide +kernel) rfl
set_option maxRecDepth 100000 in
theorem tw_1077 : Cond.fieldLink RX10 81 RX10 (TX10 40).2.1 (TX10 40).2.2.1 ∈ gTs := g_word (i := 1077) (by decide +kernel) rfl
set_option maxRecDepth 100000 in
theorem tw_1078 : Cond.fieldLink RX10 84 RX10 (TX10 41).2.1 (TX10 41).2.2.1 ∈ gTs := g_word (i := 1078) (by decide +kernel) rfl
set_option maxRecDepth 100000 in
theorem tw_1079 : Cond.fieldLink RX10 87 RX10 (TX10 42).2.1 (TX10 42).2.2.1 ∈ gTs := g_word (i := 1079) (by decide +kernel) rfl
set_option maxRecDepth 100000 in
theorem tw_1080 : Cond.fieldLink RX10 90 RX10 (TX10 43).2.1 (TX10 43).2.2.1 ∈ gTs := g_word (i := 1080) (by decide +kernel) rfl
set_option maxRecDepth 100000 in
theorem tw_1081 : Cond.fieldLink RX10 93 RX10 (TX10 44).2.1 (TX10 44).2.2.1 ∈ gTs := g_word (i := 1081) (by decide +kernel) rfl
set_option maxRecDepth 100000 in
theorem tw_1082 : Cond.fieldLink RX10 96 RX10 (TX10 45).2.1 (TX10 45).2.2.1 ∈ gTs := g_word (i := 1082) (by decide +kernel) rfl
set_option maxRecDepth 100000 in
theorem tw_1083 : Cond.fieldLink RX10 99 RX10 (TX10 46).2.1 (TX10 46).2.2.1 ∈ gTs := g_word (i := 1083) (by decide +kernel) rfl
set_option maxRecDepth 100000 in
theorem tw_1084 : Cond.fieldLink RX10 102 RX10 (TX10 47).2.1 (TX10 47).2.2.1 ∈ gTs := g_word (i := 1084) (by decide +kernel) rfl
set_option maxRecDepth 100000 in
theorem tw_1085 : Cond.fieldLink RX10 105 RX10 (TX10 48).2.1 (TX10 48).2.2.1 ∈ gTs := g_word (i := 1085) (by decide +kernel) rfl
set_option maxRecDepth 100000 in
theorem tw_1086 : Cond.fieldLink RX10 108 RX10 (TX10 49).2.1 (TX10 49).2.2.1 ∈ gTs := g_word (i := 1086) (by decide +kernel) rfl
set_option maxRecDepth 100000 in
theorem tw_1087 : Cond.fieldLink RX10 111 RX10 (TX10 50).2.1 (TX10 50).2.2.1 ∈ gTs := g_word (i := 1087) (by decide +kernel) rfl
set_option maxRecDepth 100000 in
theorem tw_1088 : Cond.fieldLink RX10 114 RX10 (TX10 51).2.1 (TX10 51).2.2.1 ∈ gTs := g_word (i := 1088) (by decide +kernel) rfl
set_option maxRecDepth 100000 in
theorem tw_1089 : Cond.fieldLink RX10 117 RX10 (TX10 52).2.1 (TX10 52).2.2.1 ∈ gTs := g_word (i := 1089) (by decide +kernel) rfl
set_option maxRecDepth 100000 in
theorem tw_1090 : Cond.fieldLink RX10 121 RX10 (TX10 53).2.1 (TX10 53).2.2.1 ∈ gTs := g_word (i := 1090) (by decide +kernel) rfl
set_option maxRecDepth 100000 in
theorem tw_1091 : Cond.fieldLink RX10 124 RX10 (TX10 54).2.1 (TX10 54).2.2.1 ∈ gTs := g_word (i := 1091) (by decide +kernel) rfl
set_option maxRecDepth 100000 in
theorem tw_1092 : Cond.fieldLink RX10 127 RX10 (TX10 55).2.1 (TX10 55).2.2.1 ∈ gTs := g_word (i := 1092) (by decide +kernel) rfl
set_option maxRecDepth 100000 in
theorem tw_1093 : Cond.fieldLink RX10 416 RX10 (TX10 56).2.1 (TX10 56).2.2.1 ∈ gTs := g_word (i := 1093) (by decide +kernel) rfl
set_option maxRecDepth 100000 in
theorem tw_1094 : Cond.fieldLink RX10 420 RX10 (TX10 57).2.1 (TX10 57).2.2.1 ∈ gTs := g_word (i := 1094) (by decide +kernel) rfl
set_option maxRecDepth 100000 in
theorem tw_1095 : Cond.fieldLink RX10 423 RX10 (TX10 58).2.1 (TX10 58).2.2.1 ∈ gTs := g_word (i := 1095) (by decide +kernel) rfl
set_option maxRecDepth 100000 in
theorem tw_1096 : Cond.fieldLink RX10 426 RX10 (TX10 59).2.1 (TX10 59).2.2.1 ∈ gTs := g_word (i := 1096) (by decide +kernel) rfl
set_option maxRecDepth 100000 in
theorem tw_1097 : Cond.fieldLink RX10 429 RX10 (TX10 60).2.1 (TX10 60).2.2.1 ∈ gTs := g_word (i := 1097) (by decide +kernel) rfl
set_option maxRecDepth 100000 in
theorem tw_1098 : Cond.fieldLink RX10 432 RX10 (TX10 61).2.1 (TX10 61).2.2.1 ∈ gTs := g_word (i := 1098) (by decide +kernel) rfl
set_option maxRecDepth 100000 in
theorem tw_1099 : Cond.fieldLink RX10 130 RX10 (TX10 62).2.1 (TX10 62).2.2.1 ∈ gTs := g_word (i := 1099) (by decide +kernel) rfl
set_option maxRecDepth 100000 in
theorem tw_1100 : Cond.fieldLink RX10 133 RX10 (TX10 63).2.1 (TX10 63).2.2.1 ∈ gTs := g_word (i := 1100) (by decide +kernel) rfl
set_option maxRecDepth 100000 in
theorem tw_1101 : Cond.fieldLink RX10 136 RX10 (TX10 64).2.1 (TX10 64).2.2.1 ∈ gTs := g_word (i := 1101) (by decide +kernel) rfl
set_option maxRecDepth 100000 in
theorem tw_1102 : Cond.fieldLink RX10 139 RX10 (TX10 65).2.1 (TX10 65).2.2.1 ∈ gTs := g_word (i := 1102) (by decide +kernel) rfl
set_option maxRecDepth 100000 in
theorem tw_1103 : Cond.fieldLink RX10 142 RX10 (TX10 66).2.1 (TX10 66).2.2.1 ∈ gTs := g_word (i := 1103) (by decide +kernel) rfl
set_option maxRecDepth 100000 in
theorem tw_1104 : Cond.fieldLink RX10 145 RX10 (TX10 67).2.1 (TX10 67).2.2.1 ∈ gTs := g_word (i := 1104) (by decide +kernel) rfl
set_option maxRecDepth 100000 in
theorem tw_1105 : Cond.fieldLink RX10 148 RX10 (TX10 68).2.1 (TX10 68).2.2.1 ∈ gTs := g_word (i := 1105) (by decide +kernel) rfl
set_option maxRecDepth 100000 in
theorem tw_1106 : Cond.fieldLink RX10 151 RX10 (TX10 69).2.1 (TX10 69).2.2.1 ∈ gTs := g_word (i := 1106) (by decide +kernel) rfl
set_option maxRecDepth 100000 in
theorem tw_1253 : Cond.methodLink RX10 171 yX10_isRoom ∈ gTs := g_word (i := 1253) (by decide +kernel) rfl
set_option maxRecDepth 100000 in
theorem tw_1254 : Cond.static yX10_isRoom ∈ gTs := g_word (i := 1254) (by decide +kernel) rfl
set_option maxRecDepth 100000 in
theorem tw_1255 : Cond.code yX10_isRoom cX10_isRoom 1 (some .boolean) ∈ gTs := g_word (i := 1255) (by rfl) rfl
set_option maxRecDepth 100000 in
theorem tw_1256 : Cond.methodLink RX10 175 yX10_in ∈ gTs := g_word (i := 1256) (by decide +kernel) rfl
set_option maxRecDepth 100000 in
theorem tw_1257 : Cond.static yX10_in ∈ gTs := g_word (i := 1257) (by decide +kernel) rfl
set_option maxRecDepth 100000 in
theorem tw_1258 : Cond.code yX10_in cX10_in 3 (some .boolean) ∈ gTs := g_word (i := 1258) (by rfl) rfl
set_option maxRecDepth 100000 in
theorem tw_1263 : Cond.methodLink RX10 179 yX10_isNight ∈ gTs := g_word (i := 1263) (by decide +kernel) rfl
set_option maxRecDepth 100000 in
theorem tw_1264 : Cond.static yX10_isNight ∈ gTs := g_word (i := 1264) (by decide +kernel) rfl
set_option maxRecDepth 100000 in
theorem tw_1265 : Cond.code yX10_isNight cX10_isNight 1 (some .boolean) ∈ gTs := g_word (i := 1265) (by rfl) rfl
set_option maxRecDepth 100000 in
theorem tw_1278 : Cond.methodLink RX10 185 yX10_isSleeper ∈ gTs := g_word (i := 1278) (by decide +kernel) rfl
set_option maxRecDepth 100000 in
theorem tw_1280 : Cond.instanceMethod yX10_isSleeper ∈ gTs := g_word (i := 1280) (by decide +kernel) rfl
set_option maxRecDepth 100000 in
theorem tw_1281 : Cond.code yX10_isSleeper cX10_isSleeper 2 (some .boolean) ∈ gTs := g_word (i := 1281) (by rfl) rfl
set_option maxRecDepth 100000 in
theorem tw_1282 : Cond.methodLink RX10 164 yX10_has ∈ gTs := g_word (i := 1282) (by decide +kernel) rfl
set_option maxRecDepth 100000 in
theorem tw_1283 : Cond.static yX10_has ∈ gTs := g_word (i := 1283) (by decide +kernel) rfl
set_option maxRecDepth 100000 in
theorem tw_1284 : Cond.code yX10_has cX10_has 2 (some .boolean) ∈ gTs := g_word (i := 1284) (by rfl) rfl
set_option maxRecDepth 100000 in
theorem tw_1293 : Cond.methodLink RX10 191 yX10_types ∈ gTs := g_word (i := 1293) (by decide +kernel) rfl
set_option maxRecDepth 100000 in
theorem tw_1295 : Cond.instanceMethod yX10_types ∈ gTs := g_word (i := 1295) (by decide +kernel) rfl
set_option maxRecDepth 100000 in
theorem tw_1296 : Cond.code yX10_types cX10_types 3 none ∈ gTs := g_word (i := 1296) (by rfl) rfl
set_option maxRecDepth 100000 in
theorem tw_1301 : Cond.methodLink RX10 227 yX10_readsWalk ∈ gTs := g_word (i := 1301) (by decide +kernel) rfl
set_option maxRecDepth 100000 in
theorem tw_1303 : Cond.instanceMethod yX10_readsWalk ∈ gTs := g_word (i := 1303) (by decide +kernel) rfl
set_option maxRecDepth 100000 in
theorem tw_1304 : Cond.code yX10_readsWalk cX10_readsWalk 1 (some .boolean) ∈ gTs := g_word (i := 1304) (by rfl) rfl
set_option maxRecDepth 100000 in
theorem tw_1305 : Cond.methodLink RX10 195 yX10_isDigit ∈ gTs := g_word (i := 1305) (by decide +kernel) rfl
set_option maxRecDepth 100000 in
theorem tw_1307 : Cond.instanceMethod yX10_isDigit ∈ gTs := g_word (i := 1307) (by decide +kernel) rfl
set_option maxRecDepth 100000 in
theorem tw_1308 : Cond.code yX10_isDigit cX10_isDigit 1 (some .boolean) ∈ gTs := g_word (i := 1308) (by rfl) rfl
set_option maxRecDepth 100000 in
theorem tw_1309 : Cond.methodLink RX10 199 yX10_here ∈ gTs := g_word (i := 1309) (by decide +kernel) rfl
set_option maxRecDepth 100000 in
theorem tw_1311 : Cond.instanceMethod yX10_here ∈ gTs := g_word (i := 1311) (by decide +kernel) rfl
set_option maxRecDepth 100000 in
theorem tw_1312 : Cond.code yX10_here cX10_here 1 (some .int) ∈ gTs := g_word (i := 1312) (by rfl) rfl
set_option maxRecDepth 100000 in
theorem tw_1313 : Cond.methodLink RX10 206 yX10_wrongAt ∈ gTs := g_word (i := 1313) (by decide +kernel) rfl
set_option maxRecDepth 100000 in
theorem tw_1315 : Cond.instanceMethod yX10_wrongAt ∈ gTs := g_word (i := 1315) (by decide +kernel) rfl
set_option maxRecDepth 100000 in
theorem tw_1316 : Cond.code yX10_wrongAt cX10_wrongAt 3 (some .boolean) ∈ gTs := g_word (i := 1316) (by rfl) rfl
set_option maxRecDepth 100000 in
theorem tw_1317 : Cond.methodLink RX10 215 yX10_readsOne ∈ gTs := g_word (i := 1317) (by decide +kernel) rfl
set_option maxRecDepth 100000 in
theorem tw_1319 : Cond.instanceMethod yX10_readsOne ∈ gTs := g_word (i := 1319) (by decide +kernel) rfl
set_option maxRecDepth 100000 in
theorem tw_1320 : Cond.code yX10_readsOne cX10_readsOne 2 (some .boolean) ∈ gTs := g_word (i := 1320) (by rfl) rfl
set_option maxRecDepth 100000 in
theorem tw_1321 : Cond.methodLink RX10 218 yX10_takes ∈ gTs := g_word (i := 1321) (by decide +kernel) rfl
set_option maxRecDepth 100000 in
theorem tw_1323 : Cond.instanceMethod yX10_takes ∈ gTs := g_word (i := 1323) (by decide +kernel) rfl
set_option maxRecDepth 100000 in
theorem tw_1324 : Cond.code yX10_takes cX10_takes 2 (some .boolean) ∈ gTs := g_word (i := 1324) (by rfl) rfl
set_option maxRecDepth 100000 in
theorem tw_1325 : Cond.methodLink RX10 221 yX10_readsRoom ∈ gTs := g_word (i := 1325) (by decide +kernel) rfl
set_option maxRecDepth 100000 in
theorem tw_1327 : Cond.instanceMethod yX10_readsRoom ∈ gTs := g_word (i := 1327) (by decide +kernel) rfl
set_option maxRecDepth 100000 in
theorem tw_1328 : Cond.code yX10_readsRoom cX10_readsRoom 2 (some .boolean) ∈ gTs := g_word (i := 1328) (by rfl) rfl
set_option maxRecDepth 100000 in
theorem tw_1333 : Cond.methodLink RX10 239 yX10_counts ∈ gTs := g_word (i := 1333) (by decide +kernel) rfl
set_option maxRecDepth 100000 in
theorem tw_1335 : Cond.instanceMethod yX10_counts ∈ gTs := g_word (i := 1335) (by decide +kernel) rfl
set_option maxRecDepth 100000 in
theorem tw_1336 : Cond.code yX10_counts cX10_counts 3 (some .boolean) ∈ gTs := g_word (i := 1336) (by rfl) rfl
set_option maxRecDepth 100000 in
theorem tw_1337 : Cond.methodLink RX10 236 yX10_isGhost ∈ gTs := g_word (i := 1337) (by decide +kernel) rfl
set_option maxRecDepth 100000 in
theorem tw_1339 : Cond.instanceMethod yX10_isGhost ∈ gTs := g_word (i := 1339) (by decide +kernel) rfl
set_option maxRecDepth 100000 in
theorem tw_1340 : Cond.code yX10_isGhost cX10_isGhost 2 (some .boolean) ∈ gTs := g_word (i := 1340) (by rfl) rfl
set_option maxRecDepth 100000 in
theorem tw_1345 : Cond.methodLink RX10 306 yX10_readsClause ∈ gTs := g_word (i := 1345) (by decide +kernel) rfl
set_option maxRecDepth 100000 in
theorem tw_1347 : Cond.instanceMethod yX10_readsClause ∈ gTs := g_word (i := 1347) (by decide +kernel) rfl
set_option maxRecDepth 100000 in
theorem tw_1348 : Cond.code yX10_readsClause cX10_readsClause 2 (some .boolean) ∈ gTs := g_word (i := 1348) (by rfl) rfl
set_option maxRecDepth 100000 in
theorem tw_1349 : Cond.methodLink RX10 297 yX10_isClause ∈ gTs := g_word (i := 1349) (by decide +kernel) rfl
set_option maxRecDepth 100000 in
theorem tw_1350 : Cond.static yX10_isClause ∈ gTs := g_word (i := 1350) (by decide +kernel) rfl
set_option maxRecDepth 100000 in
theorem tw_1351 : Cond.code yX10_isClause cX10_isClause 1 (some .boolean) ∈ gTs := g_word (i := 1351) (by rfl) rfl
set_option maxRecDepth 100000 in
theorem tw_1352 : Cond.methodLink RX10 282 yX10_readsSum ∈ gTs := g_word (i := 1352) (by decide +kernel) rfl
set_option maxRecDepth 100000 in
theorem tw_1354 : Cond.instanceMethod yX10_readsSum ∈ gTs := g_word (i := 1354) (by decide +kernel) rfl
set_option maxRecDepth 100000 in
theorem tw_1355 : Cond.code yX10_readsSum cX10_readsSum 3 (some .boolean) ∈ gTs := g_word (i := 1355) (by rfl) rfl
set_option maxRecDepth 100000 in
theorem tw_1356 : Cond.methodLink RX10 269 yX10_readsFactor ∈ gTs := g_word (i := 1356) (by decide +kernel) rfl
set_option maxRecDepth 100000 in
theorem tw_1358 : Cond.instanceMethod yX10_readsFactor ∈ gTs := g_word (i := 1358) (by decide +kernel) rfl
set_option maxRecDepth 100000 in
theorem tw_1359 : Cond.code yX10_readsFactor cX10_readsFactor 2 (some .boolean) ∈ gTs := g_word (i := 1359) (by rfl) rfl
set_option maxRecDepth 100000 in
theorem tw_1360 : Cond.methodLink RX10 259 yX10_opens ∈ gTs := g_word (i := 1360) (by decide +kernel) rfl
set_option maxRecDepth 100000 in
theorem tw_1362 : Cond.instanceMethod yX10_opens ∈ gTs := g_word (i := 1362) (by decide +kernel) rfl
set_option maxRecDepth 100000 in
theorem tw_1363 : Cond.code yX10_opens cX10_opens 2 (some .boolean) ∈ gTs := g_word (i := 1363) (by rfl) rfl
set_option maxRecDepth 100000 in
theorem tw_1364 : Cond.constant RX10 245 (1048576) ∈ gTs := g_word (i := 1364) (by decide +kernel) rfl
set_option maxRecDepth 100000 in
theorem tw_1365 : Cond.methodLink RX10 262 yX10_readsNumber ∈ gTs := g_word (i := 1365) (by decide +kernel) rfl
set_option maxRecDepth 100000 in
theorem tw_1367 : Cond.instanceMethod yX10_readsNumber ∈ gTs := g_word (i := 1367) (by decide +kernel) rfl
set_option maxRecDepth 100000 in
theorem tw_1368 : Cond.code yX10_readsNumber cX10_readsNumber 2 (some .boolean) ∈ gTs := g_word (i := 1368) (by rfl) rfl
set_option maxRecDepth 100000 in
theorem tw_1369 : Cond.methodLink RX10 255 yX10_notes ∈ gTs := g_word (i := 1369) (by decide +kernel) rfl
set_option maxRecDepth 100000 in
theorem tw_1371 : Cond.instanceMethod yX10_notes ∈ gTs := g_word (i := 1371) (by decide +kernel) rfl
set_option maxRecDepth 100000 in
theorem tw_1372 : Cond.code yX10_notes cX10_notes 3 none ∈ gTs := g_word (i := 1372) (by rfl) rfl
set_option maxRecDepth 100000 in
theorem tw_1373 : Cond.methodLink RX10 265 yX10_factOf ∈ gTs := g_word (i := 1373) (by decide +kernel) rfl
set_option maxRecDepth 100000 in
theorem tw_1374 : Cond.static yX10_factOf ∈ gTs := g_word (i := 1374) (by decide +kernel) rfl
set_option maxRecDepth 100000 in
theorem tw_1375 : Cond.code yX10_factOf cX10_factOf 1 (some .int) ∈ gTs := g_word (i := 1375) (by rfl) rfl
set_option maxRecDepth 100000 in
theorem tw_1376 : Cond.methodLink RX10 272 yX10_sumSign ∈ gTs := g_word (i := 1376) (by decide +kernel) rfl
set_option maxRecDepth 100000 in
theorem tw_1377 : Cond.static yX10_sumSign ∈ gTs := g_word (i := 1377) (by decide +kernel) rfl
set_option maxRecDepth 100000 in
theorem tw_1378 : Cond.code yX10_sumSign cX10_sumSign 1 (some .int) ∈ gTs := g_word (i := 1378) (by rfl) rfl
set_option maxRecDepth 100000 in
theorem tw_1379 : Cond.methodLink RX10 275 yX10_closesSums ∈ gTs := g_word (i := 1379) (by decide +kernel) rfl
set_option maxRecDepth 100000 in
theorem tw_1381 : Cond.instanceMethod yX10_closesSums ∈ gTs := g_word (i := 1381) (by decide +kernel) rfl
set_option maxRecDepth 100000 in
theorem tw_1382 : Cond.code yX10_closesSums cX10_closesSums 2 none ∈ gTs := g_word (i := 1382) (by rfl) rfl
set_option maxRecDepth 100000 in
theorem tw_1383 : Cond.methodLink RX10 252 yX10_waitTop ∈ gTs := g_word (i := 1383) (by decide +kernel) rfl
set_option maxRecDepth 100000 in
theorem tw_1385 : Cond.instanceMethod yX10_waitTop ∈ gTs := g_word (i := 1385) (by decide +kernel) rfl
set_option maxRecDepth 100000 in
theorem tw_1386 : Cond.code yX10_waitTop cX10_waitTop 1 (some .int) ∈ gTs := g_word (i := 1386) (by rfl) rfl
set_option maxRecDepth 100000 in
theorem tw_1387 : Cond.methodLink RX10 279 yX10_hasOpenSum ∈ gTs := g_word (i := 1387) (by decide +kernel) rfl
set_option maxRecDepth 100000 in
theorem tw_1389 : Cond.instanceMethod yX10_hasOpenSum ∈ gTs := g_word (i := 1389) (by decide +kernel) rfl
set_option maxRecDepth 100000 in
theorem tw_1390 : Cond.code yX10_hasOpenSum cX10_hasOpenSum 3 (some .boolean) ∈ gTs := g_word (i := 1390) (by rfl) rfl
set_option maxRecDepth 100000 in
theorem tw_1391 : Cond.methodLink RX10 303 yX10_readsCondition ∈ gTs := g_word (i := 1391) (by decide +kernel) rfl
set_option maxRecDepth 100000 in
theorem tw_1393 : Cond.instanceMethod yX10_readsCondition ∈ gTs := g_word (i := 1393) (by decide +kernel) rfl
set_option maxRecDepth 100000 in
theorem tw_1394 : Cond.code yX10_readsCondition cX10_readsCondition 1 (some .boolean) ∈ gTs := g_word (i := 1394) (by rfl) rfl
set_option maxRecDepth 100000 in
theorem tw_1395 : Cond.methodLink RX10 288 yX10_readsCompared ∈ gTs := g_word (i := 1395) (by decide +kernel) rfl
set_option maxRecDepth 100000 in
theorem tw_1397 : Cond.instanceMethod yX10_readsCompared ∈ gTs := g_word (i := 1397) (by decide +kernel) rfl
set_option maxRecDepth 100000 in
theorem tw_1398 : Cond.code yX10_readsCompared cX10_readsCompared 2 (some .boolean) ∈ gTs := g_word (i := 1398) (by rfl) rfl
set_option maxRecDepth 100000 in
theorem tw_1399 : Cond.methodLink RX10 285 yX10_endsPiece ∈ gTs := g_word (i := 1399) (by decide +kernel) rfl
set_option maxRecDepth 100000 in
theorem tw_1401 : Cond.instanceMethod yX10_endsPiece ∈ gTs := g_word (i := 1401) (by decide +kernel) rfl
set_option maxRecDepth 100000 in
theorem tw_1402 : Cond.code yX10_endsPiece cX10_endsPiece 1 none ∈ gTs := g_word (i := 1402) (by rfl) rfl
set_option maxRecDepth 100000 in
theorem tw_1403 : Cond.methodLink RX10 291 yX10_lands ∈ gTs := g_word (i := 1403) (by decide +kernel) rfl
set_option maxRecDepth 100000 in
theorem tw_1405 : Cond.instanceMethod yX10_lands ∈ gTs := g_word (i := 1405) (by decide +kernel) rfl
set_option maxRecDepth 100000 in
theorem tw_1406 : Cond.code yX10_lands cX10_lands 3 none ∈ gTs := g_word (i := 1406) (by rfl) rfl
set_option maxRecDepth 100000 in
theorem tw_1407 : Cond.methodLink RX10 294 yX10_jumps ∈ gTs := g_word (i := 1407) (by decide +kernel) rfl
set_option maxRecDepth 100000 in
theorem tw_1409 : Cond.instanceMethod yX10_jumps ∈ gTs := g_word (i := 1409) (by decide +kernel) rfl
set_option maxRecDepth 100000 in
theorem tw_1410 : Cond.code yX10_jumps cX10_jumps 2 none ∈ gTs := g_word (i := 1410) (by rfl) rfl
set_option maxRecDepth 100000 in
theorem tw_1415 : Cond.methodLink RX10 336 yX10_frightOf ∈ gTs := g_word (i := 1415) (by decide +kernel) rfl
set_option maxRecDepth 100000 in
theorem tw_1417 : Cond.instanceMethod yX10_frightOf ∈ gTs := g_word (i := 1417) (by decide +kernel) rfl
set_option maxRecDepth 100000 in
theorem tw_1418 : Cond.code yX10_frightOf cX10_frightOf 8 (some .int) ∈ gTs := g_word (i := 1418) (by rfl) rfl
set_option maxRecDepth 100000 in
theorem tw_1419 : Cond.methodLink RX10 320 yX10_isNext ∈ gTs := g_word (i := 1419) (by decide +kernel) rfl
set_option maxRecDepth 100000 in
theorem tw_1420 : Cond.static yX10_isNext ∈ gTs := g_word (i := 1420) (by decide +kernel) rfl
set_option maxRecDepth 100000 in
theorem tw_1421 : Cond.code yX10_isNext cX10_isNext 2 (some .boolean) ∈ gTs := g_word (i := 1421) (by rfl) rfl
set_option maxRecDepth 100000 in
theorem tw_1422 : Cond.methodLink RX10 323 yX10_sleepIn ∈ gTs := g_word (i := 1422) (by decide +kernel) rfl
set_option maxRecDepth 100000 in
theorem tw_1424 : Cond.instanceMethod yX10_sleepIn ∈ gTs := g_word (i := 1424) (by decide +kernel) rfl
set_option maxRecDepth 100000 in
theorem tw_1425 : Cond.code yX10_sleepIn cX10_sleepIn 5 (some .int) ∈ gTs := g_word (i := 1425) (by rfl) rfl
set_option maxRecDepth 100000 in
theorem tw_1426 : Cond.methodLink RX10 326 yX10_feels ∈ gTs := g_word (i := 1426) (by decide +kernel) rfl
set_option maxRecDepth 100000 in
theorem tw_1428 : Cond.instanceMethod yX10_feels ∈ gTs := g_word (i := 1428) (by decide +kernel) rfl
set_option maxRecDepth 100000 in
theorem tw_1429 : Cond.code yX10_feels cX10_feels 6 none ∈ gTs := g_word (i := 1429) (by rfl) rfl
set_option maxRecDepth 100000 in
theorem tw_1430 : Cond.methodLink RX10 330 yX10_anyFright ∈ gTs := g_word (i := 1430) (by decide +kernel) rfl
set_option maxRecDepth 100000 in
theorem tw_1432 : Cond.instanceMethod yX10_anyFright ∈ gTs := g_word (i := 1432) (by decide +kernel) rfl
set_option maxRecDepth 100000 in
theorem tw_1433 : Cond.code yX10_anyFright cX10_anyFright 2 (some .boolean) ∈ gTs := g_word (i := 1433) (by rfl) rfl
set_option maxRecDepth 100000 in
theorem tw_1434 : Cond.methodLink RX10 316 yX10_comesTo ∈ gTs := g_word (i := 1434) (by decide +kernel) rfl
set_option maxRecDepth 100000 in
theorem tw_1436 : Cond.instanceMethod yX10_comesTo ∈ gTs := g_word (i := 1436) (by decide +kernel) rfl
set_option maxRecDepth 100000 in
theorem tw_1437 : Cond.code yX10_comesTo cX10_comesTo 8 (some .int) ∈ gTs := g_word (i := 1437) (by rfl) rfl
set_option maxRecDepth 100000 in
theorem tw_1438 : Cond.methodLink RX10 312 yX10_reckon ∈ gTs := g_word (i := 1438) (by decide +kernel) rfl
set_option maxRecDepth 100000 in
theorem tw_1439 : Cond.static yX10_reckon ∈ gTs := g_word (i := 1439) (by decide +kernel) rfl
set_option maxRecDepth 100000 in
theorem tw_1440 : Cond.code yX10_reckon cX10_reckon 3 (some .int) ∈ gTs := g_word (i := 1440) (by rfl) rfl
set_option maxRecDepth 100000 in
theorem tw_1441 : Cond.methodLink RX10 333 yX10_byLaw ∈ gTs := g_word (i := 1441) (by decide +kernel) rfl
set_option maxRecDepth 100000 in
theorem tw_1443 : Cond.instanceMethod yX10_byLaw ∈ gTs := g_word (i := 1443) (by decide +kernel) rfl
set_option maxRecDepth 100000 in
theorem tw_1444 : Cond.code yX10_byLaw cX10_byLaw 5 (some .int) ∈ gTs := g_word (i := 1444) (by rfl) rfl
set_option maxRecDepth 100000 in
theorem tw_1449 : Cond.methodLink RX10 357 yX10_isSum ∈ gTs := g_word (i := 1449) (by decide +kernel) rfl
set_option maxRecDepth 100000 in
theorem tw_1451 : Cond.instanceMethod yX10_isSum ∈ gTs := g_word (i := 1451) (by decide +kernel) rfl
set_option maxRecDepth 100000 in
theorem tw_1452 : Cond.code yX10_isSum cX10_isSum 2 (some .boolean) ∈ gTs := g_word (i := 1452) (by rfl) rfl
set_option maxRecDepth 100000 in
theorem tw_1453 : Cond.methodLink RX10 360 yX10_laysWeek ∈ gTs := g_word (i := 1453) (by decide +kernel) rfl
set_option maxRecDepth 100000 in
theorem tw_1455 : Cond.instanceMethod yX10_laysWeek ∈ gTs := g_word (i := 1455) (by decide +kernel) rfl
set_option maxRecDepth 100000 in
theorem tw_1456 : Cond.code yX10_laysWeek cX10_laysWeek 2 none ∈ gTs := g_word (i := 1456) (by rfl) rfl
set_option maxRecDepth 100000 in
theorem tw_1457 : Cond.methodLink RX10 354 yX10_goesThrough ∈ gTs := g_word (i := 1457) (by decide +kernel) rfl
set_option maxRecDepth 100000 in
theorem tw_1459 : Cond.instanceMethod yX10_goesThrough ∈ gTs := g_word (i := 1459) (by decide +kernel) rfl
set_option maxRecDepth 100000 in
theorem tw_1460 : Cond.code yX10_goesThrough cX10_goesThrough 5 none ∈ gTs := g_word (i := 1460) (by rfl) rfl
set_option maxRecDepth 100000 in
theorem tw_1461 : Cond.methodLink RX10 350 yX10_goes ∈ gTs := g_word (i := 1461) (by decide +kernel) rfl
set_option maxRecDepth 100000 in
theorem tw_1463 : Cond.instanceMethod yX10_goes ∈ gTs := g_word (i := 1463) (by decide +kernel) rfl
set_option maxRecDepth 100000 in
theorem tw_1464 : Cond.code yX10_goes cX10_goes 6 none ∈ gTs := g_word (i := 1464) (by rfl) rfl
set_option maxRecDepth 100000 in
theorem tw_1465 : Cond.methodLink RX10 341 yX10_stands ∈ gTs := g_word (i := 1465) (by decide +kernel) rfl
set_option maxRecDepth 100000 in
theorem tw_1467 : Cond.instanceMethod yX10_stands ∈ gTs := g_word (i := 1467) (by decide +kernel) rfl
set_option maxRecDepth 100000 in
theorem tw_1468 : Cond.code yX10_stands cX10_stands 4 (some .boolean) ∈ gTs := g_word (i := 1468) (by rfl) rfl
set_option maxRecDepth 100000 in
theorem tw_1469 : Cond.methodLink RX10 344 yX10_draws ∈ gTs := g_word (i := 1469) (by decide +kernel) rfl
set_option maxRecDepth 100000 in
theorem tw_1471 : Cond.instanceMethod yX10_draws ∈ gTs := g_word (i := 1471) (by decide +kernel) rfl
set_option maxRecDepth 100000 in
theorem tw_1472 : Cond.code yX10_draws cX10_draws 1 (some .int) ∈ gTs := g_word (i := 1472) (by rfl) rfl
set_option maxRecDepth 100000 in
theorem tw_1473 : Cond.constant RX10 340 (65536) ∈ gTs := g_word (i := 1473) (by decide +kernel) rfl
set_option maxRecDepth 100000 in
theorem tw_1474 : Cond.methodLink RX10 347 yX10_frightens ∈ gTs := g_word (i := 1474) (by decide +kernel) rfl
set_option maxRecDepth 100000 in
theorem tw_1476 : Cond.instanceMethod yX10_frightens ∈ gTs := g_word (i := 1476) (by decide +kernel) rfl
set_option maxRecDepth 100000 in
theorem tw_1477 : Cond.code yX10_frightens cX10_frightens 7 none ∈ gTs := g_word (i := 1477) (by rfl) rfl
set_option maxRecDepth 100000 in
theorem tw_1490 : Cond.methodLink RX10 373 yX10_laysOnce ∈ gTs := g_word (i := 1490) (by decide +kernel) rfl
set_option maxRecDepth 100000 in
theorem tw_1492 : Cond.instanceMethod yX10_laysOnce ∈ gTs := g_word (i := 1492) (by decide +kernel) rfl
set_option maxRecDepth 100000 in
theorem tw_1493 : Cond.code yX10_laysOnce cX10_laysOnce 6 none ∈ gTs := g_word (i := 1493) (by rfl) rfl
set_option maxRecDepth 100000 in
theorem tw_1494 : Cond.methodLink RX10 364 yX10_frightened ∈ gTs := g_word (i := 1494) (by decide +kernel) rfl
set_option maxRecDepth 100000 in
theorem tw_1496 : Cond.instanceMethod yX10_frightened ∈ gTs := g_word (i := 1496) (by decide +kernel) rfl
set_option maxRecDepth 100000 in
theorem tw_1497 : Cond.code yX10_frightened cX10_frightened 6 (some .int) ∈ gTs := g_word (i := 1497) (by rfl) rfl
set_option maxRecDepth 100000 in
theorem tw_1498 : Cond.constant RX10 363 (1000000000) ∈ gTs := g_word (i := 1498) (by decide +kernel) rfl
set_option maxRecDepth 100000 in
theorem tw_1499 : Cond.methodLink RX10 367 yX10_onceBy ∈ gTs := g_word (i := 1499) (by decide +kernel) rfl
set_option maxRecDepth 100000 in
theorem tw_1501 : Cond.instanceMethod yX10_onceBy ∈ gTs := g_word (i := 1501) (by decide +kernel) rfl
set_option maxRecDepth 100000 in
theorem tw_1502 : Cond.code yX10_onceBy cX10_onceBy 5 (some .int) ∈ gTs := g_word (i := 1502) (by rfl) rfl
set_option maxRecDepth 100000 in
theorem tw_1503 : Cond.methodLink RX10 370 yX10_min ∈ gTs := g_word (i := 1503) (by decide +kernel) rfl
set_option maxRecDepth 100000 in
theorem tw_1504 : Cond.static yX10_min ∈ gTs := g_word (i := 1504) (by decide +kernel) rfl
set_option maxRecDepth 100000 in
theorem tw_1505 : Cond.code yX10_min cX10_min 2 (some .int) ∈ gTs := g_word (i := 1505) (by rfl) rfl
set_option maxRecDepth 100000 in
theorem tw_1506 : Cond.methodLink RX10 376 yX10_leastCode ∈ gTs := g_word (i := 1506) (by decide +kernel) rfl
set_option maxRecDepth 100000 in
theorem tw_1508 : Cond.instanceMethod yX10_leastCode ∈ gTs := g_word (i := 1508) (by decide +kernel) rfl
set_option maxRecDepth 100000 in
theorem tw_1509 : Cond.code yX10_leastCode cX10_leastCode 4 (some .int) ∈ gTs := g_word (i := 1509) (by rfl) rfl
set_option maxRecDepth 100000 in
theorem tw_1514 : Cond.methodLink RX10 379 yX10_frightBy ∈ gTs := g_word (i := 1514) (by decide +kernel) rfl
set_option maxRecDepth 100000 in
theorem tw_1516 : Cond.instanceMethod yX10_frightBy ∈ gTs := g_word (i := 1516) (by decide +kernel) rfl
set_option maxRecDepth 100000 in
theorem tw_1517 : Cond.code yX10_frightBy cX10_frightBy 8 (some .int) ∈ gTs := g_word (i := 1517) (by rfl) rfl
set_option maxRecDepth 100000 in
theorem tw_1530 : Cond.methodLink RX10 383 yX10_mendedBy ∈ gTs := g_word (i := 1530) (by decide +kernel) rfl
set_option maxRecDepth 100000 in
theorem tw_1532 : Cond.instanceMethod yX10_mendedBy ∈ gTs := g_word (i := 1532) (by decide +kernel) rfl
set_option maxRecDepth 100000 in
theorem tw_1533 : Cond.code yX10_mendedBy cX10_mendedBy 3 (some .int) ∈ gTs := g_word (i := 1533) (by rfl) rfl
set_option maxRecDepth 100000 in
theorem tw_1534 : Cond.constant RX10 386 (-100000) ∈ gTs := g_word (i := 1534) (by decide +kernel) rfl
set_option maxRecDepth 100000 in
theorem tw_1543 : Cond.methodLink RX10 387 yX10_bits ∈ gTs := g_word (i := 1543) (by decide +kernel) rfl
set_option maxRecDepth 100000 in
theorem tw_1544 : Cond.static yX10_bits ∈ gTs := g_word (i := 1544) (by decide +kernel) rfl
set_option maxRecDepth 100000 in
theorem tw_1545 : Cond.code yX10_bits cX10_bits 3 (some .int) ∈ gTs := g_word (i := 1545) (by rfl) rfl
set_option maxRecDepth 100000 in
theorem tw_1550 : Cond.methodLink RX10 396 yX10_laysWorths ∈ gTs := g_word (i := 1550) (by decide +kernel) rfl
set_option maxRecDepth 100000 in
theorem tw_1552 : Cond.instanceMethod yX10_laysWorths ∈ gTs := g_word (i := 1552) (by decide +kernel) rfl
set_option maxRecDepth 100000 in
theorem tw_1553 : Cond.code yX10_laysWorths cX10_laysWorths 6 none ∈ gTs := g_word (i := 1553) (by rfl) rfl
set_option maxRecDepth 100000 in
theorem tw_1554 : Cond.methodLink RX10 390 yX10_coldIn ∈ gTs := g_word (i := 1554) (by decide +kernel) rfl
set_option maxRecDepth 100000 in
theorem tw_1556 : Cond.instanceMethod yX10_coldIn ∈ gTs := g_word (i := 1556) (by decide +kernel) rfl
set_option maxRecDepth 100000 in
theorem tw_1557 : Cond.code yX10_coldIn cX10_coldIn 5 (some .int) ∈ gTs := g_word (i := 1557) (by rfl) rfl
set_option maxRecDepth 100000 in
theorem tw_1558 : Cond.methodLink RX10 399 yX10_laysJuly ∈ gTs := g_word (i := 1558) (by decide +kernel) rfl
set_option maxRecDepth 100000 in
theorem tw_1560 : Cond.instanceMethod yX10_laysJuly ∈ gTs := g_word (i := 1560) (by decide +kernel) rfl
set_option maxRecDepth 100000 in
theorem tw_1561 : Cond.code yX10_laysJuly cX10_laysJuly 6 none ∈ gTs := g_word (i := 1561) (by rfl) rfl
set_option maxRecDepth 100000 in
theorem tw_1562 : Cond.methodLink RX10 393 yX10_lodgeBy ∈ gTs := g_word (i := 1562) (by decide +kernel) rfl
set_option maxRecDepth 100000 in
theorem tw_1564 : Cond.instanceMethod yX10_lodgeBy ∈ gTs := g_word (i := 1564) (by decide +kernel) rfl
set_option maxRecDepth 100000 in
theorem tw_1565 : Cond.code yX10_lodgeBy cX10_lodgeBy 4 (some .int) ∈ gTs := g_word (i := 1565) (by rfl) rfl
set_option maxRecDepth 100000 in
theorem tw_1574 : Cond.methodLink RX10 408 yX10_rests ∈ gTs := g_word (i := 1574) (by decide +kernel) rfl
set_option maxRecDepth 100000 in
theorem tw_1575 : Cond.static yX10_rests ∈ gTs := g_word (i := 1575) (by decide +kernel) rfl
set_option maxRecDepth 100000 in
theorem tw_1576 : Cond.code yX10_rests cX10_rests 5 (some .boolean) ∈ gTs := g_word (i := 1576) (by rfl) rfl
set_option maxRecDepth 100000 in
theorem tw_1577 : Cond.methodLink RX10 402 yX10_gain0 ∈ gTs := g_word (i := 1577) (by decide +kernel) rfl
set_option maxRecDepth 100000 in
theorem tw_1578 : Cond.static yX10_gain0 ∈ gTs := g_word (i := 1578) (by decide +kernel) rfl
set_option maxRecDepth 100000 in
theorem tw_1579 : Cond.code yX10_gain0 cX10_gain0 3 (some .int) ∈ gTs := g_word (i := 1579) (by rfl) rfl
set_option maxRecDepth 100000 in
theorem tw_1580 : Cond.methodLink RX10 405 yX10_gain1 ∈ gTs := g_word (i := 1580) (by decide +kernel) rfl
set_option maxRecDepth 100000 in
theorem tw_1581 : Cond.static yX10_gain1 ∈ gTs := g_word (i := 1581) (by decide +kernel) rfl
set_option maxRecDepth 100000 in
theorem tw_1582 : Cond.code yX10_gain1 cX10_gain1 3 (some .int) ∈ gTs := g_word (i := 1582) (by rfl) rfl
set_option maxRecDepth 100000 in
theorem tw_1587 : Cond.methodLink RX10 412 yX10_gcd ∈ gTs := g_word (i := 1587) (by decide +kernel) rfl
set_option maxRecDepth 100000 in
theorem tw_1588 : Cond.static yX10_gcd ∈ gTs := g_word (i := 1588) (by decide +kernel) rfl
set_option maxRecDepth 100000 in
theorem tw_1589 : Cond.code yX10_gcd cX10_gcd 5 (some .int) ∈ gTs := g_word (i := 1589) (by rfl) rfl
set_option maxRecDepth 100000 in
theorem tw_1594 : Cond.constant RX10 415 (65535) ∈ gTs := g_word (i := 1594) (by decide +kernel) rfl
set_option maxRecDepth 100000 in
theorem tw_1599 : Cond.methodLink RX10 435 yX10_copies ∈ gTs := g_word (i := 1599) (by decide +kernel) rfl
set_option maxRecDepth 100000 in
theorem tw_1600 : Cond.static yX10_copies ∈ gTs := g_word (i := 1600) (by decide +kernel) rfl
set_option maxRecDepth 100000 in
theorem tw_1601 : Cond.code yX10_copies cX10_copies 4 none ∈ gTs := g_word (i := 1601) (by rfl) rfl
set_option maxRecDepth 100000 in
theorem tw_1610 : Cond.methodLink RX10 439 yX10_tapeNumber ∈ gTs := g_word (i := 1610) (by decide +kernel) rfl
set_option maxRecDepth 100000 in
theorem tw_1612 : Cond.instanceMethod yX10_tapeNumber ∈ gTs := g_word (i := 1612) (by decide +kernel) rfl
set_option maxRecDepth 100000 in
theorem tw_1613 : Cond.code yX10_tapeNumber cX10_tapeNumber 4 (some .int) ∈ gTs := g_word (i := 1613) (by rfl) rfl
