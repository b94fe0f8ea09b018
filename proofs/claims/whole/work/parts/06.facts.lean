theorem ic_m1 : Int32.ofInt (-1) = (-1 : Int32) := by decide
theorem ic_0 : Int32.ofInt (0) = (0 : Int32) := by decide
theorem ic_1 : Int32.ofInt (1) = (1 : Int32) := by decide
theorem ic_2 : Int32.ofInt (2) = (2 : Int32) := by decide
theorem ic_3 : Int32.ofInt (3) = (3 : Int32) := by decide
theorem ic_4 : Int32.ofInt (4) = (4 : Int32) := by decide
theorem ic_5 : Int32.ofInt (5) = (5 : Int32) := by decide
theorem bp_m10 : (Int8.ofInt (-10)).toInt32 = (-10 : Int32) := by decide
theorem bp_m9 : (Int8.ofInt (-9)).toInt32 = (-9 : Int32) := by decide
theorem bp_m2 : (Int8.ofInt (-2)).toInt32 = (-2 : Int32) := by decide
theorem bp_6 : (Int8.ofInt (6)).toInt32 = (6 : Int32) := by decide
theorem bp_7 : (Int8.ofInt (7)).toInt32 = (7 : Int32) := by decide
theorem bp_8 : (Int8.ofInt (8)).toInt32 = (8 : Int32) := by decide
theorem bp_9 : (Int8.ofInt (9)).toInt32 = (9 : Int32) := by decide
theorem bp_10 : (Int8.ofInt (10)).toInt32 = (10 : Int32) := by decide
theorem bp_12 : (Int8.ofInt (12)).toInt32 = (12 : Int32) := by decide
theorem bp_15 : (Int8.ofInt (15)).toInt32 = (15 : Int32) := by decide
theorem bp_16 : (Int8.ofInt (16)).toInt32 = (16 : Int32) := by decide
theorem bp_18 : (Int8.ofInt (18)).toInt32 = (18 : Int32) := by decide
theorem bp_20 : (Int8.ofInt (20)).toInt32 = (20 : Int32) := by decide
theorem bp_28 : (Int8.ofInt (28)).toInt32 = (28 : Int32) := by decide
theorem bp_32 : (Int8.ofInt (32)).toInt32 = (32 : Int32) := by decide
theorem bp_33 : (Int8.ofInt (33)).toInt32 = (33 : Int32) := by decide
theorem bp_34 : (Int8.ofInt (34)).toInt32 = (34 : Int32) := by decide
theorem bp_38 : (Int8.ofInt (38)).toInt32 = (38 : Int32) := by decide
theorem bp_44 : (Int8.ofInt (44)).toInt32 = (44 : Int32) := by decide
theorem bp_48 : (Int8.ofInt (48)).toInt32 = (48 : Int32) := by decide
theorem bp_57 : (Int8.ofInt (57)).toInt32 = (57 : Int32) := by decide
theorem bp_58 : (Int8.ofInt (58)).toInt32 = (58 : Int32) := by decide
theorem bp_59 : (Int8.ofInt (59)).toInt32 = (59 : Int32) := by decide
theorem bp_60 : (Int8.ofInt (60)).toInt32 = (60 : Int32) := by decide
theorem bp_63 : (Int8.ofInt (63)).toInt32 = (63 : Int32) := by decide
theorem bp_97 : (Int8.ofInt (97)).toInt32 = (97 : Int32) := by decide
theorem bp_98 : (Int8.ofInt (98)).toInt32 = (98 : Int32) := by decide
theorem bp_99 : (Int8.ofInt (99)).toInt32 = (99 : Int32) := by decide
theorem bp_100 : (Int8.ofInt (100)).toInt32 = (100 : Int32) := by decide
theorem bp_108 : (Int8.ofInt (108)).toInt32 = (108 : Int32) := by decide
theorem bp_112 : (Int8.ofInt (112)).toInt32 = (112 : Int32) := by decide
theorem bp_116 : (Int8.ofInt (116)).toInt32 = (116 : Int32) := by decide
theorem bp_118 : (Int8.ofInt (118)).toInt32 = (118 : Int32) := by decide
theorem bp_120 : (Int8.ofInt (120)).toInt32 = (120 : Int32) := by decide
theorem bp_127 : (Int8.ofInt (127)).toInt32 = (127 : Int32) := by decide
theorem sp_m1000 : (Int16.ofInt (-1000)).toInt32 = (-1000 : Int32) := by decide
theorem sp_158 : (Int16.ofInt (158)).toInt32 = (158 : Int32) := by decide
theorem sp_258 : (Int16.ofInt (258)).toInt32 = (258 : Int32) := by decide
theorem sp_378 : (Int16.ofInt (378)).toInt32 = (378 : Int32) := by decide
theorem sp_400 : (Int16.ofInt (400)).toInt32 = (400 : Int32) := by decide
theorem sp_1000 : (Int16.ofInt (1000)).toInt32 = (1000 : Int32) := by decide
theorem sp_1023 : (Int16.ofInt (1023)).toInt32 = (1023 : Int32) := by decide
theorem sp_1134 : (Int16.ofInt (1134)).toInt32 = (1134 : Int32) := by decide
theorem fl_RX0_15 : Cond.fieldLink RX0 15 (TX0 1).1 (TX0 1).2.1 (TX0 1).2.2.1 ∈ lw_g := q_115
theorem fl_RX0_18 : Cond.fieldLink RX0 18 (TX0 2).1 (TX0 2).2.1 (TX0 2).2.2.1 ∈ lw_g := q_117
theorem fl_RX0_22 : Cond.fieldLink RX0 22 (TX0 3).1 (TX0 3).2.1 (TX0 3).2.2.1 ∈ lw_g := q_118
theorem fl_RX0_9 : Cond.fieldLink RX0 9 (TX0 0).1 (TX0 0).2.1 (TX0 0).2.2.1 ∈ lw_g := q_113
theorem fl_RX1_15 : Cond.fieldLink RX1 15 (TX1 2).1 (TX1 2).2.1 (TX1 2).2.2.1 ∈ lw_g := q_134
theorem fl_RX1_22 : Cond.fieldLink RX1 22 (TX1 5).1 (TX1 5).2.1 (TX1 5).2.2.1 ∈ lw_g := q_140
theorem fl_RX1_26 : Cond.fieldLink RX1 26 (TX1 6).1 (TX1 6).2.1 (TX1 6).2.2.1 ∈ lw_g := q_142
theorem fl_RX1_29 : Cond.fieldLink RX1 29 (TX1 7).1 (TX1 7).2.1 (TX1 7).2.2.1 ∈ lw_g := q_143
theorem fl_RX1_32 : Cond.fieldLink RX1 32 (TX1 8).1 (TX1 8).2.1 (TX1 8).2.2.1 ∈ lw_g := q_144
theorem fl_RX1_35 : Cond.fieldLink RX1 35 (TX1 9).1 (TX1 9).2.1 (TX1 9).2.2.1 ∈ lw_g := q_145
theorem fl_RX1_38 : Cond.fieldLink RX1 38 (TX1 10).1 (TX1 10).2.1 (TX1 10).2.2.1 ∈ lw_g := q_146
theorem fl_RX1_41 : Cond.fieldLink RX1 41 (TX1 11).1 (TX1 11).2.1 (TX1 11).2.2.1 ∈ lw_g := q_147
theorem fl_RX1_44 : Cond.fieldLink RX1 44 (TX1 12).1 (TX1 12).2.1 (TX1 12).2.2.1 ∈ lw_g := q_148
theorem fl_RX1_47 : Cond.fieldLink RX1 47 (TX1 0).1 (TX1 0).2.1 (TX1 0).2.2.1 ∈ lw_g := q_130
theorem fl_RX1_56 : Cond.fieldLink RX1 56 (TX1 3).1 (TX1 3).2.1 (TX1 3).2.2.1 ∈ lw_g := q_136
theorem fl_RX1_59 : Cond.fieldLink RX1 59 (TX1 4).1 (TX1 4).2.1 (TX1 4).2.2.1 ∈ lw_g := q_138
theorem fl_RX1_9 : Cond.fieldLink RX1 9 (TX1 1).1 (TX1 1).2.1 (TX1 1).2.2.1 ∈ lw_g := q_132
theorem fl_RX1_96 : Cond.fieldLink RX1 96 (TX1 13).1 (TX1 13).2.1 (TX1 13).2.2.1 ∈ lw_g := q_149
theorem fl_RX2_11 : Cond.fieldLink RX2 11 (TX2 0).1 (TX2 0).2.1 (TX2 0).2.2.1 ∈ lw_g := q_188
theorem fl_RX2_18 : Cond.fieldLink RX2 18 (TX2 1).1 (TX2 1).2.1 (TX2 1).2.2.1 ∈ lw_g := q_189
theorem fl_RX2_26 : Cond.fieldLink RX2 26 (TX2 2).1 (TX2 2).2.1 (TX2 2).2.2.1 ∈ lw_g := q_190
theorem fl_RX3_15 : Cond.fieldLink RX3 15 (TX3 4).1 (TX3 4).2.1 (TX3 4).2.2.1 ∈ lw_g := q_212
theorem fl_RX3_19 : Cond.fieldLink RX3 19 (TX3 5).1 (TX3 5).2.1 (TX3 5).2.2.1 ∈ lw_g := q_213
theorem fl_RX3_22 : Cond.fieldLink RX3 22 (TX3 0).1 (TX3 0).2.1 (TX3 0).2.2.1 ∈ lw_g := q_205
theorem fl_RX3_26 : Cond.fieldLink RX3 26 (TX3 1).1 (TX3 1).2.1 (TX3 1).2.2.1 ∈ lw_g := q_207
theorem fl_RX3_29 : Cond.fieldLink RX3 29 (TX3 2).1 (TX3 2).2.1 (TX3 2).2.2.1 ∈ lw_g := q_209
theorem fl_RX3_9 : Cond.fieldLink RX3 9 (TX3 3).1 (TX3 3).2.1 (TX3 3).2.2.1 ∈ lw_g := q_211
theorem fl_RX4_10 : Cond.fieldLink RX4 10 (TX4 0).1 (TX4 0).2.1 (TX4 0).2.2.1 ∈ lw_g := q_228
theorem fl_RX4_128 : Cond.fieldLink RX4 128 (TX1 0).1 (TX1 0).2.1 (TX1 0).2.2.1 ∈ lw_g := q_131
theorem fl_RX4_154 : Cond.fieldLink RX4 154 (TX1 3).1 (TX1 3).2.1 (TX1 3).2.2.1 ∈ lw_g := q_137
theorem fl_RX4_157 : Cond.fieldLink RX4 157 (TX1 5).1 (TX1 5).2.1 (TX1 5).2.2.1 ∈ lw_g := q_141
theorem fl_RX4_16 : Cond.fieldLink RX4 16 (TX4 1).1 (TX4 1).2.1 (TX4 1).2.2.1 ∈ lw_g := q_229
theorem fl_RX4_166 : Cond.fieldLink RX4 166 (TX0 0).1 (TX0 0).2.1 (TX0 0).2.2.1 ∈ lw_g := q_114
theorem fl_RX4_169 : Cond.fieldLink RX4 169 (TX0 1).1 (TX0 1).2.1 (TX0 1).2.2.1 ∈ lw_g := q_116
theorem fl_RX4_172 : Cond.fieldLink RX4 172 (TX1 4).1 (TX1 4).2.1 (TX1 4).2.2.1 ∈ lw_g := q_139
theorem fl_RX4_19 : Cond.fieldLink RX4 19 (TX4 2).1 (TX4 2).2.1 (TX4 2).2.2.1 ∈ lw_g := q_230
theorem fl_RX4_215 : Cond.fieldLink RX4 215 (TX1 1).1 (TX1 1).2.1 (TX1 1).2.2.1 ∈ lw_g := q_133
theorem fl_RX4_233 : Cond.fieldLink RX4 233 (TX3 0).1 (TX3 0).2.1 (TX3 0).2.2.1 ∈ lw_g := q_206
theorem fl_RX4_239 : Cond.fieldLink RX4 239 (TX3 1).1 (TX3 1).2.1 (TX3 1).2.2.1 ∈ lw_g := q_208
theorem fl_RX4_242 : Cond.fieldLink RX4 242 (TX3 2).1 (TX3 2).2.1 (TX3 2).2.2.1 ∈ lw_g := q_210
theorem fl_RX4_248 : Cond.fieldLink RX4 248 (TX2 2).1 (TX2 2).2.1 (TX2 2).2.2.1 ∈ lw_g := q_191
theorem fl_RX4_25 : Cond.fieldLink RX4 25 (TX4 3).1 (TX4 3).2.1 (TX4 3).2.2.1 ∈ lw_g := q_231
theorem fl_RX4_262 : Cond.fieldLink RX4 262 (TX1 2).1 (TX1 2).2.1 (TX1 2).2.2.1 ∈ lw_g := q_135
theorem fl_RX4_312 : Cond.fieldLink RX4 312 (TX0 3).1 (TX0 3).2.1 (TX0 3).2.2.1 ∈ lw_g := q_119
theorem fl_RX4_32 : Cond.fieldLink RX4 32 (TX4 4).1 (TX4 4).2.1 (TX4 4).2.2.1 ∈ lw_g := q_232
theorem fl_RX5_119 : Cond.fieldLink RX5 119 (TX5 10).1 (TX5 10).2.1 (TX5 10).2.2.1 ∈ lw_g := q_955
theorem fl_RX5_123 : Cond.fieldLink RX5 123 (TX5 8).1 (TX5 8).2.1 (TX5 8).2.2.1 ∈ lw_g := q_953
theorem fl_RX5_13 : Cond.fieldLink RX5 13 (TX5 1).1 (TX5 1).2.1 (TX5 1).2.2.1 ∈ lw_g := q_946
theorem fl_RX5_16 : Cond.fieldLink RX5 16 (TX5 2).1 (TX5 2).2.1 (TX5 2).2.2.1 ∈ lw_g := q_947
theorem fl_RX5_182 : Cond.fieldLink RX5 182 (TX5 6).1 (TX5 6).2.1 (TX5 6).2.2.1 ∈ lw_g := q_951
theorem fl_RX5_185 : Cond.fieldLink RX5 185 (TX5 14).1 (TX5 14).2.1 (TX5 14).2.2.1 ∈ lw_g := q_959
theorem fl_RX5_19 : Cond.fieldLink RX5 19 (TX5 5).1 (TX5 5).2.1 (TX5 5).2.2.1 ∈ lw_g := q_950
theorem fl_RX5_194 : Cond.fieldLink RX5 194 (TX5 13).1 (TX5 13).2.1 (TX5 13).2.2.1 ∈ lw_g := q_958
theorem fl_RX5_209 : Cond.fieldLink RX5 209 (TX5 15).1 (TX5 15).2.1 (TX5 15).2.2.1 ∈ lw_g := q_960
theorem fl_RX5_22 : Cond.fieldLink RX5 22 (TX5 7).1 (TX5 7).2.1 (TX5 7).2.2.1 ∈ lw_g := q_952
theorem fl_RX5_25 : Cond.fieldLink RX5 25 (TX5 9).1 (TX5 9).2.1 (TX5 9).2.2.1 ∈ lw_g := q_954
theorem fl_RX5_29 : Cond.fieldLink RX5 29 (TX5 11).1 (TX5 11).2.1 (TX5 11).2.2.1 ∈ lw_g := q_956
theorem fl_RX5_32 : Cond.fieldLink RX5 32 (TX5 12).1 (TX5 12).2.1 (TX5 12).2.2.1 ∈ lw_g := q_957
theorem fl_RX5_35 : Cond.fieldLink RX5 35 (TX5 4).1 (TX5 4).2.1 (TX5 4).2.2.1 ∈ lw_g := q_949
theorem fl_RX5_43 : Cond.fieldLink RX5 43 (TX5 3).1 (TX5 3).2.1 (TX5 3).2.2.1 ∈ lw_g := q_948
theorem fl_RX5_7 : Cond.fieldLink RX5 7 (TX5 0).1 (TX5 0).2.1 (TX5 0).2.2.1 ∈ lw_g := q_945
theorem lk_RX1_102 : sk_lkV RX1 102 yX1_fireRipeClocks cX1_fireRipeClocks 2 none 0 := ⟨q_471, q_473, q_17, q_79, q_474, by decide, by decide, by decide +kernel⟩
theorem lk_RX1_105 : sk_lkV RX1 105 yX1_fireBlinkers cX1_fireBlinkers 3 none 0 := ⟨q_486, q_488, q_19, q_79, q_489, by decide, by decide, by decide +kernel⟩
theorem lk_RX1_108 : sk_lkV RX1 108 yX1_deliverDelayedPulses cX1_deliverDelayedPulses 5 none 0 := ⟨q_490, q_492, q_20, q_79, q_493, by decide, by decide, by decide +kernel⟩
theorem lk_RX1_111 : sk_lkV RX1 111 yX1_deliverPulsesAtOnce cX1_deliverPulsesAtOnce 3 none 0 := ⟨q_502, q_504, q_23, q_79, q_505, by decide, by decide, by decide +kernel⟩
theorem lk_RX1_114 : sk_lkV RX1 114 yX1_noteFires cX1_noteFires 2 none 0 := ⟨q_506, q_508, q_24, q_79, q_509, by decide, by decide, by decide +kernel⟩
theorem lk_RX1_117 : sk_lkV RX1 117 yX1_stepOf cX1_stepOf 3 (some .int) 1 := ⟨q_467, q_469, q_16, q_79, q_470, by decide, by decide, by decide +kernel⟩
theorem lk_RX1_120 : sk_lkV RX1 120 yX1_fire cX1_fire 4 none 1 := ⟨q_475, q_477, q_18, q_79, q_478, by decide, by decide, by decide +kernel⟩
theorem lk_RX1_124 : sk_lkS RX1 124 yX1_slotOf cX1_slotOf 1 (some .int) 1 := ⟨q_483, q_484, q_79, q_485, by decide, by decide, by decide +kernel⟩
theorem lk_RX1_127 : sk_lkV RX1 127 yX1_reach cX1_reach 2 none 1 := ⟨q_494, q_496, q_21, q_79, q_497, by decide, by decide, by decide +kernel⟩
theorem lk_RX1_130 : sk_lkV RX1 130 yX1_hasFired cX1_hasFired 2 (some .boolean) 1 := ⟨q_479, q_480, q_481, q_79, q_482, by decide, by decide, by decide +kernel⟩
theorem lk_RX1_133 : sk_lkV RX1 133 yX1_movedBy cX1_movedBy 4 (some .int) 1 := ⟨q_498, q_500, q_22, q_79, q_501, by decide, by decide, by decide +kernel⟩
theorem lk_RX1_136 : sk_lkV RX1 136 yX0_note cX0_note 3 none 2 := ⟨q_510, q_511, q_512, q_80, q_513, by decide, by decide, by decide +kernel⟩
theorem lk_RX1_139 : sk_lkV RX1 139 yX1_isFirstOfGroup cX1_isFirstOfGroup 3 (some .boolean) 1 := ⟨q_322, q_324, q_3, q_79, q_325, by decide, by decide, by decide +kernel⟩
theorem lk_RX1_142 : sk_lkV RX1 142 yX1_goodClocksAt cX1_goodClocksAt 4 (some .int) 1 := ⟨q_808, q_542, q_543, q_79, q_544, by decide, by decide, by decide +kernel⟩
theorem lk_RX1_145 : sk_lkV RX1 145 yX1_stretchFrom cX1_stretchFrom 5 (some .int) 1 := ⟨q_334, q_336, q_4, q_79, q_337, by decide, by decide, by decide +kernel⟩
theorem lk_RX1_156 : sk_lkV RX1 156 yX1_passTicks cX1_passTicks 4 (some .int) 1 := ⟨q_837, q_460, q_461, q_79, q_462, by decide, by decide, by decide +kernel⟩
theorem lk_RX1_159 : sk_lkV RX1 159 yX1_groupCount cX1_groupCount 4 (some .int) 1 := ⟨q_838, q_315, q_316, q_79, q_317, by decide, by decide, by decide +kernel⟩
theorem lk_RX1_162 : sk_lkV RX1 162 yX1_hasSamePulses cX1_hasSamePulses 6 (some .boolean) 1 := ⟨q_861, q_863, q_32, q_79, q_864, by decide, by decide, by decide +kernel⟩
theorem lk_RX1_62 : sk_lkV RX1 62 yX0_copyNotes cX0_copyNotes 2 none 1 := ⟨q_385, q_386, q_387, q_80, q_388, by decide, by decide, by decide +kernel⟩
theorem lk_RX1_66 : sk_lkV RX1 66 yX1_isGood cX1_isGood 2 (some .boolean) 1 := ⟨q_318, q_319, q_320, q_79, q_321, by decide, by decide, by decide +kernel⟩
theorem lk_RX1_70 : sk_lkV RX1 70 yX1_neighboursOf cX1_neighboursOf 4 (some .int) 1 := ⟨q_268, q_270, q_2, q_79, q_271, by decide, by decide, by decide +kernel⟩
theorem lk_RX1_74 : sk_lkS RX1 74 yJ6_bitCount_0f7a4 cJ6_bitCount_0f7a4 1 (some .int) 1 := ⟨q_304, q_305, q_91, q_306, by decide, by decide, by decide +kernel⟩
theorem lk_RX1_79 : sk_lkV RX1 79 yX1_pulsesTo cX1_pulsesTo 4 (some .int) 1 := ⟨q_300, q_301, q_302, q_79, q_303, by decide, by decide, by decide +kernel⟩
theorem lk_RX1_82 : sk_lkV RX1 82 yX1_delayBetween cX1_delayBetween 3 (some .int) 2 := ⟨q_272, q_273, q_274, q_79, q_275, by decide, by decide, by decide +kernel⟩
theorem lk_RX1_86 : sk_lkV RX1 86 yX1_dropPulses cX1_dropPulses 4 none 2 := ⟨q_441, q_443, q_13, q_79, q_444, by decide, by decide, by decide +kernel⟩
theorem lk_RX1_90 : sk_lkV RX1 90 yX1_withNeighbours cX1_withNeighbours 4 (some .int) 1 := ⟨q_264, q_266, q_1, q_79, q_267, by decide, by decide, by decide +kernel⟩
theorem lk_RX1_93 : sk_lkV RX1 93 yX1_partOf cX1_partOf 5 (some .int) 2 := ⟨q_260, q_262, q_0, q_79, q_263, by decide, by decide, by decide +kernel⟩
theorem lk_RX1_99 : sk_lkV RX1 99 yX1_advancePhases cX1_advancePhases 2 none 0 := ⟨q_463, q_465, q_15, q_79, q_466, by decide, by decide, by decide +kernel⟩
theorem lk_RX2_22 : sk_lkV RX2 22 yX1_copyFrom cX1_copyFrom 2 none 1 := ⟨q_518, q_379, q_380, q_79, q_381, by decide, by decide, by decide +kernel⟩
theorem lk_RX3_32 : sk_lkV RX3 32 yX3_readCommand cX3_readCommand 4 (some .boolean) 0 := ⟨q_356, q_358, q_5, q_82, q_359, by decide, by decide, by decide +kernel⟩
theorem lk_RX3_36 : sk_lkV RX3 36 yX3_here cX3_here 1 (some .int) 0 := ⟨q_360, q_362, q_6, q_82, q_363, by decide, by decide, by decide +kernel⟩
theorem lk_RX3_40 : sk_lkS RX3 40 yX3_numbersBehind cX3_numbersBehind 1 (some .int) 1 := ⟨q_364, q_365, q_82, q_366, by decide, by decide, by decide +kernel⟩
theorem lk_RX3_44 : sk_lkV RX3 44 yX3_readNumber cX3_readNumber 3 (some .boolean) 1 := ⟨q_367, q_369, q_7, q_82, q_370, by decide, by decide, by decide +kernel⟩
theorem lk_RX3_48 : sk_lkV RX3 48 yX3_readSign cX3_readSign 2 (some .boolean) 1 := ⟨q_374, q_376, q_8, q_82, q_377, by decide, by decide, by decide +kernel⟩
theorem lk_RX3_51 : sk_lkS RX3 51 yX3_isDigit cX3_isDigit 1 (some .boolean) 1 := ⟨q_371, q_372, q_82, q_373, by decide, by decide, by decide +kernel⟩
theorem lk_RX4_102 : sk_lkV RX4 102 yX1_changeLink cX1_changeLink 5 (some .int) 3 := ⟨q_437, q_438, q_439, q_79, q_440, by decide, by decide, by decide +kernel⟩
theorem lk_RX4_106 : sk_lkV RX4 106 yX1_delayBetween cX1_delayBetween 3 (some .int) 2 := ⟨q_536, q_273, q_274, q_79, q_275, by decide, by decide, by decide +kernel⟩
theorem lk_RX4_111 : sk_lkV RX4 111 yX1_linkCount cX1_linkCount 3 (some .int) 0 := ⟨q_726, q_727, q_728, q_79, q_729, by decide, by decide, by decide +kernel⟩
theorem lk_RX4_116 : sk_lkV RX4 116 yX1_changePeriod cX1_changePeriod 4 (some .int) 1 := ⟨q_738, q_739, q_740, q_79, q_741, by decide, by decide, by decide +kernel⟩
theorem lk_RX4_125 : sk_lkV RX4 125 yX1_changeResponse cX1_changeResponse 4 (some .int) 2 := ⟨q_752, q_753, q_754, q_79, q_755, by decide, by decide, by decide +kernel⟩
theorem lk_RX4_134 : sk_lkV RX4 134 yX1_about cX1_about 3 (some .int) 2 := ⟨q_532, q_533, q_534, q_79, q_535, by decide, by decide, by decide +kernel⟩
theorem lk_RX4_137 : sk_lkV RX4 137 yX1_linksFromTo cX1_linksFromTo 5 (some .int) 2 := ⟨q_778, q_779, q_780, q_79, q_781, by decide, by decide, by decide +kernel⟩
theorem lk_RX4_140 : sk_lkV RX4 140 yX1_allClocks cX1_allClocks 1 (some .int) 0 := ⟨q_252, q_253, q_254, q_79, q_255, by decide, by decide, by decide +kernel⟩
theorem lk_RX4_143 : sk_lkV RX4 143 yX1_partsWithin cX1_partsWithin 5 (some .int) 1 := ⟨q_256, q_257, q_258, q_79, q_259, by decide, by decide, by decide +kernel⟩
theorem lk_RX4_146 : sk_lkS RX4 146 yX4_isTickNumber cX4_isTickNumber 1 (some .boolean) 1 := ⟨q_456, q_457, q_78, q_458, by decide, by decide, by decide +kernel⟩
theorem lk_RX4_151 : sk_lkV RX4 151 yX1_passTicks cX1_passTicks 4 (some .int) 1 := ⟨q_459, q_460, q_461, q_79, q_462, by decide, by decide, by decide +kernel⟩
theorem lk_RX4_161 : sk_lkV RX4 161 yX0_placeOf cX0_placeOf 3 (some .int) 1 := ⟨q_284, q_285, q_286, q_80, q_287, by decide, by decide, by decide +kernel⟩
theorem lk_RX4_175 : sk_lkV RX4 175 yX1_pulseCount cX1_pulseCount 3 (some .int) 0 := ⟨q_296, q_297, q_298, q_79, q_299, by decide, by decide, by decide +kernel⟩
theorem lk_RX4_178 : sk_lkV RX4 178 yX1_groupCount cX1_groupCount 4 (some .int) 1 := ⟨q_314, q_315, q_316, q_79, q_317, by decide, by decide, by decide +kernel⟩
theorem lk_RX4_181 : sk_lkV RX4 181 yX1_phaseOfGroup cX1_phaseOfGroup 4 (some .int) 1 := ⟨q_804, q_805, q_806, q_79, q_807, by decide, by decide, by decide +kernel⟩
theorem lk_RX4_189 : sk_lkV RX4 189 yX1_goodClocksAt cX1_goodClocksAt 4 (some .int) 1 := ⟨q_541, q_542, q_543, q_79, q_544, by decide, by decide, by decide +kernel⟩
theorem lk_RX4_192 : sk_lkV RX4 192 yX1_numberOfGroup cX1_numberOfGroup 4 (some .int) 1 := ⟨q_817, q_818, q_819, q_79, q_820, by decide, by decide, by decide +kernel⟩
theorem lk_RX4_195 : sk_lkV RX4 195 yX1_spreadOfGood cX1_spreadOfGood 4 (some .int) 0 := ⟨q_330, q_331, q_332, q_79, q_333, by decide, by decide, by decide +kernel⟩
theorem lk_RX4_200 : sk_lkS RX4 200 yX4_requireLimit cX4_requireLimit 1 none 1 := ⟨q_829, q_830, q_78, q_831, by decide, by decide, by decide +kernel⟩
theorem lk_RX4_203 : sk_lkV RX4 203 yX1_copyFrom cX1_copyFrom 2 none 1 := ⟨q_378, q_379, q_380, q_79, q_381, by decide, by decide, by decide +kernel⟩
theorem lk_RX4_206 : sk_lkV RX4 206 yX1_passUntilGroups cX1_passUntilGroups 4 (some .int) 2 := ⟨q_833, q_834, q_835, q_79, q_836, by decide, by decide, by decide +kernel⟩
theorem lk_RX4_209 : sk_lkV RX4 209 yX4_lengthOfCycle cX4_lengthOfCycle 3 (some .int) 1 := ⟨q_853, q_855, q_31, q_78, q_856, by decide, by decide, by decide +kernel⟩
theorem lk_RX4_212 : sk_lkV RX4 212 yX4_startOfCycle cX4_startOfCycle 4 (some .int) 2 := ⟨q_865, q_867, q_33, q_78, q_868, by decide, by decide, by decide +kernel⟩
theorem lk_RX4_218 : sk_lkV RX4 218 yX4_imaginePhase cX4_imaginePhase 3 none 2 := ⟨q_883, q_885, q_34, q_78, q_886, by decide, by decide, by decide +kernel⟩
theorem lk_RX4_222 : sk_lkV RX4 222 yX1_hasFired cX1_hasFired 2 (some .boolean) 1 := ⟨q_908, q_480, q_481, q_79, q_482, by decide, by decide, by decide +kernel⟩
theorem lk_RX4_227 : sk_lkV RX4 227 yX3_isFull cX3_isFull 1 (some .boolean) 0 := ⟨q_917, q_918, q_919, q_82, q_920, by decide, by decide, by decide +kernel⟩
theorem lk_RX4_230 : sk_lkV RX4 230 yX3_put cX3_put 2 none 1 := ⟨q_922, q_923, q_924, q_82, q_925, by decide, by decide, by decide +kernel⟩
theorem lk_RX4_236 : sk_lkV RX4 236 yX3_parse cX3_parse 2 (some .boolean) 0 := ⟨q_352, q_353, q_354, q_82, q_355, by decide, by decide, by decide +kernel⟩
theorem lk_RX4_245 : sk_lkV RX4 245 yX4_runInThought cX4_runInThought 5 (some .boolean) 1 := ⟨q_390, q_392, q_9, q_78, q_393, by decide, by decide, by decide +kernel⟩
theorem lk_RX4_253 : sk_lkV RX4 253 yX2_restore cX2_restore 2 none 1 := ⟨q_934, q_935, q_936, q_81, q_937, by decide, by decide, by decide +kernel⟩
theorem lk_RX4_258 : sk_lkS RX4 258 yX4_mix cX4_mix 3 (some .long) 2 := ⟨q_524, q_525, q_78, q_526, by decide, by decide, by decide +kernel⟩
theorem lk_RX4_265 : sk_lkV RX4 265 yX4_mixClocks cX4_mixClocks 8 (some .long) 1 := ⟨q_528, q_530, q_25, q_78, q_531, by decide, by decide, by decide +kernel⟩
theorem lk_RX4_269 : sk_lkV RX4 269 yX4_mixGroups cX4_mixGroups 7 (some .long) 1 := ⟨q_537, q_539, q_26, q_78, q_540, by decide, by decide, by decide +kernel⟩
theorem lk_RX4_272 : sk_lkV RX4 272 yX4_mixNotes cX4_mixNotes 7 (some .long) 1 := ⟨q_545, q_547, q_27, q_78, q_548, by decide, by decide, by decide +kernel⟩
theorem lk_RX4_275 : sk_lkV RX4 275 yX1_hasClock cX1_hasClock 2 (some .boolean) 1 := ⟨q_422, q_423, q_424, q_79, q_425, by decide, by decide, by decide +kernel⟩
theorem lk_RX4_280 : sk_lkV RX4 280 yX1_isPhase cX1_isPhase 2 (some .boolean) 1 := ⟨q_406, q_407, q_408, q_79, q_409, by decide, by decide, by decide +kernel⟩
theorem lk_RX4_287 : sk_lkV RX4 287 yX1_isAlike cX1_isAlike 5 (some .boolean) 1 := ⟨q_857, q_858, q_859, q_79, q_860, by decide, by decide, by decide +kernel⟩
theorem lk_RX4_291 : sk_lkV RX4 291 yX3_numberOf cX3_numberOf 3 (some .int) 2 := ⟨q_394, q_395, q_396, q_82, q_397, by decide, by decide, by decide +kernel⟩
theorem lk_RX4_294 : sk_lkV RX4 294 yX3_letterOf cX3_letterOf 2 (some .int) 1 := ⟨q_398, q_399, q_400, q_82, q_401, by decide, by decide, by decide +kernel⟩
theorem lk_RX4_297 : sk_lkV RX4 297 yX4_addInThought cX4_addInThought 2 (some .boolean) 1 := ⟨q_402, q_404, q_10, q_78, q_405, by decide, by decide, by decide +kernel⟩
theorem lk_RX4_300 : sk_lkV RX4 300 yX4_setPhaseInThought cX4_setPhaseInThought 3 (some .boolean) 2 := ⟨q_418, q_420, q_11, q_78, q_421, by decide, by decide, by decide +kernel⟩
theorem lk_RX4_303 : sk_lkV RX4 303 yX4_linkInThought cX4_linkInThought 4 (some .boolean) 3 := ⟨q_430, q_432, q_12, q_78, q_433, by decide, by decide, by decide +kernel⟩
theorem lk_RX4_307 : sk_lkV RX4 307 yX4_blinkInThought cX4_blinkInThought 4 (some .boolean) 3 := ⟨q_445, q_447, q_14, q_78, q_448, by decide, by decide, by decide +kernel⟩
theorem lk_RX4_36 : sk_lkV RX4 36 yX4_requirePhase cX4_requirePhase 2 none 1 := ⟨q_558, q_560, q_28, q_78, q_561, by decide, by decide, by decide +kernel⟩
theorem lk_RX4_40 : sk_lkV RX4 40 yX1_isFull cX1_isFull 1 (some .boolean) 0 := ⟨q_410, q_411, q_412, q_79, q_413, by decide, by decide, by decide +kernel⟩
theorem lk_RX4_51 : sk_lkV RX4 51 yX2_save cX2_save 2 none 1 := ⟨q_514, q_515, q_516, q_81, q_517, by decide, by decide, by decide +kernel⟩
theorem lk_RX4_55 : sk_lkV RX4 55 yX1_addClock cX1_addClock 3 (some .int) 1 := ⟨q_414, q_415, q_416, q_79, q_417, by decide, by decide, by decide +kernel⟩
theorem lk_RX4_59 : sk_lkV RX4 59 yX4_requireClock cX4_requireClock 2 none 1 := ⟨q_653, q_655, q_30, q_78, q_656, by decide, by decide, by decide +kernel⟩
theorem lk_RX4_62 : sk_lkV RX4 62 yX1_changePhase cX1_changePhase 4 (some .int) 2 := ⟨q_426, q_427, q_428, q_79, q_429, by decide, by decide, by decide +kernel⟩
theorem lk_RX4_71 : sk_lkV RX4 71 yX1_changeDrift cX1_changeDrift 4 (some .int) 2 := ⟨q_681, q_682, q_683, q_79, q_684, by decide, by decide, by decide +kernel⟩
theorem lk_RX4_74 : sk_lkS RX4 74 yX4_isBlinking cX4_isBlinking 2 (some .boolean) 2 := ⟨q_449, q_450, q_78, q_451, by decide, by decide, by decide +kernel⟩
theorem lk_RX4_80 : sk_lkV RX4 80 yX1_makeBlinker cX1_makeBlinker 4 none 3 := ⟨q_452, q_453, q_454, q_79, q_455, by decide, by decide, by decide +kernel⟩
theorem lk_RX4_84 : sk_lkV RX4 84 yX1_blinkerCount cX1_blinkerCount 3 (some .int) 0 := ⟨q_693, q_694, q_695, q_79, q_696, by decide, by decide, by decide +kernel⟩
theorem lk_RX4_88 : sk_lkV RX4 88 yX1_isGood cX1_isGood 2 (some .boolean) 1 := ⟨q_704, q_319, q_320, q_79, q_321, by decide, by decide, by decide +kernel⟩
theorem lk_RX4_94 : sk_lkV RX4 94 yX1_makeGood cX1_makeGood 2 none 1 := ⟨q_706, q_707, q_708, q_79, q_709, by decide, by decide, by decide +kernel⟩
theorem lk_RX4_97 : sk_lkS RX4 97 yX4_isDelay cX4_isDelay 1 (some .boolean) 1 := ⟨q_434, q_435, q_78, q_436, by decide, by decide, by decide +kernel⟩
theorem lk_RX5_101 : sk_lkV RX5 101 yX5_comingTo cX5_comingTo 4 (some .int) 1 := ⟨q_1113, q_1115, q_51, q_83, q_1116, by decide, by decide, by decide +kernel⟩
theorem lk_RX5_104 : sk_lkV RX5 104 yX5_told cX5_told 4 (some .int) 2 := ⟨q_1109, q_1111, q_50, q_83, q_1112, by decide, by decide, by decide +kernel⟩
theorem lk_RX5_107 : sk_lkV RX5 107 yX5_nextTo cX5_nextTo 7 (some .int) 2 := ⟨q_1128, q_1130, q_52, q_83, q_1131, by decide, by decide, by decide +kernel⟩
theorem lk_RX5_110 : sk_lkV RX5 110 yX5_spreads cX5_spreads 5 (some .int) 2 := ⟨q_1144, q_1146, q_55, q_83, q_1147, by decide, by decide, by decide +kernel⟩
theorem lk_RX5_113 : sk_lkV RX5 113 yX5_everyone cX5_everyone 1 (some .int) 0 := ⟨q_1136, q_1138, q_53, q_83, q_1139, by decide, by decide, by decide +kernel⟩
theorem lk_RX5_116 : sk_lkV RX5 116 yX5_parts cX5_parts 5 (some .int) 1 := ⟨q_1140, q_1142, q_54, q_83, q_1143, by decide, by decide, by decide +kernel⟩
theorem lk_RX5_126 : sk_lkV RX5 126 yX5_notes cX5_notes 3 none 1 := ⟨q_1172, q_1174, q_60, q_83, q_1175, by decide, by decide, by decide +kernel⟩
theorem lk_RX5_130 : sk_lkV RX5 130 yX5_fires cX5_fires 3 none 1 := ⟨q_1168, q_1170, q_59, q_83, q_1171, by decide, by decide, by decide +kernel⟩
theorem lk_RX5_133 : sk_lkV RX5 133 yX5_stepOf cX5_stepOf 4 (some .int) 1 := ⟨q_1164, q_1166, q_58, q_83, q_1167, by decide, by decide, by decide +kernel⟩
theorem lk_RX5_136 : sk_lkV RX5 136 yX5_reaches cX5_reaches 5 none 1 := ⟨q_1176, q_1178, q_61, q_83, q_1179, by decide, by decide, by decide +kernel⟩
theorem lk_RX5_139 : sk_lkV RX5 139 yX5_ticks cX5_ticks 3 (some .int) 0 := ⟨q_1160, q_1162, q_57, q_83, q_1163, by decide, by decide, by decide +kernel⟩
theorem lk_RX5_142 : sk_lkV RX5 142 yX5_doTick cX5_doTick 4 (some .int) 1 := ⟨q_1156, q_1158, q_56, q_83, q_1159, by decide, by decide, by decide +kernel⟩
theorem lk_RX5_145 : sk_lkV RX5 145 yX5_pulses cX5_pulses 3 (some .int) 0 := ⟨q_1196, q_1198, q_62, q_83, q_1199, by decide, by decide, by decide +kernel⟩
theorem lk_RX5_148 : sk_lkV RX5 148 yX5_at cX5_at 4 (some .int) 1 := ⟨q_1208, q_1210, q_64, q_83, q_1211, by decide, by decide, by decide +kernel⟩
theorem lk_RX5_151 : sk_lkV RX5 151 yX5_groupMany cX5_groupMany 4 (some .int) 0 := ⟨q_1204, q_1206, q_63, q_83, q_1207, by decide, by decide, by decide +kernel⟩
theorem lk_RX5_154 : sk_lkV RX5 154 yX5_phaseOf cX5_phaseOf 4 (some .int) 1 := ⟨q_1216, q_1218, q_65, q_83, q_1219, by decide, by decide, by decide +kernel⟩
theorem lk_RX5_157 : sk_lkV RX5 157 yX5_spreadOf cX5_spreadOf 6 (some .int) 0 := ⟨q_1228, q_1230, q_66, q_83, q_1231, by decide, by decide, by decide +kernel⟩
theorem lk_RX5_160 : sk_lkS RX5 160 yX5_isLimit cX5_isLimit 1 (some .boolean) 1 := ⟨q_1236, q_1237, q_83, q_1238, by decide, by decide, by decide +kernel⟩
theorem lk_RX5_163 : sk_lkV RX5 163 yX5_leaves cX5_leaves 2 none 0 := ⟨q_1239, q_1241, q_67, q_83, q_1242, by decide, by decide, by decide +kernel⟩
theorem lk_RX5_166 : sk_lkV RX5 166 yX5_until cX5_until 5 (some .int) 2 := ⟨q_1243, q_1245, q_68, q_83, q_1246, by decide, by decide, by decide +kernel⟩
theorem lk_RX5_169 : sk_lkV RX5 169 yX5_comesBack cX5_comesBack 2 none 0 := ⟨q_1247, q_1249, q_69, q_83, q_1250, by decide, by decide, by decide +kernel⟩
theorem lk_RX5_172 : sk_lkV RX5 172 yX5_keepsSituation cX5_keepsSituation 4 none 1 := ⟨q_1259, q_1261, q_70, q_83, q_1262, by decide, by decide, by decide +kernel⟩
theorem lk_RX5_175 : sk_lkV RX5 175 yX5_areAlike cX5_areAlike 5 (some .boolean) 2 := ⟨q_1263, q_1265, q_71, q_83, q_1266, by decide, by decide, by decide +kernel⟩
theorem lk_RX5_179 : sk_lkV RX5 179 yX5_untilWith cX5_untilWith 5 (some .int) 3 := ⟨q_1275, q_1277, q_72, q_83, q_1278, by decide, by decide, by decide +kernel⟩
theorem lk_RX5_188 : sk_lkV RX5 188 yX5_letter cX5_letter 1 (some .int) 0 := ⟨q_1307, q_1309, q_74, q_83, q_1310, by decide, by decide, by decide +kernel⟩
theorem lk_RX5_191 : sk_lkS RX5 191 yX5_numbersOf cX5_numbersOf 1 (some .int) 1 := ⟨q_1311, q_1312, q_83, q_1313, by decide, by decide, by decide +kernel⟩
theorem lk_RX5_197 : sk_lkS RX5 197 yX5_isFigure cX5_isFigure 1 (some .boolean) 1 := ⟨q_1314, q_1315, q_83, q_1316, by decide, by decide, by decide +kernel⟩
theorem lk_RX5_200 : sk_lkV RX5 200 yX5_takesCommand cX5_takesCommand 4 (some .boolean) 0 := ⟨q_1303, q_1305, q_73, q_83, q_1306, by decide, by decide, by decide +kernel⟩
theorem lk_RX5_204 : sk_lkV RX5 204 yX5_does cX5_does 6 (some .boolean) 1 := ⟨q_1317, q_1319, q_75, q_83, q_1320, by decide, by decide, by decide +kernel⟩
theorem lk_RX5_215 : sk_lkV RX5 215 yX5_mix cX5_mix 2 none 1 := ⟨q_1326, q_1328, q_76, q_83, q_1329, by decide, by decide, by decide +kernel⟩
theorem lk_RX5_39 : sk_lkS RX5 39 yX5_within cX5_within 3 (some .boolean) 3 := ⟨q_1014, q_1015, q_83, q_1016, by decide, by decide, by decide +kernel⟩
theorem lk_RX5_46 : sk_lkV RX5 46 yX5_refused cX5_refused 2 (some .boolean) 1 := ⟨q_1002, q_1004, q_35, q_83, q_1005, by decide, by decide, by decide +kernel⟩
theorem lk_RX5_50 : sk_lkV RX5 50 yX5_mayAdd cX5_mayAdd 2 (some .int) 1 := ⟨q_1010, q_1012, q_36, q_83, q_1013, by decide, by decide, by decide +kernel⟩
theorem lk_RX5_54 : sk_lkV RX5 54 yX5_saves cX5_saves 2 none 0 := ⟨q_1017, q_1019, q_37, q_83, q_1020, by decide, by decide, by decide +kernel⟩
theorem lk_RX5_57 : sk_lkV RX5 57 yX5_doAdd cX5_doAdd 3 (some .int) 1 := ⟨q_1021, q_1023, q_38, q_83, q_1024, by decide, by decide, by decide +kernel⟩
theorem lk_RX5_60 : sk_lkV RX5 60 yX5_isClock cX5_isClock 2 (some .boolean) 1 := ⟨q_1033, q_1035, q_40, q_83, q_1036, by decide, by decide, by decide +kernel⟩
theorem lk_RX5_63 : sk_lkV RX5 63 yX5_mayPhase cX5_mayPhase 3 (some .int) 2 := ⟨q_1029, q_1031, q_39, q_83, q_1032, by decide, by decide, by decide +kernel⟩
theorem lk_RX5_67 : sk_lkV RX5 67 yX5_blinkers cX5_blinkers 3 (some .int) 0 := ⟨q_1053, q_1055, q_43, q_83, q_1056, by decide, by decide, by decide +kernel⟩
theorem lk_RX5_71 : sk_lkV RX5 71 yX5_mayBlink cX5_mayBlink 4 (some .int) 3 := ⟨q_1045, q_1047, q_41, q_83, q_1048, by decide, by decide, by decide +kernel⟩
theorem lk_RX5_75 : sk_lkV RX5 75 yX5_doBlink cX5_doBlink 4 (some .int) 3 := ⟨q_1049, q_1051, q_42, q_83, q_1052, by decide, by decide, by decide +kernel⟩
theorem lk_RX5_78 : sk_lkV RX5 78 yX5_delay cX5_delay 3 (some .int) 2 := ⟨q_1073, q_1075, q_46, q_83, q_1076, by decide, by decide, by decide +kernel⟩
theorem lk_RX5_81 : sk_lkV RX5 81 yX5_lays cX5_lays 4 none 3 := ⟨q_1077, q_1079, q_47, q_83, q_1080, by decide, by decide, by decide +kernel⟩
theorem lk_RX5_85 : sk_lkV RX5 85 yX5_mayLink cX5_mayLink 5 (some .int) 3 := ⟨q_1065, q_1067, q_44, q_83, q_1068, by decide, by decide, by decide +kernel⟩
theorem lk_RX5_88 : sk_lkV RX5 88 yX5_doLink cX5_doLink 5 (some .int) 3 := ⟨q_1069, q_1071, q_45, q_83, q_1072, by decide, by decide, by decide +kernel⟩
theorem lk_RX5_91 : sk_lkV RX5 91 yX5_linksOf cX5_linksOf 4 (some .int) 1 := ⟨q_1085, q_1087, q_48, q_83, q_1088, by decide, by decide, by decide +kernel⟩
theorem lk_RX5_94 : sk_lkV RX5 94 yX5_need cX5_need 2 (some .int) 1 := ⟨q_1093, q_1095, q_49, q_83, q_1096, by decide, by decide, by decide +kernel⟩
theorem lk_RX5_98 : sk_lkS RX5 98 yX5_bits cX5_bits 3 (some .int) 1 := ⟨q_1117, q_1118, q_83, q_1119, by decide, by decide, by decide +kernel⟩
