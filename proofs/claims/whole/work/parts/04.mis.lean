def tabs : List (List Row) := [tb0, tb1, tb2, tb3, tb4, tb5, tb6, tb7, tb8, tb9, tb10, tb11, tb12, tb13, tb14, tb15, tb16, tb17, tb18, tb19, tb20, tb21, tb22, tb23, tb24, tb25, tb26, tb27, tb28, tb29, tb30, tb31, tb32, tb33, tb34, tb35, tb36, tb37, tb38, tb39, tb40, tb41, tb42, tb43, tb44, tb45, tb46, tb47, tb48, tb49, tb50, tb51, tb52, tb53, tb54, tb55, tb56, tb57, tb58, tb59, tb60, tb61, tb62, tb63, tb64, tb65, tb66, tb67, tb68, tb69, tb70, tb71, tb72, tb73, tb74, tb75, tb76, tb77, tb78, tb79, tb80, tb81, tb82, tb83, tb84, tb85, tb86, tb87, tb88, tb89, tb90, tb91, tb92, tb93, tb94, tb95, tb96, tb97, tb98, tb99, tb100, tb101, tb102, tb103, tb104, tb105, tb106, tb107, tb108, tb109, tb110, tb111, tb112, tb113, tb114, tb115, tb116, tb117, tb118, tb119, tb120, tb121, tb122, tb123, tb124, tb125, tb126, tb127, tb128, tb129, tb130, tb131, tb132, tb133, tb134, tb135, tb136, tb137, tb138, tb139, tb140, tb141, tb142, tb143, tb144, tb145, tb146, tb147, tb148, tb149, tb150, tb151, tb152, tb153, tb154, tb155, tb156, tb157, tb158, tb159, tb160, tb161, tb162, tb163, tb164, tb165, tb166, tb167, tb168, tb169, tb170, tb171, tb172, tb173, tb174, tb175, tb176, tb177, tb178, tb179, tb180, tb181]
abbrev iC_find : Nat := 0
abbrev iC_foresee : Nat := 1
abbrev iC_turn : Nat := 2
abbrev iC_stepAsForeseen : Nat := 3
abbrev iC_stepOnce : Nat := 4
abbrev iC_ofLongs : Nat := 5
abbrev iD_run : Nat := 6
abbrev iD_divideAt : Nat := 7
abbrev iD_guess : Nat := 8
abbrev iD_takeOff : Nat := 9
abbrev iD_putBack : Nat := 10
abbrev iN_take_J : Nat := 11
abbrev iN_wipe : Nat := 12
abbrev iN_measure : Nat := 13
abbrev iN_length : Nat := 14
abbrev iN_wordAt : Nat := 15
abbrev iN_giveWords : Nat := 16
abbrev iN_isZero : Nat := 17
abbrev iN_isOne : Nat := 18
abbrev iN_take_N : Nat := 19
abbrev iN_compareWith : Nat := 20
abbrev iN_bitsFrom : Nat := 21
abbrev iN_shiftUp : Nat := 22
abbrev iN_shiftDown : Nat := 23
abbrev iN_lowest : Nat := 24
abbrev iN_zerosBelow : Nat := 25
abbrev iN_takeWords : Nat := 26
abbrev iN_takeProduct : Nat := 27
abbrev iN_subtract : Nat := 28
abbrev iN_add : Nat := 29
abbrev iN_addOne : Nat := 30
abbrev iR_straightenZero : Nat := 31
abbrev iR_isWhole : Nat := 32
abbrev iR_timesTwoTo : Nat := 33
abbrev iR_isWholeWithin : Nat := 34
abbrev iR_takeWhole : Nat := 35
abbrev iR_take : Nat := 36
abbrev iX_clear : Nat := 37
abbrev iX_count : Nat := 38
abbrev iX_whole : Nat := 39
abbrev iX_compare : Nat := 40
abbrev iX_sizeOf : Nat := 41
abbrev iX_keep : Nat := 42
abbrev iX_needBits : Nat := 43
abbrev iX_lengthOf : Nat := 44
abbrev iX_fraction : Nat := 45
abbrev iX_reduce : Nat := 46
abbrev iX_real : Nat := 47
abbrev iX_act : Nat := 48
abbrev iX_needNumber : Nat := 49
abbrev iX_read : Nat := 50
abbrev iX_needFitting : Nat := 51
abbrev iX_needDivisor : Nat := 52
abbrev iX_perform : Nat := 53
abbrev iX_add : Nat := 54
abbrev iX_multiply : Nat := 55
abbrev iX_divide : Nat := 56
abbrev iX_takeQuotient : Nat := 57
abbrev iX_takeRest : Nat := 58
abbrev iX_raise : Nat := 59
abbrev iX_raiseInto : Nat := 60
abbrev iX_compareRead : Nat := 61
abbrev iX_word : Nat := 62
abbrev iX_sign : Nat := 63
abbrev iX_bits : Nat := 64
abbrev iX_wrap : Nat := 65
abbrev iX_order : Nat := 66
abbrev iX_meets : Nat := 67
abbrev iX_compareSizeWith : Nat := 68
abbrev iX_nearest : Nat := 69
abbrev iX_needDirection : Nat := 70
abbrev iX_formatRead : Nat := 71
abbrev iX_single : Nat := 72
abbrev iX_machine : Nat := 73
abbrev iX_cast : Nat := 74
abbrev iM_thrown : Nat := 75
abbrev iM_whole : Nat := 76
abbrev iM_size : Nat := 77
abbrev iM_set : Nat := 78
abbrev iM_zero : Nat := 79
abbrev iM_make : Nat := 80
abbrev iM_isZero : Nat := 81
abbrev iM_greatest : Nat := 82
abbrev iM_copy : Nat := 83
abbrev iM_isEven : Nat := 84
abbrev iM_halve : Nat := 85
abbrev iM_compare : Nat := 86
abbrev iM_swap : Nat := 87
abbrev iM_take : Nat := 88
abbrev iM_up : Nat := 89
abbrev iM_divide : Nat := 90
abbrev iM_length : Nat := 91
abbrev iM_bit : Nat := 92
abbrev iM_fails : Nat := 93
abbrev iM_fraction : Nat := 94
abbrev iM_real : Nat := 95
abbrev iM_exponent : Nat := 96
abbrev iM_factor : Nat := 97
abbrev iM_part : Nat := 98
abbrev iM_place : Nat := 99
abbrev iM_signOf : Nat := 100
abbrev iM_act : Nat := 101
abbrev iM_isNumber : Nat := 102
abbrev iM_isWhole : Nat := 103
abbrev iM_isSmall : Nat := 104
abbrev iM_power : Nat := 105
abbrev iM_loadP : Nat := 106
abbrev iM_loadQ : Nat := 107
abbrev iM_times : Nat := 108
abbrev iM_order : Nat := 109
abbrev iM_level : Nat := 110
abbrev iM_reckon : Nat := 111
abbrev iM_sum : Nat := 112
abbrev iM_add : Nat := 113
abbrev iM_clear : Nat := 114
abbrev iM_count : Nat := 115
abbrev iM_word : Nat := 116
abbrev iM_sign : Nat := 117
abbrev iM_bits : Nat := 118
abbrev iM_wrap : Nat := 119
abbrev iM_meets : Nat := 120
abbrev iM_isNo : Nat := 121
abbrev iM_isInfinite : Nat := 122
abbrev iM_nearest : Nat := 123
abbrev iM_isDirection : Nat := 124
abbrev iM_form : Nat := 125
abbrev iM_round : Nat := 126
abbrev iM_encode : Nat := 127
abbrev iM_single : Nat := 128
abbrev iM_machine : Nat := 129
abbrev iM_remainder : Nat := 130
abbrev iM_scaled : Nat := 131
abbrev iM_rounded : Nat := 132
abbrev iM_front : Nat := 133
abbrev iM_rank : Nat := 134
abbrev iM_machineMore : Nat := 135
abbrev iM_cast : Nat := 136
abbrev iM_cut : Nat := 137
abbrev iM_floatBits : Nat := 138
abbrev iM_fromFloat : Nat := 139
abbrev iF_isFinite : Nat := 140
abbrev iF_sizeOf : Nat := 141
abbrev iF_significand : Nat := 142
abbrev iF_exponent : Nat := 143
abbrev iF_sideOf : Nat := 144
abbrev iF_hasSign : Nat := 145
abbrev iF_scale : Nat := 146
abbrev iF_isNoNumber : Nat := 147
abbrev iF_encode : Nat := 148
abbrev iF_signed : Nat := 149
abbrev iF_beyond : Nat := 150
abbrev iF_dropLow : Nat := 151
abbrev iH_remainder : Nat := 152
abbrev iH_oneIsNoNumber : Nat := 153
abbrev iH_restOfShifted : Nat := 154
abbrev iH_toWhole : Nat := 155
abbrev iH_greater : Nat := 156
abbrev iH_rank : Nat := 157
abbrev iH_lesser : Nat := 158
abbrev iH_withSignOf : Nat := 159
abbrev iH_nextAbove : Nat := 160
abbrev iH_stepAt : Nat := 161
abbrev iH_timesTwoTo : Nat := 162
abbrev iH_relation : Nat := 163
abbrev iH_toLong : Nat := 164
abbrev iH_toInt : Nat := 165
abbrev iH_changeFormat : Nat := 166
abbrev iL_whole : Nat := 167
abbrev iL_fraction : Nat := 168
abbrev iL_real : Nat := 169
abbrev iL_act : Nat := 170
abbrev iL_word : Nat := 171
abbrev iL_sign : Nat := 172
abbrev iL_bits : Nat := 173
abbrev iL_wrap : Nat := 174
abbrev iL_order : Nat := 175
abbrev iL_meets : Nat := 176
abbrev iL_nearest : Nat := 177
abbrev iL_single : Nat := 178
abbrev iL_machine : Nat := 179
abbrev iL_cast : Nat := 180
abbrev iL_law : Nat := 181
abbrev MI : Type := String × MethodName × ByteArray × Nat × Option FieldType × Nat × Nat × Nat × (Nat × Nat × Nat × Nat) × List (Nat × Nat × Nat × Nat)
def mis : List MI := [
  ("NumberModels$CommonDivisor", ⟨"NumberModels$CommonDivisor", "find", "(LNumberModels$Natural;LNumberModels$Natural;)V"⟩, prog_2_method_2_code, 4, none, 0, 0, 3, (397, 395, 396, 74), []),
  ("NumberModels$CommonDivisor", ⟨"NumberModels$CommonDivisor", "foresee", "()Z"⟩, prog_2_method_4_code, 11, (some .boolean), 0, 0, 1, (409, 408, 6, 74), []),
  ("NumberModels$CommonDivisor", ⟨"NumberModels$CommonDivisor", "turn", "(J)Z"⟩, prog_2_method_5_code, 7, (some .boolean), 0, 0, 2, (422, 421, 7, 74), []),
  ("NumberModels$CommonDivisor", ⟨"NumberModels$CommonDivisor", "stepAsForeseen", "()V"⟩, prog_2_method_6_code, 11, none, 0, 0, 1, (430, 429, 8, 74), []),
  ("NumberModels$CommonDivisor", ⟨"NumberModels$CommonDivisor", "stepOnce", "()V"⟩, prog_2_method_3_code, 1, none, 0, 0, 1, (436, 435, 9, 74), []),
  ("NumberModels$CommonDivisor", ⟨"NumberModels$CommonDivisor", "ofLongs", "(JJ)J"⟩, prog_2_method_7_code, 11, (some .long), 1, 0, 2, (483, 482, 0, 74), []),
  ("NumberModels$Division", ⟨"NumberModels$Division", "run", "(LNumberModels$Natural;LNumberModels$Natural;)V"⟩, prog_3_method_2_code, 6, none, 0, 1, 3, (440, 438, 439, 73), []),
  ("NumberModels$Division", ⟨"NumberModels$Division", "divideAt", "(I)J"⟩, prog_3_method_3_code, 8, (some .long), 0, 1, 2, (457, 456, 10, 73), []),
  ("NumberModels$Division", ⟨"NumberModels$Division", "guess", "(JJJ)J"⟩, prog_3_method_4_code, 10, (some .long), 1, 1, 3, (461, 460, 0, 73), []),
  ("NumberModels$Division", ⟨"NumberModels$Division", "takeOff", "(JI)J"⟩, prog_3_method_5_code, 13, (some .long), 0, 1, 3, (466, 465, 11, 73), []),
  ("NumberModels$Division", ⟨"NumberModels$Division", "putBack", "(I)J"⟩, prog_3_method_6_code, 7, (some .long), 0, 1, 2, (470, 469, 12, 73), []),
  ("NumberModels$Natural", ⟨"NumberModels$Natural", "take", "(J)V"⟩, prog_6_method_8_code, 3, none, 0, 2, 2, (246, 244, 245, 72), []),
  ("NumberModels$Natural", ⟨"NumberModels$Natural", "wipe", "()V"⟩, prog_6_method_20_code, 2, none, 0, 2, 1, (250, 249, 0, 72), []),
  ("NumberModels$Natural", ⟨"NumberModels$Natural", "measure", "(I)V"⟩, prog_6_method_21_code, 2, none, 0, 2, 2, (255, 254, 1, 72), []),
  ("NumberModels$Natural", ⟨"NumberModels$Natural", "length", "()I"⟩, prog_6_method_6_code, 1, (some .int), 0, 2, 1, (336, 334, 335, 72), []),
  ("NumberModels$Natural", ⟨"NumberModels$Natural", "wordAt", "(I)J"⟩, prog_6_method_4_code, 2, (some .long), 0, 2, 2, (340, 338, 339, 72), []),
  ("NumberModels$Natural", ⟨"NumberModels$Natural", "giveWords", "([JI)V"⟩, prog_6_method_11_code, 4, none, 0, 2, 3, (348, 346, 347, 72), []),
  ("NumberModels$Natural", ⟨"NumberModels$Natural", "isZero", "()Z"⟩, prog_6_method_2_code, 1, (some .boolean), 0, 2, 1, (384, 382, 383, 72), []),
  ("NumberModels$Natural", ⟨"NumberModels$Natural", "isOne", "()Z"⟩, prog_6_method_3_code, 1, (some .boolean), 0, 2, 1, (393, 391, 392, 72), []),
  ("NumberModels$Natural", ⟨"NumberModels$Natural", "take", "(LNumberModels$Natural;)V"⟩, prog_6_method_9_code, 2, none, 0, 2, 2, (401, 399, 400, 72), []),
  ("NumberModels$Natural", ⟨"NumberModels$Natural", "compareWith", "(LNumberModels$Natural;)I"⟩, prog_6_method_16_code, 3, (some .int), 0, 2, 2, (413, 411, 412, 72), []),
  ("NumberModels$Natural", ⟨"NumberModels$Natural", "bitsFrom", "(I)J"⟩, prog_6_method_19_code, 4, (some .long), 0, 2, 2, (418, 416, 417, 72), []),
  ("NumberModels$Natural", ⟨"NumberModels$Natural", "shiftUp", "(I)V"⟩, prog_6_method_17_code, 6, none, 0, 2, 2, (449, 447, 448, 72), []),
  ("NumberModels$Natural", ⟨"NumberModels$Natural", "shiftDown", "(I)V"⟩, prog_6_method_18_code, 5, none, 0, 2, 2, (475, 473, 474, 72), []),
  ("NumberModels$Natural", ⟨"NumberModels$Natural", "lowest", "()J"⟩, prog_6_method_5_code, 1, (some .long), 0, 2, 1, (480, 478, 479, 72), []),
  ("NumberModels$Natural", ⟨"NumberModels$Natural", "zerosBelow", "()I"⟩, prog_6_method_7_code, 2, (some .int), 0, 2, 1, (539, 537, 538, 72), []),
  ("NumberModels$Natural", ⟨"NumberModels$Natural", "takeWords", "([JI)V"⟩, prog_6_method_10_code, 4, none, 0, 2, 3, (583, 581, 582, 72), []),
  ("NumberModels$Natural", ⟨"NumberModels$Natural", "takeProduct", "(LNumberModels$Natural;LNumberModels$Natural;)V"⟩, prog_6_method_12_code, 10, none, 0, 2, 3, (626, 624, 625, 72), []),
  ("NumberModels$Natural", ⟨"NumberModels$Natural", "subtract", "(LNumberModels$Natural;)V"⟩, prog_6_method_15_code, 7, none, 0, 2, 2, (631, 629, 630, 72), []),
  ("NumberModels$Natural", ⟨"NumberModels$Natural", "add", "(LNumberModels$Natural;)V"⟩, prog_6_method_13_code, 8, none, 0, 2, 2, (635, 633, 634, 72), []),
  ("NumberModels$Natural", ⟨"NumberModels$Natural", "addOne", "()V"⟩, prog_6_method_14_code, 7, none, 0, 2, 1, (652, 650, 651, 72), []),
  ("NumberModels$Ratio", ⟨"NumberModels$Ratio", "straightenZero", "()V"⟩, prog_7_method_4_code, 1, none, 0, 3, 1, (380, 378, 379, 71), []),
  ("NumberModels$Ratio", ⟨"NumberModels$Ratio", "isWhole", "()Z"⟩, prog_7_method_5_code, 1, (some .boolean), 0, 3, 1, (389, 387, 388, 71), []),
  ("NumberModels$Ratio", ⟨"NumberModels$Ratio", "timesTwoTo", "(I)V"⟩, prog_7_method_7_code, 6, none, 0, 3, 2, (532, 530, 531, 71), []),
  ("NumberModels$Ratio", ⟨"NumberModels$Ratio", "isWholeWithin", "(I)Z"⟩, prog_7_method_6_code, 2, (some .boolean), 0, 3, 2, (591, 589, 590, 71), []),
  ("NumberModels$Ratio", ⟨"NumberModels$Ratio", "takeWhole", "(ILNumberModels$Natural;)V"⟩, prog_7_method_3_code, 3, none, 0, 3, 3, (656, 654, 655, 71), []),
  ("NumberModels$Ratio", ⟨"NumberModels$Ratio", "take", "(LNumberModels$Ratio;)V"⟩, prog_7_method_2_code, 2, none, 0, 3, 2, (676, 674, 675, 71), []),
  ("NumberModels", ⟨"NumberModels", "clear", "()I"⟩, prog_1_method_6_code, 2, (some .int), 0, 4, 1, (224, 222, 223, 70), []),
  ("NumberModels", ⟨"NumberModels", "count", "()I"⟩, prog_1_method_7_code, 1, (some .int), 0, 4, 1, (228, 226, 227, 70), []),
  ("NumberModels", ⟨"NumberModels", "whole", "(J)I"⟩, prog_1_method_2_code, 3, (some .int), 0, 4, 2, (236, 234, 235, 70), []),
  ("NumberModels", ⟨"NumberModels", "compare", "(JJ)I"⟩, prog_1_method_37_code, 4, (some .int), 1, 4, 2, (239, 238, 0, 70), []),
  ("NumberModels", ⟨"NumberModels", "sizeOf", "(J)J"⟩, prog_1_method_38_code, 2, (some .long), 1, 4, 1, (242, 241, 0, 70), []),
  ("NumberModels", ⟨"NumberModels", "keep", "()I"⟩, prog_1_method_24_code, 1, (some .int), 0, 4, 1, (259, 258, 2, 70), []),
  ("NumberModels", ⟨"NumberModels", "needBits", "(LNumberModels$Natural;)V"⟩, prog_1_method_22_code, 2, none, 0, 4, 2, (332, 331, 4, 70), []),
  ("NumberModels", ⟨"NumberModels", "lengthOf", "(J)I"⟩, prog_1_method_39_code, 6, (some .int), 1, 4, 1, (343, 342, 0, 70), []),
  ("NumberModels", ⟨"NumberModels", "fraction", "(JJ)I"⟩, prog_1_method_3_code, 5, (some .int), 0, 4, 3, (356, 354, 355, 70), []),
  ("NumberModels", ⟨"NumberModels", "reduce", "()V"⟩, prog_1_method_33_code, 1, none, 0, 4, 1, (376, 375, 5, 70), []),
  ("NumberModels", ⟨"NumberModels", "real", "(J)I"⟩, prog_1_method_4_code, 3, (some .int), 0, 4, 2, (493, 491, 492, 70), []),
  ("NumberModels", ⟨"NumberModels", "act", "(III)I"⟩, prog_1_method_5_code, 4, (some .int), 0, 4, 4, (555, 553, 554, 70), []),
  ("NumberModels", ⟨"NumberModels", "needNumber", "(I)V"⟩, prog_1_method_18_code, 2, none, 0, 4, 2, (559, 558, 13, 70), []),
  ("NumberModels", ⟨"NumberModels", "read", "(ILNumberModels$Ratio;)V"⟩, prog_1_method_23_code, 3, none, 0, 4, 3, (579, 578, 14, 70), []),
  ("NumberModels", ⟨"NumberModels", "needFitting", "(I)V"⟩, prog_1_method_20_code, 3, none, 0, 4, 2, (587, 586, 15, 70), []),
  ("NumberModels", ⟨"NumberModels", "needDivisor", "(I)V"⟩, prog_1_method_21_code, 4, none, 0, 4, 2, (613, 612, 16, 70), []),
  ("NumberModels", ⟨"NumberModels", "perform", "(I)V"⟩, prog_1_method_25_code, 2, none, 0, 4, 2, (618, 617, 17, 70), []),
  ("NumberModels", ⟨"NumberModels", "add", "(I)V"⟩, prog_1_method_26_code, 4, none, 0, 4, 2, (622, 621, 18, 70), []),
  ("NumberModels", ⟨"NumberModels", "multiply", "(LNumberModels$Natural;LNumberModels$Natural;)V"⟩, prog_1_method_27_code, 3, none, 0, 4, 3, (640, 639, 19, 70), []),
  ("NumberModels", ⟨"NumberModels", "divide", "()V"⟩, prog_1_method_28_code, 1, none, 0, 4, 1, (644, 643, 20, 70), []),
  ("NumberModels", ⟨"NumberModels", "takeQuotient", "(Z)V"⟩, prog_1_method_29_code, 3, none, 0, 4, 2, (648, 647, 21, 70), []),
  ("NumberModels", ⟨"NumberModels", "takeRest", "(Z)V"⟩, prog_1_method_30_code, 2, none, 0, 4, 2, (662, 661, 22, 70), []),
  ("NumberModels", ⟨"NumberModels", "raise", "(I)V"⟩, prog_1_method_31_code, 3, none, 0, 4, 2, (667, 666, 23, 70), []),
  ("NumberModels", ⟨"NumberModels", "raiseInto", "(LNumberModels$Natural;LNumberModels$Natural;I)V"⟩, prog_1_method_32_code, 5, none, 0, 4, 4, (671, 670, 24, 70), []),
  ("NumberModels", ⟨"NumberModels", "compareRead", "()I"⟩, prog_1_method_34_code, 1, (some .int), 0, 4, 1, (680, 679, 25, 70), []),
  ("NumberModels", ⟨"NumberModels", "word", "(II)J"⟩, prog_1_method_8_code, 3, (some .long), 0, 4, 3, (687, 685, 686, 70), []),
  ("NumberModels", ⟨"NumberModels", "sign", "(I)I"⟩, prog_1_method_9_code, 2, (some .int), 0, 4, 2, (695, 693, 694, 70), []),
  ("NumberModels", ⟨"NumberModels", "bits", "(IZ)I"⟩, prog_1_method_10_code, 3, (some .int), 0, 4, 3, (702, 700, 701, 70), []),
  ("NumberModels", ⟨"NumberModels", "wrap", "(IIZ)J"⟩, prog_1_method_11_code, 9, (some .long), 0, 4, 4, (709, 707, 708, 70), []),
  ("NumberModels", ⟨"NumberModels", "order", "(II)I"⟩, prog_1_method_12_code, 3, (some .int), 0, 4, 3, (717, 715, 716, 70), []),
  ("NumberModels", ⟨"NumberModels", "meets", "(IJ)I"⟩, prog_1_method_13_code, 5, (some .int), 0, 4, 3, (724, 722, 723, 70), []),
  ("NumberModels", ⟨"NumberModels", "compareSizeWith", "(J)I"⟩, prog_1_method_35_code, 7, (some .int), 0, 4, 2, (733, 732, 26, 70), []),
  ("NumberModels", ⟨"NumberModels", "nearest", "(II)J"⟩, prog_1_method_14_code, 3, (some .long), 0, 4, 3, (742, 740, 741, 70), []),
  ("NumberModels", ⟨"NumberModels", "needDirection", "(I)V"⟩, prog_1_method_19_code, 2, none, 0, 4, 2, (746, 745, 27, 70), []),
  ("NumberModels", ⟨"NumberModels", "formatRead", "(LNumberModels$Format;I)J"⟩, prog_1_method_36_code, 5, (some .long), 0, 4, 3, (751, 750, 28, 70), []),
  ("NumberModels", ⟨"NumberModels", "single", "(II)I"⟩, prog_1_method_15_code, 3, (some .int), 0, 4, 3, (776, 774, 775, 70), []),
  ("NumberModels", ⟨"NumberModels", "machine", "(IJJ)J"⟩, prog_1_method_16_code, 6, (some .long), 0, 4, 4, (785, 783, 784, 70), []),
  ("NumberModels", ⟨"NumberModels", "cast", "(IJ)J"⟩, prog_1_method_17_code, 4, (some .long), 0, 4, 3, (851, 849, 850, 70), []),
  ("NumberModelsModel", ⟨"NumberModelsModel", "thrown", "()I"⟩, prog_9_method_2_code, 1, (some .int), 0, 5, 1, (907, 905, 906, 75), []),
  ("NumberModelsModel", ⟨"NumberModelsModel", "whole", "(J)I"⟩, prog_9_method_25_code, 3, (some .int), 0, 5, 2, (911, 909, 910, 75), []),
  ("NumberModelsModel", ⟨"NumberModelsModel", "size", "(J)J"⟩, prog_9_method_24_code, 2, (some .long), 1, 5, 1, (914, 913, 0, 75), []),
  ("NumberModelsModel", ⟨"NumberModelsModel", "set", "(IJ)V"⟩, prog_9_method_5_code, 4, none, 0, 5, 3, (918, 917, 30, 75), []),
  ("NumberModelsModel", ⟨"NumberModelsModel", "zero", "(I)V"⟩, prog_9_method_4_code, 3, none, 0, 5, 2, (922, 921, 31, 75), []),
  ("NumberModelsModel", ⟨"NumberModelsModel", "make", "(II)I"⟩, prog_9_method_23_code, 4, (some .int), 0, 5, 3, (927, 926, 32, 75), []),
  ("NumberModelsModel", ⟨"NumberModelsModel", "isZero", "(I)Z"⟩, prog_9_method_7_code, 3, (some .boolean), 0, 5, 2, (931, 930, 33, 75), []),
  ("NumberModelsModel", ⟨"NumberModelsModel", "greatest", "(II)V"⟩, prog_9_method_18_code, 4, none, 0, 5, 3, (935, 934, 34, 75), []),
  ("NumberModelsModel", ⟨"NumberModelsModel", "copy", "(II)V"⟩, prog_9_method_6_code, 4, none, 0, 5, 3, (939, 938, 35, 75), []),
  ("NumberModelsModel", ⟨"NumberModelsModel", "isEven", "(I)Z"⟩, prog_9_method_16_code, 2, (some .boolean), 0, 5, 2, (943, 942, 36, 75), []),
  ("NumberModelsModel", ⟨"NumberModelsModel", "halve", "(I)V"⟩, prog_9_method_15_code, 7, none, 0, 5, 2, (947, 946, 37, 75), []),
  ("NumberModelsModel", ⟨"NumberModelsModel", "compare", "(II)I"⟩, prog_9_method_8_code, 4, (some .int), 0, 5, 3, (951, 950, 38, 75), []),
  ("NumberModelsModel", ⟨"NumberModelsModel", "swap", "(II)V"⟩, prog_9_method_19_code, 6, none, 0, 5, 3, (955, 954, 39, 75), []),
  ("NumberModelsModel", ⟨"NumberModelsModel", "take", "(II)V"⟩, prog_9_method_10_code, 8, none, 0, 5, 3, (959, 958, 40, 75), []),
  ("NumberModelsModel", ⟨"NumberModelsModel", "up", "(II)V"⟩, prog_9_method_14_code, 10, none, 0, 5, 3, (963, 962, 41, 75), []),
  ("NumberModelsModel", ⟨"NumberModelsModel", "divide", "(IIII)V"⟩, prog_9_method_17_code, 6, none, 0, 5, 5, (967, 966, 42, 75), []),
  ("NumberModelsModel", ⟨"NumberModelsModel", "length", "(I)I"⟩, prog_9_method_12_code, 4, (some .int), 0, 5, 2, (971, 970, 43, 75), []),
  ("NumberModelsModel", ⟨"NumberModelsModel", "bit", "(II)J"⟩, prog_9_method_13_code, 3, (some .long), 0, 5, 3, (975, 974, 44, 75), []),
  ("NumberModelsModel", ⟨"NumberModelsModel", "fails", "(I)I"⟩, prog_9_method_3_code, 2, (some .int), 0, 5, 2, (979, 978, 45, 75), []),
  ("NumberModelsModel", ⟨"NumberModelsModel", "fraction", "(JJ)I"⟩, prog_9_method_26_code, 5, (some .int), 0, 5, 3, (983, 981, 982, 75), []),
  ("NumberModelsModel", ⟨"NumberModelsModel", "real", "(J)I"⟩, prog_9_method_34_code, 4, (some .int), 0, 5, 2, (987, 985, 986, 75), []),
  ("NumberModelsModel", ⟨"NumberModelsModel", "exponent", "(J)I"⟩, prog_9_method_27_code, 2, (some .int), 1, 5, 1, (990, 989, 0, 75), []),
  ("NumberModelsModel", ⟨"NumberModelsModel", "factor", "(J)J"⟩, prog_9_method_31_code, 2, (some .long), 1, 5, 1, (994, 993, 0, 75), []),
  ("NumberModelsModel", ⟨"NumberModelsModel", "part", "(J)J"⟩, prog_9_method_28_code, 2, (some .long), 1, 5, 1, (997, 996, 0, 75), []),
  ("NumberModelsModel", ⟨"NumberModelsModel", "place", "(J)I"⟩, prog_9_method_32_code, 2, (some .int), 1, 5, 1, (1002, 1001, 0, 75), []),
  ("NumberModelsModel", ⟨"NumberModelsModel", "signOf", "(J)I"⟩, prog_9_method_33_code, 2, (some .int), 1, 5, 1, (1005, 1004, 0, 75), []),
  ("NumberModelsModel", ⟨"NumberModelsModel", "act", "(III)I"⟩, prog_9_method_37_code, 6, (some .int), 0, 5, 4, (1009, 1007, 1008, 75), []),
  ("NumberModelsModel", ⟨"NumberModelsModel", "isNumber", "(I)Z"⟩, prog_9_method_20_code, 2, (some .boolean), 0, 5, 2, (1013, 1012, 46, 75), []),
  ("NumberModelsModel", ⟨"NumberModelsModel", "isWhole", "(I)Z"⟩, prog_9_method_35_code, 4, (some .boolean), 0, 5, 2, (1017, 1016, 47, 75), []),
  ("NumberModelsModel", ⟨"NumberModelsModel", "isSmall", "(II)Z"⟩, prog_9_method_36_code, 5, (some .boolean), 0, 5, 3, (1021, 1020, 48, 75), []),
  ("NumberModelsModel", ⟨"NumberModelsModel", "power", "(II)I"⟩, prog_9_method_41_code, 6, (some .int), 0, 5, 3, (1025, 1024, 49, 75), []),
  ("NumberModelsModel", ⟨"NumberModelsModel", "loadP", "(II)V"⟩, prog_9_method_21_code, 4, none, 0, 5, 3, (1029, 1028, 50, 75), []),
  ("NumberModelsModel", ⟨"NumberModelsModel", "loadQ", "(II)V"⟩, prog_9_method_22_code, 4, none, 0, 5, 3, (1033, 1032, 51, 75), []),
  ("NumberModelsModel", ⟨"NumberModelsModel", "times", "(III)V"⟩, prog_9_method_11_code, 14, none, 0, 5, 4, (1037, 1036, 52, 75), []),
  ("NumberModelsModel", ⟨"NumberModelsModel", "order", "(II)I"⟩, prog_9_method_48_code, 3, (some .int), 0, 5, 3, (1041, 1039, 1040, 75), []),
  ("NumberModelsModel", ⟨"NumberModelsModel", "level", "(II)V"⟩, prog_9_method_38_code, 3, none, 0, 5, 3, (1045, 1044, 53, 75), []),
  ("NumberModelsModel", ⟨"NumberModelsModel", "reckon", "(III)I"⟩, prog_9_method_39_code, 7, (some .int), 0, 5, 4, (1049, 1048, 54, 75), []),
  ("NumberModelsModel", ⟨"NumberModelsModel", "sum", "(II)I"⟩, prog_9_method_40_code, 4, (some .int), 0, 5, 3, (1053, 1052, 55, 75), []),
  ("NumberModelsModel", ⟨"NumberModelsModel", "add", "(II)V"⟩, prog_9_method_9_code, 8, none, 0, 5, 3, (1057, 1056, 56, 75), []),
  ("NumberModelsModel", ⟨"NumberModelsModel", "clear", "()I"⟩, prog_9_method_42_code, 2, (some .int), 0, 5, 1, (1061, 1059, 1060, 75), []),
  ("NumberModelsModel", ⟨"NumberModelsModel", "count", "()I"⟩, prog_9_method_43_code, 1, (some .int), 0, 5, 1, (1065, 1063, 1064, 75), []),
  ("NumberModelsModel", ⟨"NumberModelsModel", "word", "(II)J"⟩, prog_9_method_44_code, 3, (some .long), 0, 5, 3, (1069, 1067, 1068, 75), []),
  ("NumberModelsModel", ⟨"NumberModelsModel", "sign", "(I)I"⟩, prog_9_method_45_code, 2, (some .int), 0, 5, 2, (1073, 1071, 1072, 75), []),
  ("NumberModelsModel", ⟨"NumberModelsModel", "bits", "(IZ)I"⟩, prog_9_method_46_code, 3, (some .int), 0, 5, 3, (1077, 1075, 1076, 75), []),
  ("NumberModelsModel", ⟨"NumberModelsModel", "wrap", "(IIZ)J"⟩, prog_9_method_47_code, 8, (some .long), 0, 5, 4, (1081, 1079, 1080, 75), []),
  ("NumberModelsModel", ⟨"NumberModelsModel", "meets", "(IJ)I"⟩, prog_9_method_49_code, 6, (some .int), 0, 5, 3, (1086, 1084, 1085, 75), []),
  ("NumberModelsModel", ⟨"NumberModelsModel", "isNo", "(J)Z"⟩, prog_9_method_29_code, 2, (some .boolean), 1, 5, 1, (1089, 1088, 0, 75), []),
  ("NumberModelsModel", ⟨"NumberModelsModel", "isInfinite", "(J)Z"⟩, prog_9_method_30_code, 2, (some .boolean), 1, 5, 1, (1092, 1091, 0, 75), []),
  ("NumberModelsModel", ⟨"NumberModelsModel", "nearest", "(II)J"⟩, prog_9_method_54_code, 3, (some .long), 0, 5, 3, (1096, 1094, 1095, 75), []),
  ("NumberModelsModel", ⟨"NumberModelsModel", "isDirection", "(II)Z"⟩, prog_9_method_53_code, 3, (some .boolean), 0, 5, 3, (1100, 1099, 57, 75), []),
  ("NumberModelsModel", ⟨"NumberModelsModel", "form", "(Z)V"⟩, prog_9_method_50_code, 2, none, 0, 5, 2, (1104, 1103, 58, 75), []),
  ("NumberModelsModel", ⟨"NumberModelsModel", "round", "(II)J"⟩, prog_9_method_51_code, 10, (some .long), 0, 5, 3, (1108, 1107, 59, 75), []),
  ("NumberModelsModel", ⟨"NumberModelsModel", "encode", "(JIZ)J"⟩, prog_9_method_52_code, 12, (some .long), 0, 5, 4, (1112, 1111, 60, 75), []),
  ("NumberModelsModel", ⟨"NumberModelsModel", "single", "(II)I"⟩, prog_9_method_55_code, 3, (some .int), 0, 5, 3, (1117, 1115, 1116, 75), []),
  ("NumberModelsModel", ⟨"NumberModelsModel", "machine", "(IJJ)J"⟩, prog_9_method_62_code, 6, (some .long), 0, 5, 4, (1122, 1120, 1121, 75), []),
  ("NumberModelsModel", ⟨"NumberModelsModel", "remainder", "(JJ)J"⟩, prog_9_method_57_code, 14, (some .long), 0, 5, 3, (1126, 1125, 61, 75), []),
  ("NumberModelsModel", ⟨"NumberModelsModel", "scaled", "(JIZ)J"⟩, prog_9_method_56_code, 5, (some .long), 0, 5, 4, (1132, 1131, 62, 75), []),
  ("NumberModelsModel", ⟨"NumberModelsModel", "rounded", "(IJ)J"⟩, prog_9_method_59_code, 7, (some .long), 0, 5, 3, (1136, 1135, 63, 75), []),
  ("NumberModelsModel", ⟨"NumberModelsModel", "front", "(J)J"⟩, prog_9_method_58_code, 10, (some .long), 0, 5, 2, (1140, 1139, 64, 75), []),
  ("NumberModelsModel", ⟨"NumberModelsModel", "rank", "(J)J"⟩, prog_9_method_60_code, 2, (some .long), 1, 5, 1, (1143, 1142, 0, 75), []),
  ("NumberModelsModel", ⟨"NumberModelsModel", "machineMore", "(IJJ)J"⟩, prog_9_method_61_code, 8, (some .long), 0, 5, 4, (1149, 1148, 65, 75), []),
  ("NumberModelsModel", ⟨"NumberModelsModel", "cast", "(IJ)J"⟩, prog_9_method_66_code, 5, (some .long), 0, 5, 3, (1158, 1156, 1157, 75), []),
  ("NumberModelsModel", ⟨"NumberModelsModel", "cut", "(JZ)J"⟩, prog_9_method_63_code, 9, (some .long), 0, 5, 3, (1162, 1161, 66, 75), []),
  ("NumberModelsModel", ⟨"NumberModelsModel", "floatBits", "(J)J"⟩, prog_9_method_64_code, 5, (some .long), 0, 5, 2, (1167, 1166, 67, 75), []),
  ("NumberModelsModel", ⟨"NumberModelsModel", "fromFloat", "(I)J"⟩, prog_9_method_65_code, 8, (some .long), 0, 5, 2, (1173, 1172, 68, 75), []),
  ("NumberModels$Format", ⟨"NumberModels$Format", "isFinite", "(J)Z"⟩, prog_4_method_8_code, 3, (some .boolean), 0, 7, 2, (499, 497, 498, 84), []),
  ("NumberModels$Format", ⟨"NumberModels$Format", "sizeOf", "(J)J"⟩, prog_4_method_4_code, 3, (some .long), 0, 7, 2, (503, 501, 502, 84), []),
  ("NumberModels$Format", ⟨"NumberModels$Format", "significand", "(J)J"⟩, prog_4_method_10_code, 7, (some .long), 0, 7, 2, (508, 506, 507, 84), []),
  ("NumberModels$Format", ⟨"NumberModels$Format", "exponent", "(J)I"⟩, prog_4_method_9_code, 3, (some .int), 0, 7, 2, (512, 510, 511, 84), []),
  ("NumberModels$Format", ⟨"NumberModels$Format", "sideOf", "(J)I"⟩, prog_4_method_6_code, 3, (some .int), 0, 7, 2, (517, 515, 516, 84), []),
  ("NumberModels$Format", ⟨"NumberModels$Format", "hasSign", "(J)Z"⟩, prog_4_method_5_code, 3, (some .boolean), 0, 7, 2, (521, 519, 520, 84), []),
  ("NumberModels$Format", ⟨"NumberModels$Format", "scale", "(J)I"⟩, prog_4_method_11_code, 3, (some .int), 0, 7, 2, (525, 523, 524, 84), []),
  ("NumberModels$Format", ⟨"NumberModels$Format", "isNoNumber", "(J)Z"⟩, prog_4_method_7_code, 3, (some .boolean), 0, 7, 2, (728, 726, 727, 84), []),
  ("NumberModels$Format", ⟨"NumberModels$Format", "encode", "(ZJIZI)J"⟩, prog_4_method_13_code, 13, (some .long), 0, 7, 6, (755, 753, 754, 84), []),
  ("NumberModels$Format", ⟨"NumberModels$Format", "signed", "(ZJ)J"⟩, prog_4_method_12_code, 4, (some .long), 0, 7, 3, (759, 757, 758, 84), []),
  ("NumberModels$Format", ⟨"NumberModels$Format", "beyond", "(ZI)J"⟩, prog_4_method_14_code, 4, (some .long), 0, 7, 3, (765, 763, 29, 84), []),
  ("NumberModels$Format", ⟨"NumberModels$Format", "dropLow", "(ZJIZI)J"⟩, prog_4_method_15_code, 14, (some .long), 1, 7, 5, (768, 767, 0, 84), []),
  ("NumberModels$Machine", ⟨"NumberModels$Machine", "remainder", "(JJ)J"⟩, prog_5_method_3_code, 9, (some .long), 1, 9, 2, (788, 787, 0, 87), []),
  ("NumberModels$Machine", ⟨"NumberModels$Machine", "oneIsNoNumber", "(JJ)Z"⟩, prog_5_method_2_code, 4, (some .boolean), 1, 9, 2, (792, 791, 0, 87), []),
  ("NumberModels$Machine", ⟨"NumberModels$Machine", "restOfShifted", "(JIJ)J"⟩, prog_5_method_4_code, 8, (some .long), 1, 9, 3, (800, 799, 0, 87), []),
  ("NumberModels$Machine", ⟨"NumberModels$Machine", "toWhole", "(JI)J"⟩, prog_5_method_5_code, 8, (some .long), 1, 9, 2, (806, 805, 0, 87), []),
  ("NumberModels$Machine", ⟨"NumberModels$Machine", "greater", "(JJ)J"⟩, prog_5_method_6_code, 4, (some .long), 1, 9, 2, (810, 809, 0, 87), []),
  ("NumberModels$Machine", ⟨"NumberModels$Machine", "rank", "(J)J"⟩, prog_5_method_8_code, 4, (some .long), 1, 9, 1, (813, 812, 0, 87), []),
  ("NumberModels$Machine", ⟨"NumberModels$Machine", "lesser", "(JJ)J"⟩, prog_5_method_7_code, 4, (some .long), 1, 9, 2, (816, 815, 0, 87), []),
  ("NumberModels$Machine", ⟨"NumberModels$Machine", "withSignOf", "(JJ)J"⟩, prog_5_method_9_code, 5, (some .long), 1, 9, 2, (819, 818, 0, 87), []),
  ("NumberModels$Machine", ⟨"NumberModels$Machine", "nextAbove", "(J)J"⟩, prog_5_method_10_code, 3, (some .long), 1, 9, 1, (823, 822, 0, 87), []),
  ("NumberModels$Machine", ⟨"NumberModels$Machine", "stepAt", "(J)J"⟩, prog_5_method_11_code, 3, (some .long), 1, 9, 1, (826, 825, 0, 87), []),
  ("NumberModels$Machine", ⟨"NumberModels$Machine", "timesTwoTo", "(JJ)J"⟩, prog_5_method_12_code, 6, (some .long), 1, 9, 2, (829, 828, 0, 87), []),
  ("NumberModels$Machine", ⟨"NumberModels$Machine", "relation", "(JJ)J"⟩, prog_5_method_13_code, 5, (some .long), 1, 9, 2, (840, 839, 0, 87), []),
  ("NumberModels$Machine", ⟨"NumberModels$Machine", "toLong", "(J)J"⟩, prog_5_method_14_code, 9, (some .long), 1, 9, 1, (854, 853, 0, 87), []),
  ("NumberModels$Machine", ⟨"NumberModels$Machine", "toInt", "(J)I"⟩, prog_5_method_15_code, 2, (some .int), 1, 9, 1, (860, 859, 0, 87), []),
  ("NumberModels$Machine", ⟨"NumberModels$Machine", "changeFormat", "(LNumberModels$Format;LNumberModels$Format;J)J"⟩, prog_5_method_16_code, 5, (some .long), 1, 9, 3, (866, 865, 0, 87), []),
  ("NumberModelsLaw", ⟨"NumberModelsLaw", "whole", "(LNumberModels;J[J)I"⟩, method_3_code, 5, (some .int), 2, 9, 3, (231, 230, 0, 69), [(0, 9, 12, 13)]),
  ("NumberModelsLaw", ⟨"NumberModelsLaw", "fraction", "(LNumberModels;JJ[J)I"⟩, method_4_code, 7, (some .int), 2, 9, 4, (351, 350, 0, 69), [(0, 11, 14, 19), (0, 11, 18, 13)]),
  ("NumberModelsLaw", ⟨"NumberModelsLaw", "real", "(LNumberModels;J[J)I"⟩, method_5_code, 5, (some .int), 2, 9, 3, (489, 488, 0, 69), [(0, 9, 12, 19), (0, 9, 16, 13)]),
  ("NumberModelsLaw", ⟨"NumberModelsLaw", "act", "(LNumberModels;III[J)I"⟩, method_6_code, 6, (some .int), 2, 9, 5, (549, 548, 0, 69), [(0, 12, 15, 28), (0, 12, 19, 30), (0, 12, 23, 19), (0, 12, 27, 13)]),
  ("NumberModelsLaw", ⟨"NumberModelsLaw", "word", "(LNumberModels;II[J)I"⟩, method_7_code, 5, (some .int), 2, 9, 4, (683, 682, 0, 69), [(0, 9, 12, 28)]),
  ("NumberModelsLaw", ⟨"NumberModelsLaw", "sign", "(LNumberModels;I[J)I"⟩, method_8_code, 4, (some .int), 2, 9, 3, (691, 690, 0, 69), [(0, 9, 12, 28)]),
  ("NumberModelsLaw", ⟨"NumberModelsLaw", "bits", "(LNumberModels;IZ[J)I"⟩, method_9_code, 5, (some .int), 2, 9, 4, (698, 697, 0, 69), [(0, 10, 13, 28)]),
  ("NumberModelsLaw", ⟨"NumberModelsLaw", "wrap", "(LNumberModels;IIZ[J)I"⟩, method_10_code, 6, (some .int), 2, 9, 5, (705, 704, 0, 69), [(0, 11, 14, 28), (0, 11, 18, 30)]),
  ("NumberModelsLaw", ⟨"NumberModelsLaw", "order", "(LNumberModels;II[J)I"⟩, method_11_code, 5, (some .int), 2, 9, 4, (713, 712, 0, 69), [(0, 10, 13, 28)]),
  ("NumberModelsLaw", ⟨"NumberModelsLaw", "meets", "(LNumberModels;IJ[J)I"⟩, method_12_code, 6, (some .int), 2, 9, 4, (720, 719, 0, 69), [(0, 11, 14, 28)]),
  ("NumberModelsLaw", ⟨"NumberModelsLaw", "nearest", "(LNumberModels;II[J)I"⟩, method_13_code, 5, (some .int), 2, 9, 4, (738, 737, 0, 69), [(0, 9, 12, 28), (0, 9, 16, 30)]),
  ("NumberModelsLaw", ⟨"NumberModelsLaw", "single", "(LNumberModels;II[J)I"⟩, method_14_code, 5, (some .int), 2, 9, 4, (772, 771, 0, 69), [(0, 10, 13, 28), (0, 10, 17, 30)]),
  ("NumberModelsLaw", ⟨"NumberModelsLaw", "machine", "(LNumberModels;IJJ[J)I"⟩, method_15_code, 8, (some .int), 2, 9, 5, (781, 780, 0, 69), [(0, 12, 15, 30)]),
  ("NumberModelsLaw", ⟨"NumberModelsLaw", "cast", "(LNumberModels;IJ[J)I"⟩, method_16_code, 6, (some .int), 2, 9, 4, (847, 846, 0, 69), [(0, 10, 13, 30)]),
  ("NumberModelsLaw", ⟨"NumberModelsLaw", "law", "([I)Z"⟩, code, 8, (some .boolean), 1, 9, 1, (0, 0, 0, 69), [])]
def thrs : List (String × String × Nat × Nat × String × Nat × Nat × Nat) := [
  ("NumberModels$Ratio", "java/lang/IllegalStateException", 66, 68, "P or Q would be too great", 70, 542, 543),
  ("NumberModels", "java/lang/IllegalStateException", 240, 249, "there are 60", 244, 260, 302),
  ("NumberModels", "java/lang/IllegalStateException", 240, 242, "P or Q would be too great", 244, 260, 344),
  ("NumberModels", "java/lang/ArithmeticException", 83, 85, "q is 0", 87, 357, 366),
  ("NumberModels", "java/lang/ArithmeticException", 83, 103, "infinite, or no number", 87, 357, 504),
  ("NumberModels", "java/lang/IndexOutOfBoundsException", 139, 225, "no such number", 143, 560, 569),
  ("NumberModels", "java/lang/IllegalArgumentException", 147, 236, "no such act, or not one of such numbers", 151, 594, 603),
  ("NumberModels", "java/lang/ArithmeticException", 83, 238, "a divisor is 0", 87, 357, 614),
  ("NumberModels", "java/lang/IndexOutOfBoundsException", 139, 141, "no such word", 143, 560, 688),
  ("NumberModels", "java/lang/IllegalArgumentException", 147, 149, "bits are 1 to 64", 151, 594, 710),
  ("NumberModels", "java/lang/IllegalArgumentException", 147, 227, "no such direction", 151, 594, 747),
  ("NumberModels", "java/lang/IllegalArgumentException", 147, 213, "no such kind", 151, 594, 844),
  ("NumberModels", "java/lang/IllegalArgumentException", 147, 213, "no such kind", 151, 594, 844)]
