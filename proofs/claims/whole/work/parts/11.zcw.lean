def cwd (m : Nat) : Cond := if mkd m = 2 then .codeWith (mnm m) (mby m) (mxl m) (mrt m) (mhh m) else .code (mnm m) (mby m) (mxl m) (mrt m)
theorem tin1 {c : Cond} (h : c ∈ tables_1_1) : c ∈ lw_tbl := List.mem_append_right _ (List.mem_append_left _ h)
theorem tin2 {c : Cond} (h : c ∈ tables_1_2) : c ∈ lw_tbl := List.mem_append_right _ (List.mem_append_right _ (List.mem_append_left _ h))
theorem tin3 {c : Cond} (h : c ∈ tables_1_3) : c ∈ lw_tbl := List.mem_append_right _ (List.mem_append_right _ (List.mem_append_right _ (List.mem_append_left _ h)))
theorem tin4 {c : Cond} (h : c ∈ tables_1_4) : c ∈ lw_tbl := List.mem_append_right _ (List.mem_append_right _ (List.mem_append_right _ (List.mem_append_right _ (List.mem_append_left _ h))))
theorem tin5 {c : Cond} (h : c ∈ tables_1_5) : c ∈ lw_tbl := List.mem_append_right _ (List.mem_append_right _ (List.mem_append_right _ (List.mem_append_right _ (List.mem_append_right _ h))))
set_option maxRecDepth 20000 in
theorem cw_0 : Cond.code ⟨"NumberModels$CommonDivisor", "find", "(LNumberModels$Natural;LNumberModels$Natural;)V"⟩ prog_2_method_2_code 4 none ∈ lw_tbl := tin2 (List.mem_of_getElem? (i := 88) rfl)
set_option maxRecDepth 20000 in
theorem cv_0 : cwd 0 ∈ lw_tbl := cw_0
set_option maxRecDepth 20000 in
theorem cw_1 : Cond.code ⟨"NumberModels$CommonDivisor", "foresee", "()Z"⟩ prog_2_method_4_code 11 (some .boolean) ∈ lw_tbl := tin2 (List.mem_of_getElem? (i := 100) rfl)
set_option maxRecDepth 20000 in
theorem cv_1 : cwd 1 ∈ lw_tbl := cw_1
set_option maxRecDepth 20000 in
theorem cw_2 : Cond.code ⟨"NumberModels$CommonDivisor", "turn", "(J)Z"⟩ prog_2_method_5_code 7 (some .boolean) ∈ lw_tbl := tin2 (List.mem_of_getElem? (i := 113) rfl)
set_option maxRecDepth 20000 in
theorem cv_2 : cwd 2 ∈ lw_tbl := cw_2
set_option maxRecDepth 20000 in
theorem cw_3 : Cond.code ⟨"NumberModels$CommonDivisor", "stepAsForeseen", "()V"⟩ prog_2_method_6_code 11 none ∈ lw_tbl := tin2 (List.mem_of_getElem? (i := 121) rfl)
set_option maxRecDepth 20000 in
theorem cv_3 : cwd 3 ∈ lw_tbl := cw_3
set_option maxRecDepth 20000 in
theorem cw_4 : Cond.code ⟨"NumberModels$CommonDivisor", "stepOnce", "()V"⟩ prog_2_method_3_code 1 none ∈ lw_tbl := tin2 (List.mem_of_getElem? (i := 127) rfl)
set_option maxRecDepth 20000 in
theorem cv_4 : cwd 4 ∈ lw_tbl := cw_4
set_option maxRecDepth 20000 in
theorem cw_5 : Cond.code ⟨"NumberModels$CommonDivisor", "ofLongs", "(JJ)J"⟩ prog_2_method_7_code 11 (some .long) ∈ lw_tbl := tin2 (List.mem_of_getElem? (i := 174) rfl)
set_option maxRecDepth 20000 in
theorem cv_5 : cwd 5 ∈ lw_tbl := cw_5
set_option maxRecDepth 20000 in
theorem cw_6 : Cond.code ⟨"NumberModels$Division", "run", "(LNumberModels$Natural;LNumberModels$Natural;)V"⟩ prog_3_method_2_code 6 none ∈ lw_tbl := tin2 (List.mem_of_getElem? (i := 131) rfl)
set_option maxRecDepth 20000 in
theorem cv_6 : cwd 6 ∈ lw_tbl := cw_6
set_option maxRecDepth 20000 in
theorem cw_7 : Cond.code ⟨"NumberModels$Division", "divideAt", "(I)J"⟩ prog_3_method_3_code 8 (some .long) ∈ lw_tbl := tin2 (List.mem_of_getElem? (i := 148) rfl)
set_option maxRecDepth 20000 in
theorem cv_7 : cwd 7 ∈ lw_tbl := cw_7
set_option maxRecDepth 20000 in
theorem cw_8 : Cond.code ⟨"NumberModels$Division", "guess", "(JJJ)J"⟩ prog_3_method_4_code 10 (some .long) ∈ lw_tbl := tin2 (List.mem_of_getElem? (i := 152) rfl)
set_option maxRecDepth 20000 in
theorem cv_8 : cwd 8 ∈ lw_tbl := cw_8
set_option maxRecDepth 20000 in
theorem cw_9 : Cond.code ⟨"NumberModels$Division", "takeOff", "(JI)J"⟩ prog_3_method_5_code 13 (some .long) ∈ lw_tbl := tin2 (List.mem_of_getElem? (i := 157) rfl)
set_option maxRecDepth 20000 in
theorem cv_9 : cwd 9 ∈ lw_tbl := cw_9
set_option maxRecDepth 20000 in
theorem cw_10 : Cond.code ⟨"NumberModels$Division", "putBack", "(I)J"⟩ prog_3_method_6_code 7 (some .long) ∈ lw_tbl := tin2 (List.mem_of_getElem? (i := 161) rfl)
set_option maxRecDepth 20000 in
theorem cv_10 : cwd 10 ∈ lw_tbl := cw_10
set_option maxRecDepth 20000 in
theorem cw_11 : Cond.code ⟨"NumberModels$Natural", "take", "(J)V"⟩ prog_6_method_8_code 3 none ∈ lw_tbl := tin1 (List.mem_of_getElem? (i := 177) rfl)
set_option maxRecDepth 20000 in
theorem cv_11 : cwd 11 ∈ lw_tbl := cw_11
set_option maxRecDepth 20000 in
theorem cw_12 : Cond.code ⟨"NumberModels$Natural", "wipe", "()V"⟩ prog_6_method_20_code 2 none ∈ lw_tbl := tin1 (List.mem_of_getElem? (i := 181) rfl)
set_option maxRecDepth 20000 in
theorem cv_12 : cwd 12 ∈ lw_tbl := cw_12
set_option maxRecDepth 20000 in
theorem cw_13 : Cond.code ⟨"NumberModels$Natural", "measure", "(I)V"⟩ prog_6_method_21_code 2 none ∈ lw_tbl := tin1 (List.mem_of_getElem? (i := 186) rfl)
set_option maxRecDepth 20000 in
theorem cv_13 : cwd 13 ∈ lw_tbl := cw_13
set_option maxRecDepth 20000 in
theorem cw_14 : Cond.code ⟨"NumberModels$Natural", "length", "()I"⟩ prog_6_method_6_code 1 (some .int) ∈ lw_tbl := tin2 (List.mem_of_getElem? (i := 27) rfl)
set_option maxRecDepth 20000 in
theorem cv_14 : cwd 14 ∈ lw_tbl := cw_14
set_option maxRecDepth 20000 in
theorem cw_15 : Cond.code ⟨"NumberModels$Natural", "wordAt", "(I)J"⟩ prog_6_method_4_code 2 (some .long) ∈ lw_tbl := tin2 (List.mem_of_getElem? (i := 31) rfl)
set_option maxRecDepth 20000 in
theorem cv_15 : cwd 15 ∈ lw_tbl := cw_15
set_option maxRecDepth 20000 in
theorem cw_16 : Cond.code ⟨"NumberModels$Natural", "giveWords", "([JI)V"⟩ prog_6_method_11_code 4 none ∈ lw_tbl := tin2 (List.mem_of_getElem? (i := 39) rfl)
set_option maxRecDepth 20000 in
theorem cv_16 : cwd 16 ∈ lw_tbl := cw_16
set_option maxRecDepth 20000 in
theorem cw_17 : Cond.code ⟨"NumberModels$Natural", "isZero", "()Z"⟩ prog_6_method_2_code 1 (some .boolean) ∈ lw_tbl := tin2 (List.mem_of_getElem? (i := 75) rfl)
set_option maxRecDepth 20000 in
theorem cv_17 : cwd 17 ∈ lw_tbl := cw_17
set_option maxRecDepth 20000 in
theorem cw_18 : Cond.code ⟨"NumberModels$Natural", "isOne", "()Z"⟩ prog_6_method_3_code 1 (some .boolean) ∈ lw_tbl := tin2 (List.mem_of_getElem? (i := 84) rfl)
set_option maxRecDepth 20000 in
theorem cv_18 : cwd 18 ∈ lw_tbl := cw_18
set_option maxRecDepth 20000 in
theorem cw_19 : Cond.code ⟨"NumberModels$Natural", "take", "(LNumberModels$Natural;)V"⟩ prog_6_method_9_code 2 none ∈ lw_tbl := tin2 (List.mem_of_getElem? (i := 92) rfl)
set_option maxRecDepth 20000 in
theorem cv_19 : cwd 19 ∈ lw_tbl := cw_19
set_option maxRecDepth 20000 in
theorem cw_20 : Cond.code ⟨"NumberModels$Natural", "compareWith", "(LNumberModels$Natural;)I"⟩ prog_6_method_16_code 3 (some .int) ∈ lw_tbl := tin2 (List.mem_of_getElem? (i := 104) rfl)
set_option maxRecDepth 20000 in
theorem cv_20 : cwd 20 ∈ lw_tbl := cw_20
set_option maxRecDepth 20000 in
theorem cw_21 : Cond.code ⟨"NumberModels$Natural", "bitsFrom", "(I)J"⟩ prog_6_method_19_code 4 (some .long) ∈ lw_tbl := tin2 (List.mem_of_getElem? (i := 109) rfl)
set_option maxRecDepth 20000 in
theorem cv_21 : cwd 21 ∈ lw_tbl := cw_21
set_option maxRecDepth 20000 in
theorem cw_22 : Cond.code ⟨"NumberModels$Natural", "shiftUp", "(I)V"⟩ prog_6_method_17_code 6 none ∈ lw_tbl := tin2 (List.mem_of_getElem? (i := 140) rfl)
set_option maxRecDepth 20000 in
theorem cv_22 : cwd 22 ∈ lw_tbl := cw_22
set_option maxRecDepth 20000 in
theorem cw_23 : Cond.code ⟨"NumberModels$Natural", "shiftDown", "(I)V"⟩ prog_6_method_18_code 5 none ∈ lw_tbl := tin2 (List.mem_of_getElem? (i := 166) rfl)
set_option maxRecDepth 20000 in
theorem cv_23 : cwd 23 ∈ lw_tbl := cw_23
set_option maxRecDepth 20000 in
theorem cw_24 : Cond.code ⟨"NumberModels$Natural", "lowest", "()J"⟩ prog_6_method_5_code 1 (some .long) ∈ lw_tbl := tin2 (List.mem_of_getElem? (i := 171) rfl)
set_option maxRecDepth 20000 in
theorem cv_24 : cwd 24 ∈ lw_tbl := cw_24
set_option maxRecDepth 20000 in
theorem cw_25 : Cond.code ⟨"NumberModels$Natural", "zerosBelow", "()I"⟩ prog_6_method_7_code 2 (some .int) ∈ lw_tbl := tin2 (List.mem_of_getElem? (i := 230) rfl)
set_option maxRecDepth 20000 in
theorem cv_25 : cwd 25 ∈ lw_tbl := cw_25
set_option maxRecDepth 20000 in
theorem cw_26 : Cond.code ⟨"NumberModels$Natural", "takeWords", "([JI)V"⟩ prog_6_method_10_code 4 none ∈ lw_tbl := tin3 (List.mem_of_getElem? (i := 34) rfl)
set_option maxRecDepth 20000 in
theorem cv_26 : cwd 26 ∈ lw_tbl := cw_26
set_option maxRecDepth 20000 in
theorem cw_27 : Cond.code ⟨"NumberModels$Natural", "takeProduct", "(LNumberModels$Natural;LNumberModels$Natural;)V"⟩ prog_6_method_12_code 10 none ∈ lw_tbl := tin3 (List.mem_of_getElem? (i := 77) rfl)
set_option maxRecDepth 20000 in
theorem cv_27 : cwd 27 ∈ lw_tbl := cw_27
set_option maxRecDepth 20000 in
theorem cw_28 : Cond.code ⟨"NumberModels$Natural", "subtract", "(LNumberModels$Natural;)V"⟩ prog_6_method_15_code 7 none ∈ lw_tbl := tin3 (List.mem_of_getElem? (i := 82) rfl)
set_option maxRecDepth 20000 in
theorem cv_28 : cwd 28 ∈ lw_tbl := cw_28
set_option maxRecDepth 20000 in
theorem cw_29 : Cond.code ⟨"NumberModels$Natural", "add", "(LNumberModels$Natural;)V"⟩ prog_6_method_13_code 8 none ∈ lw_tbl := tin3 (List.mem_of_getElem? (i := 86) rfl)
set_option maxRecDepth 20000 in
theorem cv_29 : cwd 29 ∈ lw_tbl := cw_29
set_option maxRecDepth 20000 in
theorem cw_30 : Cond.code ⟨"NumberModels$Natural", "addOne", "()V"⟩ prog_6_method_14_code 7 none ∈ lw_tbl := tin3 (List.mem_of_getElem? (i := 103) rfl)
set_option maxRecDepth 20000 in
theorem cv_30 : cwd 30 ∈ lw_tbl := cw_30
set_option maxRecDepth 20000 in
theorem cw_31 : Cond.code ⟨"NumberModels$Ratio", "straightenZero", "()V"⟩ prog_7_method_4_code 1 none ∈ lw_tbl := tin2 (List.mem_of_getElem? (i := 71) rfl)
set_option maxRecDepth 20000 in
theorem cv_31 : cwd 31 ∈ lw_tbl := cw_31
set_option maxRecDepth 20000 in
theorem cw_32 : Cond.code ⟨"NumberModels$Ratio", "isWhole", "()Z"⟩ prog_7_method_5_code 1 (some .boolean) ∈ lw_tbl := tin2 (List.mem_of_getElem? (i := 80) rfl)
set_option maxRecDepth 20000 in
theorem cv_32 : cwd 32 ∈ lw_tbl := cw_32
set_option maxRecDepth 20000 in
theorem cw_33 : Cond.code ⟨"NumberModels$Ratio", "timesTwoTo", "(I)V"⟩ prog_7_method_7_code 6 none ∈ lw_tbl := tin2 (List.mem_of_getElem? (i := 223) rfl)
set_option maxRecDepth 20000 in
theorem cv_33 : cwd 33 ∈ lw_tbl := cw_33
set_option maxRecDepth 20000 in
theorem cw_34 : Cond.code ⟨"NumberModels$Ratio", "isWholeWithin", "(I)Z"⟩ prog_7_method_6_code 2 (some .boolean) ∈ lw_tbl := tin3 (List.mem_of_getElem? (i := 42) rfl)
set_option maxRecDepth 20000 in
theorem cv_34 : cwd 34 ∈ lw_tbl := cw_34
set_option maxRecDepth 20000 in
theorem cw_35 : Cond.code ⟨"NumberModels$Ratio", "takeWhole", "(ILNumberModels$Natural;)V"⟩ prog_7_method_3_code 3 none ∈ lw_tbl := tin3 (List.mem_of_getElem? (i := 107) rfl)
set_option maxRecDepth 20000 in
theorem cv_35 : cwd 35 ∈ lw_tbl := cw_35
set_option maxRecDepth 20000 in
theorem cw_36 : Cond.code ⟨"NumberModels$Ratio", "take", "(LNumberModels$Ratio;)V"⟩ prog_7_method_2_code 2 none ∈ lw_tbl := tin3 (List.mem_of_getElem? (i := 127) rfl)
set_option maxRecDepth 20000 in
theorem cv_36 : cwd 36 ∈ lw_tbl := cw_36
set_option maxRecDepth 20000 in
theorem cw_37 : Cond.code ⟨"NumberModels", "clear", "()I"⟩ prog_1_method_6_code 2 (some .int) ∈ lw_tbl := tin1 (List.mem_of_getElem? (i := 155) rfl)
set_option maxRecDepth 20000 in
theorem cv_37 : cwd 37 ∈ lw_tbl := cw_37
set_option maxRecDepth 20000 in
theorem cw_38 : Cond.code ⟨"NumberModels", "count", "()I"⟩ prog_1_method_7_code 1 (some .int) ∈ lw_tbl := tin1 (List.mem_of_getElem? (i := 159) rfl)
set_option maxRecDepth 20000 in
theorem cv_38 : cwd 38 ∈ lw_tbl := cw_38
set_option maxRecDepth 20000 in
theorem cw_39 : Cond.code ⟨"NumberModels", "whole", "(J)I"⟩ prog_1_method_2_code 3 (some .int) ∈ lw_tbl := tin1 (List.mem_of_getElem? (i := 167) rfl)
set_option maxRecDepth 20000 in
theorem cv_39 : cwd 39 ∈ lw_tbl := cw_39
set_option maxRecDepth 20000 in
theorem cw_40 : Cond.code ⟨"NumberModels", "compare", "(JJ)I"⟩ prog_1_method_37_code 4 (some .int) ∈ lw_tbl := tin1 (List.mem_of_getElem? (i := 170) rfl)
set_option maxRecDepth 20000 in
theorem cv_40 : cwd 40 ∈ lw_tbl := cw_40
set_option maxRecDepth 20000 in
theorem cw_41 : Cond.code ⟨"NumberModels", "sizeOf", "(J)J"⟩ prog_1_method_38_code 2 (some .long) ∈ lw_tbl := tin1 (List.mem_of_getElem? (i := 173) rfl)
set_option maxRecDepth 20000 in
theorem cv_41 : cwd 41 ∈ lw_tbl := cw_41
set_option maxRecDepth 20000 in
theorem cw_42 : Cond.code ⟨"NumberModels", "keep", "()I"⟩ prog_1_method_24_code 1 (some .int) ∈ lw_tbl := tin1 (List.mem_of_getElem? (i := 190) rfl)
set_option maxRecDepth 20000 in
theorem cv_42 : cwd 42 ∈ lw_tbl := cw_42
set_option maxRecDepth 20000 in
theorem cw_43 : Cond.code ⟨"NumberModels", "needBits", "(LNumberModels$Natural;)V"⟩ prog_1_method_22_code 2 none ∈ lw_tbl := tin2 (List.mem_of_getElem? (i := 23) rfl)
set_option maxRecDepth 20000 in
theorem cv_43 : cwd 43 ∈ lw_tbl := cw_43
set_option maxRecDepth 20000 in
theorem cw_44 : Cond.code ⟨"NumberModels", "lengthOf", "(J)I"⟩ prog_1_method_39_code 6 (some .int) ∈ lw_tbl := tin2 (List.mem_of_getElem? (i := 34) rfl)
set_option maxRecDepth 20000 in
theorem cv_44 : cwd 44 ∈ lw_tbl := cw_44
set_option maxRecDepth 20000 in
theorem cw_45 : Cond.code ⟨"NumberModels", "fraction", "(JJ)I"⟩ prog_1_method_3_code 5 (some .int) ∈ lw_tbl := tin2 (List.mem_of_getElem? (i := 47) rfl)
set_option maxRecDepth 20000 in
theorem cv_45 : cwd 45 ∈ lw_tbl := cw_45
set_option maxRecDepth 20000 in
theorem cw_46 : Cond.code ⟨"NumberModels", "reduce", "()V"⟩ prog_1_method_33_code 1 none ∈ lw_tbl := tin2 (List.mem_of_getElem? (i := 67) rfl)
set_option maxRecDepth 20000 in
theorem cv_46 : cwd 46 ∈ lw_tbl := cw_46
set_option maxRecDepth 20000 in
theorem cw_47 : Cond.code ⟨"NumberModels", "real", "(J)I"⟩ prog_1_method_4_code 3 (some .int) ∈ lw_tbl := tin2 (List.mem_of_getElem? (i := 184) rfl)
set_option maxRecDepth 20000 in
theorem cv_47 : cwd 47 ∈ lw_tbl := cw_47
set_option maxRecDepth 20000 in
theorem cw_48 : Cond.code ⟨"NumberModels", "act", "(III)I"⟩ prog_1_method_5_code 4 (some .int) ∈ lw_tbl := tin3 (List.mem_of_getElem? (i := 6) rfl)
set_option maxRecDepth 20000 in
theorem cv_48 : cwd 48 ∈ lw_tbl := cw_48
set_option maxRecDepth 20000 in
theorem cw_49 : Cond.code ⟨"NumberModels", "needNumber", "(I)V"⟩ prog_1_method_18_code 2 none ∈ lw_tbl := tin3 (List.mem_of_getElem? (i := 10) rfl)
set_option maxRecDepth 20000 in
theorem cv_49 : cwd 49 ∈ lw_tbl := cw_49
set_option maxRecDepth 20000 in
theorem cw_50 : Cond.code ⟨"NumberModels", "read", "(ILNumberModels$Ratio;)V"⟩ prog_1_method_23_code 3 none ∈ lw_tbl := tin3 (List.mem_of_getElem? (i := 30) rfl)
set_option maxRecDepth 20000 in
theorem cv_50 : cwd 50 ∈ lw_tbl := cw_50
set_option maxRecDepth 20000 in
theorem cw_51 : Cond.code ⟨"NumberModels", "needFitting", "(I)V"⟩ prog_1_method_20_code 3 none ∈ lw_tbl := tin3 (List.mem_of_getElem? (i := 38) rfl)
set_option maxRecDepth 20000 in
theorem cv_51 : cwd 51 ∈ lw_tbl := cw_51
set_option maxRecDepth 20000 in
theorem cw_52 : Cond.code ⟨"NumberModels", "needDivisor", "(I)V"⟩ prog_1_method_21_code 4 none ∈ lw_tbl := tin3 (List.mem_of_getElem? (i := 64) rfl)
set_option maxRecDepth 20000 in
theorem cv_52 : cwd 52 ∈ lw_tbl := cw_52
set_option maxRecDepth 20000 in
theorem cw_53 : Cond.code ⟨"NumberModels", "perform", "(I)V"⟩ prog_1_method_25_code 2 none ∈ lw_tbl := tin3 (List.mem_of_getElem? (i := 69) rfl)
set_option maxRecDepth 20000 in
theorem cv_53 : cwd 53 ∈ lw_tbl := cw_53
set_option maxRecDepth 20000 in
theorem cw_54 : Cond.code ⟨"NumberModels", "add", "(I)V"⟩ prog_1_method_26_code 4 none ∈ lw_tbl := tin3 (List.mem_of_getElem? (i := 73) rfl)
set_option maxRecDepth 20000 in
theorem cv_54 : cwd 54 ∈ lw_tbl := cw_54
set_option maxRecDepth 20000 in
theorem cw_55 : Cond.code ⟨"NumberModels", "multiply", "(LNumberModels$Natural;LNumberModels$Natural;)V"⟩ prog_1_method_27_code 3 none ∈ lw_tbl := tin3 (List.mem_of_getElem? (i := 91) rfl)
set_option maxRecDepth 20000 in
theorem cv_55 : cwd 55 ∈ lw_tbl := cw_55
set_option maxRecDepth 20000 in
theorem cw_56 : Cond.code ⟨"NumberModels", "divide", "()V"⟩ prog_1_method_28_code 1 none ∈ lw_tbl := tin3 (List.mem_of_getElem? (i := 95) rfl)
set_option maxRecDepth 20000 in
theorem cv_56 : cwd 56 ∈ lw_tbl := cw_56
set_option maxRecDepth 20000 in
theorem cw_57 : Cond.code ⟨"NumberModels", "takeQuotient", "(Z)V"⟩ prog_1_method_29_code 3 none ∈ lw_tbl := tin3 (List.mem_of_getElem? (i := 99) rfl)
set_option maxRecDepth 20000 in
theorem cv_57 : cwd 57 ∈ lw_tbl := cw_57
set_option maxRecDepth 20000 in
theorem cw_58 : Cond.code ⟨"NumberModels", "takeRest", "(Z)V"⟩ prog_1_method_30_code 2 none ∈ lw_tbl := tin3 (List.mem_of_getElem? (i := 113) rfl)
set_option maxRecDepth 20000 in
theorem cv_58 : cwd 58 ∈ lw_tbl := cw_58
set_option maxRecDepth 20000 in
theorem cw_59 : Cond.code ⟨"NumberModels", "raise", "(I)V"⟩ prog_1_method_31_code 3 none ∈ lw_tbl := tin3 (List.mem_of_getElem? (i := 118) rfl)
set_option maxRecDepth 20000 in
theorem cv_59 : cwd 59 ∈ lw_tbl := cw_59
set_option maxRecDepth 20000 in
theorem cw_60 : Cond.code ⟨"NumberModels", "raiseInto", "(LNumberModels$Natural;LNumberModels$Natural;I)V"⟩ prog_1_method_32_code 5 none ∈ lw_tbl := tin3 (List.mem_of_getElem? (i := 122) rfl)
set_option maxRecDepth 20000 in
theorem cv_60 : cwd 60 ∈ lw_tbl := cw_60
set_option maxRecDepth 20000 in
theorem cw_61 : Cond.code ⟨"NumberModels", "compareRead", "()I"⟩ prog_1_method_34_code 1 (some .int) ∈ lw_tbl := tin3 (List.mem_of_getElem? (i := 131) rfl)
set_option maxRecDepth 20000 in
theorem cv_61 : cwd 61 ∈ lw_tbl := cw_61
set_option maxRecDepth 20000 in
theorem cw_62 : Cond.code ⟨"NumberModels", "word", "(II)J"⟩ prog_1_method_8_code 3 (some .long) ∈ lw_tbl := tin3 (List.mem_of_getElem? (i := 138) rfl)
set_option maxRecDepth 20000 in
theorem cv_62 : cwd 62 ∈ lw_tbl := cw_62
set_option maxRecDepth 20000 in
theorem cw_63 : Cond.code ⟨"NumberModels", "sign", "(I)I"⟩ prog_1_method_9_code 2 (some .int) ∈ lw_tbl := tin3 (List.mem_of_getElem? (i := 146) rfl)
set_option maxRecDepth 20000 in
theorem cv_63 : cwd 63 ∈ lw_tbl := cw_63
set_option maxRecDepth 20000 in
theorem cw_64 : Cond.code ⟨"NumberModels", "bits", "(IZ)I"⟩ prog_1_method_10_code 3 (some .int) ∈ lw_tbl := tin3 (List.mem_of_getElem? (i := 153) rfl)
set_option maxRecDepth 20000 in
theorem cv_64 : cwd 64 ∈ lw_tbl := cw_64
set_option maxRecDepth 20000 in
theorem cw_65 : Cond.code ⟨"NumberModels", "wrap", "(IIZ)J"⟩ prog_1_method_11_code 9 (some .long) ∈ lw_tbl := tin3 (List.mem_of_getElem? (i := 160) rfl)
set_option maxRecDepth 20000 in
theorem cv_65 : cwd 65 ∈ lw_tbl := cw_65
set_option maxRecDepth 20000 in
theorem cw_66 : Cond.code ⟨"NumberModels", "order", "(II)I"⟩ prog_1_method_12_code 3 (some .int) ∈ lw_tbl := tin3 (List.mem_of_getElem? (i := 168) rfl)
set_option maxRecDepth 20000 in
theorem cv_66 : cwd 66 ∈ lw_tbl := cw_66
set_option maxRecDepth 20000 in
theorem cw_67 : Cond.code ⟨"NumberModels", "meets", "(IJ)I"⟩ prog_1_method_13_code 5 (some .int) ∈ lw_tbl := tin3 (List.mem_of_getElem? (i := 175) rfl)
set_option maxRecDepth 20000 in
theorem cv_67 : cwd 67 ∈ lw_tbl := cw_67
set_option maxRecDepth 20000 in
theorem cw_68 : Cond.code ⟨"NumberModels", "compareSizeWith", "(J)I"⟩ prog_1_method_35_code 7 (some .int) ∈ lw_tbl := tin3 (List.mem_of_getElem? (i := 184) rfl)
set_option maxRecDepth 20000 in
theorem cv_68 : cwd 68 ∈ lw_tbl := cw_68
set_option maxRecDepth 20000 in
theorem cw_69 : Cond.code ⟨"NumberModels", "nearest", "(II)J"⟩ prog_1_method_14_code 3 (some .long) ∈ lw_tbl := tin3 (List.mem_of_getElem? (i := 193) rfl)
set_option maxRecDepth 20000 in
theorem cv_69 : cwd 69 ∈ lw_tbl := cw_69
set_option maxRecDepth 20000 in
theorem cw_70 : Cond.code ⟨"NumberModels", "needDirection", "(I)V"⟩ prog_1_method_19_code 2 none ∈ lw_tbl := tin3 (List.mem_of_getElem? (i := 197) rfl)
set_option maxRecDepth 20000 in
theorem cv_70 : cwd 70 ∈ lw_tbl := cw_70
set_option maxRecDepth 20000 in
theorem cw_71 : Cond.code ⟨"NumberModels", "formatRead", "(LNumberModels$Format;I)J"⟩ prog_1_method_36_code 5 (some .long) ∈ lw_tbl := tin3 (List.mem_of_getElem? (i := 202) rfl)
set_option maxRecDepth 20000 in
theorem cv_71 : cwd 71 ∈ lw_tbl := cw_71
set_option maxRecDepth 20000 in
theorem cw_72 : Cond.code ⟨"NumberModels", "single", "(II)I"⟩ prog_1_method_15_code 3 (some .int) ∈ lw_tbl := tin3 (List.mem_of_getElem? (i := 227) rfl)
set_option maxRecDepth 20000 in
theorem cv_72 : cwd 72 ∈ lw_tbl := cw_72
set_option maxRecDepth 20000 in
theorem cw_73 : Cond.code ⟨"NumberModels", "machine", "(IJJ)J"⟩ prog_1_method_16_code 6 (some .long) ∈ lw_tbl := tin3 (List.mem_of_getElem? (i := 236) rfl)
set_option maxRecDepth 20000 in
theorem cv_73 : cwd 73 ∈ lw_tbl := cw_73
set_option maxRecDepth 20000 in
theorem cw_74 : Cond.code ⟨"NumberModels", "cast", "(IJ)J"⟩ prog_1_method_17_code 4 (some .long) ∈ lw_tbl := tin4 (List.mem_of_getElem? (i := 62) rfl)
set_option maxRecDepth 20000 in
theorem cv_74 : cwd 74 ∈ lw_tbl := cw_74
set_option maxRecDepth 20000 in
theorem cw_75 : Cond.code ⟨"NumberModelsModel", "thrown", "()I"⟩ prog_9_method_2_code 1 (some .int) ∈ lw_tbl := tin4 (List.mem_of_getElem? (i := 118) rfl)
set_option maxRecDepth 20000 in
theorem cv_75 : cwd 75 ∈ lw_tbl := cw_75
set_option maxRecDepth 20000 in
theorem cw_76 : Cond.code ⟨"NumberModelsModel", "whole", "(J)I"⟩ prog_9_method_25_code 3 (some .int) ∈ lw_tbl := tin4 (List.mem_of_getElem? (i := 122) rfl)
set_option maxRecDepth 20000 in
theorem cv_76 : cwd 76 ∈ lw_tbl := cw_76
set_option maxRecDepth 20000 in
theorem cw_77 : Cond.code ⟨"NumberModelsModel", "size", "(J)J"⟩ prog_9_method_24_code 2 (some .long) ∈ lw_tbl := tin4 (List.mem_of_getElem? (i := 125) rfl)
set_option maxRecDepth 20000 in
theorem cv_77 : cwd 77 ∈ lw_tbl := cw_77
set_option maxRecDepth 20000 in
theorem cw_78 : Cond.code ⟨"NumberModelsModel", "set", "(IJ)V"⟩ prog_9_method_5_code 4 none ∈ lw_tbl := tin4 (List.mem_of_getElem? (i := 129) rfl)
set_option maxRecDepth 20000 in
theorem cv_78 : cwd 78 ∈ lw_tbl := cw_78
set_option maxRecDepth 20000 in
theorem cw_79 : Cond.code ⟨"NumberModelsModel", "zero", "(I)V"⟩ prog_9_method_4_code 3 none ∈ lw_tbl := tin4 (List.mem_of_getElem? (i := 133) rfl)
set_option maxRecDepth 20000 in
theorem cv_79 : cwd 79 ∈ lw_tbl := cw_79
set_option maxRecDepth 20000 in
theorem cw_80 : Cond.code ⟨"NumberModelsModel", "make", "(II)I"⟩ prog_9_method_23_code 4 (some .int) ∈ lw_tbl := tin4 (List.mem_of_getElem? (i := 138) rfl)
set_option maxRecDepth 20000 in
theorem cv_80 : cwd 80 ∈ lw_tbl := cw_80
set_option maxRecDepth 20000 in
theorem cw_81 : Cond.code ⟨"NumberModelsModel", "isZero", "(I)Z"⟩ prog_9_method_7_code 3 (some .boolean) ∈ lw_tbl := tin4 (List.mem_of_getElem? (i := 142) rfl)
set_option maxRecDepth 20000 in
theorem cv_81 : cwd 81 ∈ lw_tbl := cw_81
set_option maxRecDepth 20000 in
theorem cw_82 : Cond.code ⟨"NumberModelsModel", "greatest", "(II)V"⟩ prog_9_method_18_code 4 none ∈ lw_tbl := tin4 (List.mem_of_getElem? (i := 146) rfl)
set_option maxRecDepth 20000 in
theorem cv_82 : cwd 82 ∈ lw_tbl := cw_82
set_option maxRecDepth 20000 in
theorem cw_83 : Cond.code ⟨"NumberModelsModel", "copy", "(II)V"⟩ prog_9_method_6_code 4 none ∈ lw_tbl := tin4 (List.mem_of_getElem? (i := 150) rfl)
set_option maxRecDepth 20000 in
theorem cv_83 : cwd 83 ∈ lw_tbl := cw_83
set_option maxRecDepth 20000 in
theorem cw_84 : Cond.code ⟨"NumberModelsModel", "isEven", "(I)Z"⟩ prog_9_method_16_code 2 (some .boolean) ∈ lw_tbl := tin4 (List.mem_of_getElem? (i := 154) rfl)
set_option maxRecDepth 20000 in
theorem cv_84 : cwd 84 ∈ lw_tbl := cw_84
set_option maxRecDepth 20000 in
theorem cw_85 : Cond.code ⟨"NumberModelsModel", "halve", "(I)V"⟩ prog_9_method_15_code 7 none ∈ lw_tbl := tin4 (List.mem_of_getElem? (i := 158) rfl)
set_option maxRecDepth 20000 in
theorem cv_85 : cwd 85 ∈ lw_tbl := cw_85
set_option maxRecDepth 20000 in
theorem cw_86 : Cond.code ⟨"NumberModelsModel", "compare", "(II)I"⟩ prog_9_method_8_code 4 (some .int) ∈ lw_tbl := tin4 (List.mem_of_getElem? (i := 162) rfl)
set_option maxRecDepth 20000 in
theorem cv_86 : cwd 86 ∈ lw_tbl := cw_86
set_option maxRecDepth 20000 in
theorem cw_87 : Cond.code ⟨"NumberModelsModel", "swap", "(II)V"⟩ prog_9_method_19_code 6 none ∈ lw_tbl := tin4 (List.mem_of_getElem? (i := 166) rfl)
set_option maxRecDepth 20000 in
theorem cv_87 : cwd 87 ∈ lw_tbl := cw_87
set_option maxRecDepth 20000 in
theorem cw_88 : Cond.code ⟨"NumberModelsModel", "take", "(II)V"⟩ prog_9_method_10_code 8 none ∈ lw_tbl := tin4 (List.mem_of_getElem? (i := 170) rfl)
set_option maxRecDepth 20000 in
theorem cv_88 : cwd 88 ∈ lw_tbl := cw_88
set_option maxRecDepth 20000 in
theorem cw_89 : Cond.code ⟨"NumberModelsModel", "up", "(II)V"⟩ prog_9_method_14_code 10 none ∈ lw_tbl := tin4 (List.mem_of_getElem? (i := 174) rfl)
set_option maxRecDepth 20000 in
theorem cv_89 : cwd 89 ∈ lw_tbl := cw_89
set_option maxRecDepth 20000 in
theorem cw_90 : Cond.code ⟨"NumberModelsModel", "divide", "(IIII)V"⟩ prog_9_method_17_code 6 none ∈ lw_tbl := tin4 (List.mem_of_getElem? (i := 178) rfl)
set_option maxRecDepth 20000 in
theorem cv_90 : cwd 90 ∈ lw_tbl := cw_90
set_option maxRecDepth 20000 in
theorem cw_91 : Cond.code ⟨"NumberModelsModel", "length", "(I)I"⟩ prog_9_method_12_code 4 (some .int) ∈ lw_tbl := tin4 (List.mem_of_getElem? (i := 182) rfl)
set_option maxRecDepth 20000 in
theorem cv_91 : cwd 91 ∈ lw_tbl := cw_91
set_option maxRecDepth 20000 in
theorem cw_92 : Cond.code ⟨"NumberModelsModel", "bit", "(II)J"⟩ prog_9_method_13_code 3 (some .long) ∈ lw_tbl := tin4 (List.mem_of_getElem? (i := 186) rfl)
set_option maxRecDepth 20000 in
theorem cv_92 : cwd 92 ∈ lw_tbl := cw_92
set_option maxRecDepth 20000 in
theorem cw_93 : Cond.code ⟨"NumberModelsModel", "fails", "(I)I"⟩ prog_9_method_3_code 2 (some .int) ∈ lw_tbl := tin4 (List.mem_of_getElem? (i := 190) rfl)
set_option maxRecDepth 20000 in
theorem cv_93 : cwd 93 ∈ lw_tbl := cw_93
set_option maxRecDepth 20000 in
theorem cw_94 : Cond.code ⟨"NumberModelsModel", "fraction", "(JJ)I"⟩ prog_9_method_26_code 5 (some .int) ∈ lw_tbl := tin4 (List.mem_of_getElem? (i := 194) rfl)
set_option maxRecDepth 20000 in
theorem cv_94 : cwd 94 ∈ lw_tbl := cw_94
set_option maxRecDepth 20000 in
theorem cw_95 : Cond.code ⟨"NumberModelsModel", "real", "(J)I"⟩ prog_9_method_34_code 4 (some .int) ∈ lw_tbl := tin4 (List.mem_of_getElem? (i := 198) rfl)
set_option maxRecDepth 20000 in
theorem cv_95 : cwd 95 ∈ lw_tbl := cw_95
set_option maxRecDepth 20000 in
theorem cw_96 : Cond.code ⟨"NumberModelsModel", "exponent", "(J)I"⟩ prog_9_method_27_code 2 (some .int) ∈ lw_tbl := tin4 (List.mem_of_getElem? (i := 201) rfl)
set_option maxRecDepth 20000 in
theorem cv_96 : cwd 96 ∈ lw_tbl := cw_96
set_option maxRecDepth 20000 in
theorem cw_97 : Cond.code ⟨"NumberModelsModel", "factor", "(J)J"⟩ prog_9_method_31_code 2 (some .long) ∈ lw_tbl := tin4 (List.mem_of_getElem? (i := 205) rfl)
set_option maxRecDepth 20000 in
theorem cv_97 : cwd 97 ∈ lw_tbl := cw_97
set_option maxRecDepth 20000 in
theorem cw_98 : Cond.code ⟨"NumberModelsModel", "part", "(J)J"⟩ prog_9_method_28_code 2 (some .long) ∈ lw_tbl := tin4 (List.mem_of_getElem? (i := 208) rfl)
set_option maxRecDepth 20000 in
theorem cv_98 : cwd 98 ∈ lw_tbl := cw_98
set_option maxRecDepth 20000 in
theorem cw_99 : Cond.code ⟨"NumberModelsModel", "place", "(J)I"⟩ prog_9_method_32_code 2 (some .int) ∈ lw_tbl := tin4 (List.mem_of_getElem? (i := 213) rfl)
set_option maxRecDepth 20000 in
theorem cv_99 : cwd 99 ∈ lw_tbl := cw_99
set_option maxRecDepth 20000 in
theorem cw_100 : Cond.code ⟨"NumberModelsModel", "signOf", "(J)I"⟩ prog_9_method_33_code 2 (some .int) ∈ lw_tbl := tin4 (List.mem_of_getElem? (i := 216) rfl)
set_option maxRecDepth 20000 in
theorem cv_100 : cwd 100 ∈ lw_tbl := cw_100
set_option maxRecDepth 20000 in
theorem cw_101 : Cond.code ⟨"NumberModelsModel", "act", "(III)I"⟩ prog_9_method_37_code 6 (some .int) ∈ lw_tbl := tin4 (List.mem_of_getElem? (i := 220) rfl)
set_option maxRecDepth 20000 in
theorem cv_101 : cwd 101 ∈ lw_tbl := cw_101
set_option maxRecDepth 20000 in
theorem cw_102 : Cond.code ⟨"NumberModelsModel", "isNumber", "(I)Z"⟩ prog_9_method_20_code 2 (some .boolean) ∈ lw_tbl := tin4 (List.mem_of_getElem? (i := 224) rfl)
set_option maxRecDepth 20000 in
theorem cv_102 : cwd 102 ∈ lw_tbl := cw_102
set_option maxRecDepth 20000 in
theorem cw_103 : Cond.code ⟨"NumberModelsModel", "isWhole", "(I)Z"⟩ prog_9_method_35_code 4 (some .boolean) ∈ lw_tbl := tin4 (List.mem_of_getElem? (i := 228) rfl)
set_option maxRecDepth 20000 in
theorem cv_103 : cwd 103 ∈ lw_tbl := cw_103
set_option maxRecDepth 20000 in
theorem cw_104 : Cond.code ⟨"NumberModelsModel", "isSmall", "(II)Z"⟩ prog_9_method_36_code 5 (some .boolean) ∈ lw_tbl := tin4 (List.mem_of_getElem? (i := 232) rfl)
set_option maxRecDepth 20000 in
theorem cv_104 : cwd 104 ∈ lw_tbl := cw_104
set_option maxRecDepth 20000 in
theorem cw_105 : Cond.code ⟨"NumberModelsModel", "power", "(II)I"⟩ prog_9_method_41_code 6 (some .int) ∈ lw_tbl := tin4 (List.mem_of_getElem? (i := 236) rfl)
set_option maxRecDepth 20000 in
theorem cv_105 : cwd 105 ∈ lw_tbl := cw_105
set_option maxRecDepth 20000 in
theorem cw_106 : Cond.code ⟨"NumberModelsModel", "loadP", "(II)V"⟩ prog_9_method_21_code 4 none ∈ lw_tbl := tin5 (List.mem_of_getElem? (i := 0) rfl)
set_option maxRecDepth 20000 in
theorem cv_106 : cwd 106 ∈ lw_tbl := cw_106
set_option maxRecDepth 20000 in
theorem cw_107 : Cond.code ⟨"NumberModelsModel", "loadQ", "(II)V"⟩ prog_9_method_22_code 4 none ∈ lw_tbl := tin5 (List.mem_of_getElem? (i := 4) rfl)
set_option maxRecDepth 20000 in
theorem cv_107 : cwd 107 ∈ lw_tbl := cw_107
set_option maxRecDepth 20000 in
theorem cw_108 : Cond.code ⟨"NumberModelsModel", "times", "(III)V"⟩ prog_9_method_11_code 14 none ∈ lw_tbl := tin5 (List.mem_of_getElem? (i := 8) rfl)
set_option maxRecDepth 20000 in
theorem cv_108 : cwd 108 ∈ lw_tbl := cw_108
set_option maxRecDepth 20000 in
theorem cw_109 : Cond.code ⟨"NumberModelsModel", "order", "(II)I"⟩ prog_9_method_48_code 3 (some .int) ∈ lw_tbl := tin5 (List.mem_of_getElem? (i := 12) rfl)
set_option maxRecDepth 20000 in
theorem cv_109 : cwd 109 ∈ lw_tbl := cw_109
set_option maxRecDepth 20000 in
theorem cw_110 : Cond.code ⟨"NumberModelsModel", "level", "(II)V"⟩ prog_9_method_38_code 3 none ∈ lw_tbl := tin5 (List.mem_of_getElem? (i := 16) rfl)
set_option maxRecDepth 20000 in
theorem cv_110 : cwd 110 ∈ lw_tbl := cw_110
set_option maxRecDepth 20000 in
theorem cw_111 : Cond.code ⟨"NumberModelsModel", "reckon", "(III)I"⟩ prog_9_method_39_code 7 (some .int) ∈ lw_tbl := tin5 (List.mem_of_getElem? (i := 20) rfl)
set_option maxRecDepth 20000 in
theorem cv_111 : cwd 111 ∈ lw_tbl := cw_111
set_option maxRecDepth 20000 in
theorem cw_112 : Cond.code ⟨"NumberModelsModel", "sum", "(II)I"⟩ prog_9_method_40_code 4 (some .int) ∈ lw_tbl := tin5 (List.mem_of_getElem? (i := 24) rfl)
set_option maxRecDepth 20000 in
theorem cv_112 : cwd 112 ∈ lw_tbl := cw_112
set_option maxRecDepth 20000 in
theorem cw_113 : Cond.code ⟨"NumberModelsModel", "add", "(II)V"⟩ prog_9_method_9_code 8 none ∈ lw_tbl := tin5 (List.mem_of_getElem? (i := 28) rfl)
set_option maxRecDepth 20000 in
theorem cv_113 : cwd 113 ∈ lw_tbl := cw_113
set_option maxRecDepth 20000 in
theorem cw_114 : Cond.code ⟨"NumberModelsModel", "clear", "()I"⟩ prog_9_method_42_code 2 (some .int) ∈ lw_tbl := tin5 (List.mem_of_getElem? (i := 32) rfl)
set_option maxRecDepth 20000 in
theorem cv_114 : cwd 114 ∈ lw_tbl := cw_114
set_option maxRecDepth 20000 in
theorem cw_115 : Cond.code ⟨"NumberModelsModel", "count", "()I"⟩ prog_9_method_43_code 1 (some .int) ∈ lw_tbl := tin5 (List.mem_of_getElem? (i := 36) rfl)
set_option maxRecDepth 20000 in
theorem cv_115 : cwd 115 ∈ lw_tbl := cw_115
set_option maxRecDepth 20000 in
theorem cw_116 : Cond.code ⟨"NumberModelsModel", "word", "(II)J"⟩ prog_9_method_44_code 3 (some .long) ∈ lw_tbl := tin5 (List.mem_of_getElem? (i := 40) rfl)
set_option maxRecDepth 20000 in
theorem cv_116 : cwd 116 ∈ lw_tbl := cw_116
set_option maxRecDepth 20000 in
theorem cw_117 : Cond.code ⟨"NumberModelsModel", "sign", "(I)I"⟩ prog_9_method_45_code 2 (some .int) ∈ lw_tbl := tin5 (List.mem_of_getElem? (i := 44) rfl)
set_option maxRecDepth 20000 in
theorem cv_117 : cwd 117 ∈ lw_tbl := cw_117
set_option maxRecDepth 20000 in
theorem cw_118 : Cond.code ⟨"NumberModelsModel", "bits", "(IZ)I"⟩ prog_9_method_46_code 3 (some .int) ∈ lw_tbl := tin5 (List.mem_of_getElem? (i := 48) rfl)
set_option maxRecDepth 20000 in
theorem cv_118 : cwd 118 ∈ lw_tbl := cw_118
set_option maxRecDepth 20000 in
theorem cw_119 : Cond.code ⟨"NumberModelsModel", "wrap", "(IIZ)J"⟩ prog_9_method_47_code 8 (some .long) ∈ lw_tbl := tin5 (List.mem_of_getElem? (i := 52) rfl)
set_option maxRecDepth 20000 in
theorem cv_119 : cwd 119 ∈ lw_tbl := cw_119
set_option maxRecDepth 20000 in
theorem cw_120 : Cond.code ⟨"NumberModelsModel", "meets", "(IJ)I"⟩ prog_9_method_49_code 6 (some .int) ∈ lw_tbl := tin5 (List.mem_of_getElem? (i := 57) rfl)
set_option maxRecDepth 20000 in
theorem cv_120 : cwd 120 ∈ lw_tbl := cw_120
set_option maxRecDepth 20000 in
theorem cw_121 : Cond.code ⟨"NumberModelsModel", "isNo", "(J)Z"⟩ prog_9_method_29_code 2 (some .boolean) ∈ lw_tbl := tin5 (List.mem_of_getElem? (i := 60) rfl)
set_option maxRecDepth 20000 in
theorem cv_121 : cwd 121 ∈ lw_tbl := cw_121
set_option maxRecDepth 20000 in
theorem cw_122 : Cond.code ⟨"NumberModelsModel", "isInfinite", "(J)Z"⟩ prog_9_method_30_code 2 (some .boolean) ∈ lw_tbl := tin5 (List.mem_of_getElem? (i := 63) rfl)
set_option maxRecDepth 20000 in
theorem cv_122 : cwd 122 ∈ lw_tbl := cw_122
set_option maxRecDepth 20000 in
theorem cw_123 : Cond.code ⟨"NumberModelsModel", "nearest", "(II)J"⟩ prog_9_method_54_code 3 (some .long) ∈ lw_tbl := tin5 (List.mem_of_getElem? (i := 67) rfl)
set_option maxRecDepth 20000 in
theorem cv_123 : cwd 123 ∈ lw_tbl := cw_123
set_option maxRecDepth 20000 in
theorem cw_124 : Cond.code ⟨"NumberModelsModel", "isDirection", "(II)Z"⟩ prog_9_method_53_code 3 (some .boolean) ∈ lw_tbl := tin5 (List.mem_of_getElem? (i := 71) rfl)
set_option maxRecDepth 20000 in
theorem cv_124 : cwd 124 ∈ lw_tbl := cw_124
set_option maxRecDepth 20000 in
theorem cw_125 : Cond.code ⟨"NumberModelsModel", "form", "(Z)V"⟩ prog_9_method_50_code 2 none ∈ lw_tbl := tin5 (List.mem_of_getElem? (i := 75) rfl)
set_option maxRecDepth 20000 in
theorem cv_125 : cwd 125 ∈ lw_tbl := cw_125
set_option maxRecDepth 20000 in
theorem cw_126 : Cond.code ⟨"NumberModelsModel", "round", "(II)J"⟩ prog_9_method_51_code 10 (some .long) ∈ lw_tbl := tin5 (List.mem_of_getElem? (i := 79) rfl)
set_option maxRecDepth 20000 in
theorem cv_126 : cwd 126 ∈ lw_tbl := cw_126
set_option maxRecDepth 20000 in
theorem cw_127 : Cond.code ⟨"NumberModelsModel", "encode", "(JIZ)J"⟩ prog_9_method_52_code 12 (some .long) ∈ lw_tbl := tin5 (List.mem_of_getElem? (i := 83) rfl)
set_option maxRecDepth 20000 in
theorem cv_127 : cwd 127 ∈ lw_tbl := cw_127
set_option maxRecDepth 20000 in
theorem cw_128 : Cond.code ⟨"NumberModelsModel", "single", "(II)I"⟩ prog_9_method_55_code 3 (some .int) ∈ lw_tbl := tin5 (List.mem_of_getElem? (i := 88) rfl)
set_option maxRecDepth 20000 in
theorem cv_128 : cwd 128 ∈ lw_tbl := cw_128
set_option maxRecDepth 20000 in
theorem cw_129 : Cond.code ⟨"NumberModelsModel", "machine", "(IJJ)J"⟩ prog_9_method_62_code 6 (some .long) ∈ lw_tbl := tin5 (List.mem_of_getElem? (i := 93) rfl)
set_option maxRecDepth 20000 in
theorem cv_129 : cwd 129 ∈ lw_tbl := cw_129
set_option maxRecDepth 20000 in
theorem cw_130 : Cond.code ⟨"NumberModelsModel", "remainder", "(JJ)J"⟩ prog_9_method_57_code 14 (some .long) ∈ lw_tbl := tin5 (List.mem_of_getElem? (i := 97) rfl)
set_option maxRecDepth 20000 in
theorem cv_130 : cwd 130 ∈ lw_tbl := cw_130
set_option maxRecDepth 20000 in
theorem cw_131 : Cond.code ⟨"NumberModelsModel", "scaled", "(JIZ)J"⟩ prog_9_method_56_code 5 (some .long) ∈ lw_tbl := tin5 (List.mem_of_getElem? (i := 103) rfl)
set_option maxRecDepth 20000 in
theorem cv_131 : cwd 131 ∈ lw_tbl := cw_131
set_option maxRecDepth 20000 in
theorem cw_132 : Cond.code ⟨"NumberModelsModel", "rounded", "(IJ)J"⟩ prog_9_method_59_code 7 (some .long) ∈ lw_tbl := tin5 (List.mem_of_getElem? (i := 107) rfl)
set_option maxRecDepth 20000 in
theorem cv_132 : cwd 132 ∈ lw_tbl := cw_132
set_option maxRecDepth 20000 in
theorem cw_133 : Cond.code ⟨"NumberModelsModel", "front", "(J)J"⟩ prog_9_method_58_code 10 (some .long) ∈ lw_tbl := tin5 (List.mem_of_getElem? (i := 111) rfl)
set_option maxRecDepth 20000 in
theorem cv_133 : cwd 133 ∈ lw_tbl := cw_133
set_option maxRecDepth 20000 in
theorem cw_134 : Cond.code ⟨"NumberModelsModel", "rank", "(J)J"⟩ prog_9_method_60_code 2 (some .long) ∈ lw_tbl := tin5 (List.mem_of_getElem? (i := 114) rfl)
set_option maxRecDepth 20000 in
theorem cv_134 : cwd 134 ∈ lw_tbl := cw_134
set_option maxRecDepth 20000 in
theorem cw_135 : Cond.code ⟨"NumberModelsModel", "machineMore", "(IJJ)J"⟩ prog_9_method_61_code 8 (some .long) ∈ lw_tbl := tin5 (List.mem_of_getElem? (i := 120) rfl)
set_option maxRecDepth 20000 in
theorem cv_135 : cwd 135 ∈ lw_tbl := cw_135
set_option maxRecDepth 20000 in
theorem cw_136 : Cond.code ⟨"NumberModelsModel", "cast", "(IJ)J"⟩ prog_9_method_66_code 5 (some .long) ∈ lw_tbl := tin5 (List.mem_of_getElem? (i := 129) rfl)
set_option maxRecDepth 20000 in
theorem cv_136 : cwd 136 ∈ lw_tbl := cw_136
set_option maxRecDepth 20000 in
theorem cw_137 : Cond.code ⟨"NumberModelsModel", "cut", "(JZ)J"⟩ prog_9_method_63_code 9 (some .long) ∈ lw_tbl := tin5 (List.mem_of_getElem? (i := 133) rfl)
set_option maxRecDepth 20000 in
theorem cv_137 : cwd 137 ∈ lw_tbl := cw_137
set_option maxRecDepth 20000 in
theorem cw_138 : Cond.code ⟨"NumberModelsModel", "floatBits", "(J)J"⟩ prog_9_method_64_code 5 (some .long) ∈ lw_tbl := tin5 (List.mem_of_getElem? (i := 138) rfl)
set_option maxRecDepth 20000 in
theorem cv_138 : cwd 138 ∈ lw_tbl := cw_138
set_option maxRecDepth 20000 in
theorem cw_139 : Cond.code ⟨"NumberModelsModel", "fromFloat", "(I)J"⟩ prog_9_method_65_code 8 (some .long) ∈ lw_tbl := tin5 (List.mem_of_getElem? (i := 144) rfl)
set_option maxRecDepth 20000 in
theorem cv_139 : cwd 139 ∈ lw_tbl := cw_139
set_option maxRecDepth 20000 in
theorem cw_140 : Cond.code ⟨"NumberModels$Format", "isFinite", "(J)Z"⟩ prog_4_method_8_code 3 (some .boolean) ∈ lw_tbl := tin2 (List.mem_of_getElem? (i := 190) rfl)
set_option maxRecDepth 20000 in
theorem cv_140 : cwd 140 ∈ lw_tbl := cw_140
set_option maxRecDepth 20000 in
theorem cw_141 : Cond.code ⟨"NumberModels$Format", "sizeOf", "(J)J"⟩ prog_4_method_4_code 3 (some .long) ∈ lw_tbl := tin2 (List.mem_of_getElem? (i := 194) rfl)
set_option maxRecDepth 20000 in
theorem cv_141 : cwd 141 ∈ lw_tbl := cw_141
set_option maxRecDepth 20000 in
theorem cw_142 : Cond.code ⟨"NumberModels$Format", "significand", "(J)J"⟩ prog_4_method_10_code 7 (some .long) ∈ lw_tbl := tin2 (List.mem_of_getElem? (i := 199) rfl)
set_option maxRecDepth 20000 in
theorem cv_142 : cwd 142 ∈ lw_tbl := cw_142
set_option maxRecDepth 20000 in
theorem cw_143 : Cond.code ⟨"NumberModels$Format", "exponent", "(J)I"⟩ prog_4_method_9_code 3 (some .int) ∈ lw_tbl := tin2 (List.mem_of_getElem? (i := 203) rfl)
set_option maxRecDepth 20000 in
theorem cv_143 : cwd 143 ∈ lw_tbl := cw_143
set_option maxRecDepth 20000 in
theorem cw_144 : Cond.code ⟨"NumberModels$Format", "sideOf", "(J)I"⟩ prog_4_method_6_code 3 (some .int) ∈ lw_tbl := tin2 (List.mem_of_getElem? (i := 208) rfl)
set_option maxRecDepth 20000 in
theorem cv_144 : cwd 144 ∈ lw_tbl := cw_144
set_option maxRecDepth 20000 in
theorem cw_145 : Cond.code ⟨"NumberModels$Format", "hasSign", "(J)Z"⟩ prog_4_method_5_code 3 (some .boolean) ∈ lw_tbl := tin2 (List.mem_of_getElem? (i := 212) rfl)
set_option maxRecDepth 20000 in
theorem cv_145 : cwd 145 ∈ lw_tbl := cw_145
set_option maxRecDepth 20000 in
theorem cw_146 : Cond.code ⟨"NumberModels$Format", "scale", "(J)I"⟩ prog_4_method_11_code 3 (some .int) ∈ lw_tbl := tin2 (List.mem_of_getElem? (i := 216) rfl)
set_option maxRecDepth 20000 in
theorem cv_146 : cwd 146 ∈ lw_tbl := cw_146
set_option maxRecDepth 20000 in
theorem cw_147 : Cond.code ⟨"NumberModels$Format", "isNoNumber", "(J)Z"⟩ prog_4_method_7_code 3 (some .boolean) ∈ lw_tbl := tin3 (List.mem_of_getElem? (i := 179) rfl)
set_option maxRecDepth 20000 in
theorem cv_147 : cwd 147 ∈ lw_tbl := cw_147
set_option maxRecDepth 20000 in
theorem cw_148 : Cond.code ⟨"NumberModels$Format", "encode", "(ZJIZI)J"⟩ prog_4_method_13_code 13 (some .long) ∈ lw_tbl := tin3 (List.mem_of_getElem? (i := 206) rfl)
set_option maxRecDepth 20000 in
theorem cv_148 : cwd 148 ∈ lw_tbl := cw_148
set_option maxRecDepth 20000 in
theorem cw_149 : Cond.code ⟨"NumberModels$Format", "signed", "(ZJ)J"⟩ prog_4_method_12_code 4 (some .long) ∈ lw_tbl := tin3 (List.mem_of_getElem? (i := 210) rfl)
set_option maxRecDepth 20000 in
theorem cv_149 : cwd 149 ∈ lw_tbl := cw_149
set_option maxRecDepth 20000 in
theorem cw_150 : Cond.code ⟨"NumberModels$Format", "beyond", "(ZI)J"⟩ prog_4_method_14_code 4 (some .long) ∈ lw_tbl := tin3 (List.mem_of_getElem? (i := 216) rfl)
set_option maxRecDepth 20000 in
theorem cv_150 : cwd 150 ∈ lw_tbl := cw_150
set_option maxRecDepth 20000 in
theorem cw_151 : Cond.code ⟨"NumberModels$Format", "dropLow", "(ZJIZI)J"⟩ prog_4_method_15_code 14 (some .long) ∈ lw_tbl := tin3 (List.mem_of_getElem? (i := 219) rfl)
set_option maxRecDepth 20000 in
theorem cv_151 : cwd 151 ∈ lw_tbl := cw_151
set_option maxRecDepth 20000 in
theorem cw_152 : Cond.code ⟨"NumberModels$Machine", "remainder", "(JJ)J"⟩ prog_5_method_3_code 9 (some .long) ∈ lw_tbl := tin3 (List.mem_of_getElem? (i := 239) rfl)
set_option maxRecDepth 20000 in
theorem cv_152 : cwd 152 ∈ lw_tbl := cw_152
set_option maxRecDepth 20000 in
theorem cw_153 : Cond.code ⟨"NumberModels$Machine", "oneIsNoNumber", "(JJ)Z"⟩ prog_5_method_2_code 4 (some .boolean) ∈ lw_tbl := tin4 (List.mem_of_getElem? (i := 3) rfl)
set_option maxRecDepth 20000 in
theorem cv_153 : cwd 153 ∈ lw_tbl := cw_153
set_option maxRecDepth 20000 in
theorem cw_154 : Cond.code ⟨"NumberModels$Machine", "restOfShifted", "(JIJ)J"⟩ prog_5_method_4_code 8 (some .long) ∈ lw_tbl := tin4 (List.mem_of_getElem? (i := 11) rfl)
set_option maxRecDepth 20000 in
theorem cv_154 : cwd 154 ∈ lw_tbl := cw_154
set_option maxRecDepth 20000 in
theorem cw_155 : Cond.code ⟨"NumberModels$Machine", "toWhole", "(JI)J"⟩ prog_5_method_5_code 8 (some .long) ∈ lw_tbl := tin4 (List.mem_of_getElem? (i := 17) rfl)
set_option maxRecDepth 20000 in
theorem cv_155 : cwd 155 ∈ lw_tbl := cw_155
set_option maxRecDepth 20000 in
theorem cw_156 : Cond.code ⟨"NumberModels$Machine", "greater", "(JJ)J"⟩ prog_5_method_6_code 4 (some .long) ∈ lw_tbl := tin4 (List.mem_of_getElem? (i := 21) rfl)
set_option maxRecDepth 20000 in
theorem cv_156 : cwd 156 ∈ lw_tbl := cw_156
set_option maxRecDepth 20000 in
theorem cw_157 : Cond.code ⟨"NumberModels$Machine", "rank", "(J)J"⟩ prog_5_method_8_code 4 (some .long) ∈ lw_tbl := tin4 (List.mem_of_getElem? (i := 24) rfl)
set_option maxRecDepth 20000 in
theorem cv_157 : cwd 157 ∈ lw_tbl := cw_157
set_option maxRecDepth 20000 in
theorem cw_158 : Cond.code ⟨"NumberModels$Machine", "lesser", "(JJ)J"⟩ prog_5_method_7_code 4 (some .long) ∈ lw_tbl := tin4 (List.mem_of_getElem? (i := 27) rfl)
set_option maxRecDepth 20000 in
theorem cv_158 : cwd 158 ∈ lw_tbl := cw_158
set_option maxRecDepth 20000 in
theorem cw_159 : Cond.code ⟨"NumberModels$Machine", "withSignOf", "(JJ)J"⟩ prog_5_method_9_code 5 (some .long) ∈ lw_tbl := tin4 (List.mem_of_getElem? (i := 30) rfl)
set_option maxRecDepth 20000 in
theorem cv_159 : cwd 159 ∈ lw_tbl := cw_159
set_option maxRecDepth 20000 in
theorem cw_160 : Cond.code ⟨"NumberModels$Machine", "nextAbove", "(J)J"⟩ prog_5_method_10_code 3 (some .long) ∈ lw_tbl := tin4 (List.mem_of_getElem? (i := 34) rfl)
set_option maxRecDepth 20000 in
theorem cv_160 : cwd 160 ∈ lw_tbl := cw_160
set_option maxRecDepth 20000 in
theorem cw_161 : Cond.code ⟨"NumberModels$Machine", "stepAt", "(J)J"⟩ prog_5_method_11_code 3 (some .long) ∈ lw_tbl := tin4 (List.mem_of_getElem? (i := 37) rfl)
set_option maxRecDepth 20000 in
theorem cv_161 : cwd 161 ∈ lw_tbl := cw_161
set_option maxRecDepth 20000 in
theorem cw_162 : Cond.code ⟨"NumberModels$Machine", "timesTwoTo", "(JJ)J"⟩ prog_5_method_12_code 6 (some .long) ∈ lw_tbl := tin4 (List.mem_of_getElem? (i := 40) rfl)
set_option maxRecDepth 20000 in
theorem cv_162 : cwd 162 ∈ lw_tbl := cw_162
set_option maxRecDepth 20000 in
theorem cw_163 : Cond.code ⟨"NumberModels$Machine", "relation", "(JJ)J"⟩ prog_5_method_13_code 5 (some .long) ∈ lw_tbl := tin4 (List.mem_of_getElem? (i := 51) rfl)
set_option maxRecDepth 20000 in
theorem cv_163 : cwd 163 ∈ lw_tbl := cw_163
set_option maxRecDepth 20000 in
theorem cw_164 : Cond.code ⟨"NumberModels$Machine", "toLong", "(J)J"⟩ prog_5_method_14_code 9 (some .long) ∈ lw_tbl := tin4 (List.mem_of_getElem? (i := 65) rfl)
set_option maxRecDepth 20000 in
theorem cv_164 : cwd 164 ∈ lw_tbl := cw_164
set_option maxRecDepth 20000 in
theorem cw_165 : Cond.code ⟨"NumberModels$Machine", "toInt", "(J)I"⟩ prog_5_method_15_code 2 (some .int) ∈ lw_tbl := tin4 (List.mem_of_getElem? (i := 71) rfl)
set_option maxRecDepth 20000 in
theorem cv_165 : cwd 165 ∈ lw_tbl := cw_165
set_option maxRecDepth 20000 in
theorem cw_166 : Cond.code ⟨"NumberModels$Machine", "changeFormat", "(LNumberModels$Format;LNumberModels$Format;J)J"⟩ prog_5_method_16_code 5 (some .long) ∈ lw_tbl := tin4 (List.mem_of_getElem? (i := 77) rfl)
set_option maxRecDepth 20000 in
theorem cv_166 : cwd 166 ∈ lw_tbl := cw_166
set_option maxRecDepth 20000 in
theorem cw_167 : Cond.codeWith ⟨"NumberModelsLaw", "whole", "(LNumberModels;J[J)I"⟩ method_3_code 5 (some .int) [(0, 9, 12, 13)] ∈ lw_tbl := tin1 (List.mem_of_getElem? (i := 162) rfl)
set_option maxRecDepth 20000 in
theorem cv_167 : cwd 167 ∈ lw_tbl := cw_167
set_option maxRecDepth 20000 in
theorem cw_168 : Cond.codeWith ⟨"NumberModelsLaw", "fraction", "(LNumberModels;JJ[J)I"⟩ method_4_code 7 (some .int) [(0, 11, 14, 19), (0, 11, 18, 13)] ∈ lw_tbl := tin2 (List.mem_of_getElem? (i := 42) rfl)
set_option maxRecDepth 20000 in
theorem cv_168 : cwd 168 ∈ lw_tbl := cw_168
set_option maxRecDepth 20000 in
theorem cw_169 : Cond.codeWith ⟨"NumberModelsLaw", "real", "(LNumberModels;J[J)I"⟩ method_5_code 5 (some .int) [(0, 9, 12, 19), (0, 9, 16, 13)] ∈ lw_tbl := tin2 (List.mem_of_getElem? (i := 180) rfl)
set_option maxRecDepth 20000 in
theorem cv_169 : cwd 169 ∈ lw_tbl := cw_169
set_option maxRecDepth 20000 in
theorem cw_170 : Cond.codeWith ⟨"NumberModelsLaw", "act", "(LNumberModels;III[J)I"⟩ method_6_code 6 (some .int) [(0, 12, 15, 28), (0, 12, 19, 30), (0, 12, 23, 19), (0, 12, 27, 13)] ∈ lw_tbl := tin3 (List.mem_of_getElem? (i := 0) rfl)
set_option maxRecDepth 20000 in
theorem cv_170 : cwd 170 ∈ lw_tbl := cw_170
set_option maxRecDepth 20000 in
theorem cw_171 : Cond.codeWith ⟨"NumberModelsLaw", "word", "(LNumberModels;II[J)I"⟩ method_7_code 5 (some .int) [(0, 9, 12, 28)] ∈ lw_tbl := tin3 (List.mem_of_getElem? (i := 134) rfl)
set_option maxRecDepth 20000 in
theorem cv_171 : cwd 171 ∈ lw_tbl := cw_171
set_option maxRecDepth 20000 in
theorem cw_172 : Cond.codeWith ⟨"NumberModelsLaw", "sign", "(LNumberModels;I[J)I"⟩ method_8_code 4 (some .int) [(0, 9, 12, 28)] ∈ lw_tbl := tin3 (List.mem_of_getElem? (i := 142) rfl)
set_option maxRecDepth 20000 in
theorem cv_172 : cwd 172 ∈ lw_tbl := cw_172
set_option maxRecDepth 20000 in
theorem cw_173 : Cond.codeWith ⟨"NumberModelsLaw", "bits", "(LNumberModels;IZ[J)I"⟩ method_9_code 5 (some .int) [(0, 10, 13, 28)] ∈ lw_tbl := tin3 (List.mem_of_getElem? (i := 149) rfl)
set_option maxRecDepth 20000 in
theorem cv_173 : cwd 173 ∈ lw_tbl := cw_173
set_option maxRecDepth 20000 in
theorem cw_174 : Cond.codeWith ⟨"NumberModelsLaw", "wrap", "(LNumberModels;IIZ[J)I"⟩ method_10_code 6 (some .int) [(0, 11, 14, 28), (0, 11, 18, 30)] ∈ lw_tbl := tin3 (List.mem_of_getElem? (i := 156) rfl)
set_option maxRecDepth 20000 in
theorem cv_174 : cwd 174 ∈ lw_tbl := cw_174
set_option maxRecDepth 20000 in
theorem cw_175 : Cond.codeWith ⟨"NumberModelsLaw", "order", "(LNumberModels;II[J)I"⟩ method_11_code 5 (some .int) [(0, 10, 13, 28)] ∈ lw_tbl := tin3 (List.mem_of_getElem? (i := 164) rfl)
set_option maxRecDepth 20000 in
theorem cv_175 : cwd 175 ∈ lw_tbl := cw_175
set_option maxRecDepth 20000 in
theorem cw_176 : Cond.codeWith ⟨"NumberModelsLaw", "meets", "(LNumberModels;IJ[J)I"⟩ method_12_code 6 (some .int) [(0, 11, 14, 28)] ∈ lw_tbl := tin3 (List.mem_of_getElem? (i := 171) rfl)
set_option maxRecDepth 20000 in
theorem cv_176 : cwd 176 ∈ lw_tbl := cw_176
set_option maxRecDepth 20000 in
theorem cw_177 : Cond.codeWith ⟨"NumberModelsLaw", "nearest", "(LNumberModels;II[J)I"⟩ method_13_code 5 (some .int) [(0, 9, 12, 28), (0, 9, 16, 30)] ∈ lw_tbl := tin3 (List.mem_of_getElem? (i := 189) rfl)
set_option maxRecDepth 20000 in
theorem cv_177 : cwd 177 ∈ lw_tbl := cw_177
set_option maxRecDepth 20000 in
theorem cw_178 : Cond.codeWith ⟨"NumberModelsLaw", "single", "(LNumberModels;II[J)I"⟩ method_14_code 5 (some .int) [(0, 10, 13, 28), (0, 10, 17, 30)] ∈ lw_tbl := tin3 (List.mem_of_getElem? (i := 223) rfl)
set_option maxRecDepth 20000 in
theorem cv_178 : cwd 178 ∈ lw_tbl := cw_178
set_option maxRecDepth 20000 in
theorem cw_179 : Cond.codeWith ⟨"NumberModelsLaw", "machine", "(LNumberModels;IJJ[J)I"⟩ method_15_code 8 (some .int) [(0, 12, 15, 30)] ∈ lw_tbl := tin3 (List.mem_of_getElem? (i := 232) rfl)
set_option maxRecDepth 20000 in
theorem cv_179 : cwd 179 ∈ lw_tbl := cw_179
set_option maxRecDepth 20000 in
theorem cw_180 : Cond.codeWith ⟨"NumberModelsLaw", "cast", "(LNumberModels;IJ[J)I"⟩ method_16_code 6 (some .int) [(0, 10, 13, 30)] ∈ lw_tbl := tin4 (List.mem_of_getElem? (i := 58) rfl)
set_option maxRecDepth 20000 in
theorem cv_180 : cwd 180 ∈ lw_tbl := cw_180
theorem cwd_in : ∀ m, m < 181 → cwd m ∈ lw_tbl := by
  intro m hm
  match m, hm with
  | 0, _ => exact cv_0
  | 1, _ => exact cv_1
  | 2, _ => exact cv_2
  | 3, _ => exact cv_3
  | 4, _ => exact cv_4
  | 5, _ => exact cv_5
  | 6, _ => exact cv_6
  | 7, _ => exact cv_7
  | 8, _ => exact cv_8
  | 9, _ => exact cv_9
  | 10, _ => exact cv_10
  | 11, _ => exact cv_11
  | 12, _ => exact cv_12
  | 13, _ => exact cv_13
  | 14, _ => exact cv_14
  | 15, _ => exact cv_15
  | 16, _ => exact cv_16
  | 17, _ => exact cv_17
  | 18, _ => exact cv_18
  | 19, _ => exact cv_19
  | 20, _ => exact cv_20
  | 21, _ => exact cv_21
  | 22, _ => exact cv_22
  | 23, _ => exact cv_23
  | 24, _ => exact cv_24
  | 25, _ => exact cv_25
  | 26, _ => exact cv_26
  | 27, _ => exact cv_27
  | 28, _ => exact cv_28
  | 29, _ => exact cv_29
  | 30, _ => exact cv_30
  | 31, _ => exact cv_31
  | 32, _ => exact cv_32
  | 33, _ => exact cv_33
  | 34, _ => exact cv_34
  | 35, _ => exact cv_35
  | 36, _ => exact cv_36
  | 37, _ => exact cv_37
  | 38, _ => exact cv_38
  | 39, _ => exact cv_39
  | 40, _ => exact cv_40
  | 41, _ => exact cv_41
  | 42, _ => exact cv_42
  | 43, _ => exact cv_43
  | 44, _ => exact cv_44
  | 45, _ => exact cv_45
  | 46, _ => exact cv_46
  | 47, _ => exact cv_47
  | 48, _ => exact cv_48
  | 49, _ => exact cv_49
  | 50, _ => exact cv_50
  | 51, _ => exact cv_51
  | 52, _ => exact cv_52
  | 53, _ => exact cv_53
  | 54, _ => exact cv_54
  | 55, _ => exact cv_55
  | 56, _ => exact cv_56
  | 57, _ => exact cv_57
  | 58, _ => exact cv_58
  | 59, _ => exact cv_59
  | 60, _ => exact cv_60
  | 61, _ => exact cv_61
  | 62, _ => exact cv_62
  | 63, _ => exact cv_63
  | 64, _ => exact cv_64
  | 65, _ => exact cv_65
  | 66, _ => exact cv_66
  | 67, _ => exact cv_67
  | 68, _ => exact cv_68
  | 69, _ => exact cv_69
  | 70, _ => exact cv_70
  | 71, _ => exact cv_71
  | 72, _ => exact cv_72
  | 73, _ => exact cv_73
  | 74, _ => exact cv_74
  | 75, _ => exact cv_75
  | 76, _ => exact cv_76
  | 77, _ => exact cv_77
  | 78, _ => exact cv_78
  | 79, _ => exact cv_79
  | 80, _ => exact cv_80
  | 81, _ => exact cv_81
  | 82, _ => exact cv_82
  | 83, _ => exact cv_83
  | 84, _ => exact cv_84
  | 85, _ => exact cv_85
  | 86, _ => exact cv_86
  | 87, _ => exact cv_87
  | 88, _ => exact cv_88
  | 89, _ => exact cv_89
  | 90, _ => exact cv_90
  | 91, _ => exact cv_91
  | 92, _ => exact cv_92
  | 93, _ => exact cv_93
  | 94, _ => exact cv_94
  | 95, _ => exact cv_95
  | 96, _ => exact cv_96
  | 97, _ => exact cv_97
  | 98, _ => exact cv_98
  | 99, _ => exact cv_99
  | 100, _ => exact cv_100
  | 101, _ => exact cv_101
  | 102, _ => exact cv_102
  | 103, _ => exact cv_103
  | 104, _ => exact cv_104
  | 105, _ => exact cv_105
  | 106, _ => exact cv_106
  | 107, _ => exact cv_107
  | 108, _ => exact cv_108
  | 109, _ => exact cv_109
  | 110, _ => exact cv_110
  | 111, _ => exact cv_111
  | 112, _ => exact cv_112
  | 113, _ => exact cv_113
  | 114, _ => exact cv_114
  | 115, _ => exact cv_115
  | 116, _ => exact cv_116
  | 117, _ => exact cv_117
  | 118, _ => exact cv_118
  | 119, _ => exact cv_119
  | 120, _ => exact cv_120
  | 121, _ => exact cv_121
  | 122, _ => exact cv_122
  | 123, _ => exact cv_123
  | 124, _ => exact cv_124
  | 125, _ => exact cv_125
  | 126, _ => exact cv_126
  | 127, _ => exact cv_127
  | 128, _ => exact cv_128
  | 129, _ => exact cv_129
  | 130, _ => exact cv_130
  | 131, _ => exact cv_131
  | 132, _ => exact cv_132
  | 133, _ => exact cv_133
  | 134, _ => exact cv_134
  | 135, _ => exact cv_135
  | 136, _ => exact cv_136
  | 137, _ => exact cv_137
  | 138, _ => exact cv_138
  | 139, _ => exact cv_139
  | 140, _ => exact cv_140
  | 141, _ => exact cv_141
  | 142, _ => exact cv_142
  | 143, _ => exact cv_143
  | 144, _ => exact cv_144
  | 145, _ => exact cv_145
  | 146, _ => exact cv_146
  | 147, _ => exact cv_147
  | 148, _ => exact cv_148
  | 149, _ => exact cv_149
  | 150, _ => exact cv_150
  | 151, _ => exact cv_151
  | 152, _ => exact cv_152
  | 153, _ => exact cv_153
  | 154, _ => exact cv_154
  | 155, _ => exact cv_155
  | 156, _ => exact cv_156
  | 157, _ => exact cv_157
  | 158, _ => exact cv_158
  | 159, _ => exact cv_159
  | 160, _ => exact cv_160
  | 161, _ => exact cv_161
  | 162, _ => exact cv_162
  | 163, _ => exact cv_163
  | 164, _ => exact cv_164
  | 165, _ => exact cv_165
  | 166, _ => exact cv_166
  | 167, _ => exact cv_167
  | 168, _ => exact cv_168
  | 169, _ => exact cv_169
  | 170, _ => exact cv_170
  | 171, _ => exact cv_171
  | 172, _ => exact cv_172
  | 173, _ => exact cv_173
  | 174, _ => exact cv_174
  | 175, _ => exact cv_175
  | 176, _ => exact cv_176
  | 177, _ => exact cv_177
  | 178, _ => exact cv_178
  | 179, _ => exact cv_179
  | 180, _ => exact cv_180
  | n + 181, h => exact absurd h (by omega)
