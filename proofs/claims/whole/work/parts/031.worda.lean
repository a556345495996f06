theorem wt_0 : Cond.selects "CallMelt" (⟨"CallMelt", "tellStep", "(IIIIII)I"⟩ : MethodName) (⟨"CallMelt", "tellStep", "(IIIIII)I"⟩ : MethodName) ∈ lw_tbl := List.mem_of_getElem? (i := 0) (by decide +kernel)
theorem wd_0 : Cond.selects "CallMelt" (⟨"CallMelt", "tellStep", "(IIIIII)I"⟩ : MethodName) (⟨"CallMelt", "tellStep", "(IIIIII)I"⟩ : MethodName) ∈ lw_u := lw_in wt_0 rfl
theorem wt_1 : Cond.selects "CallMelt$Machine" (⟨"CallMelt$Machine", "refuse", "(II)V"⟩ : MethodName) (⟨"CallMelt$Machine", "refuse", "(II)V"⟩ : MethodName) ∈ lw_tbl := List.mem_of_getElem? (i := 1) (by decide +kernel)
theorem wd_1 : Cond.selects "CallMelt$Machine" (⟨"CallMelt$Machine", "refuse", "(II)V"⟩ : MethodName) (⟨"CallMelt$Machine", "refuse", "(II)V"⟩ : MethodName) ∈ lw_u := lw_in wt_1 rfl
theorem wt_2 : Cond.selects "CallMelt$Machine" (⟨"CallMelt$Machine", "openCall", "(IIIII)V"⟩ : MethodName) (⟨"CallMelt$Machine", "openCall", "(IIIII)V"⟩ : MethodName) ∈ lw_tbl := List.mem_of_getElem? (i := 2) (by decide +kernel)
theorem wd_2 : Cond.selects "CallMelt$Machine" (⟨"CallMelt$Machine", "openCall", "(IIIII)V"⟩ : MethodName) (⟨"CallMelt$Machine", "openCall", "(IIIII)V"⟩ : MethodName) ∈ lw_u := lw_in wt_2 rfl
theorem wt_3 : Cond.selects "CallMelt$Machine" (⟨"CallMelt$Machine", "writeName", "(II)V"⟩ : MethodName) (⟨"CallMelt$Machine", "writeName", "(II)V"⟩ : MethodName) ∈ lw_tbl := List.mem_of_getElem? (i := 3) (by decide +kernel)
theorem wd_3 : Cond.selects "CallMelt$Machine" (⟨"CallMelt$Machine", "writeName", "(II)V"⟩ : MethodName) (⟨"CallMelt$Machine", "writeName", "(II)V"⟩ : MethodName) ∈ lw_u := lw_in wt_3 rfl
theorem wt_4 : Cond.selects "CallMelt$Machine" (⟨"CallMelt$Machine", "begin", "(I)V"⟩ : MethodName) (⟨"CallMelt$Machine", "begin", "(I)V"⟩ : MethodName) ∈ lw_tbl := List.mem_of_getElem? (i := 4) (by decide +kernel)
theorem wd_4 : Cond.selects "CallMelt$Machine" (⟨"CallMelt$Machine", "begin", "(I)V"⟩ : MethodName) (⟨"CallMelt$Machine", "begin", "(I)V"⟩ : MethodName) ∈ lw_u := lw_in wt_4 rfl
theorem wt_5 : Cond.selects "CallMelt$Machine" (⟨"CallMelt$Machine", "pay", "(II)Z"⟩ : MethodName) (⟨"CallMelt$Machine", "pay", "(II)Z"⟩ : MethodName) ∈ lw_tbl := List.mem_of_getElem? (i := 5) (by decide +kernel)
theorem wd_5 : Cond.selects "CallMelt$Machine" (⟨"CallMelt$Machine", "pay", "(II)Z"⟩ : MethodName) (⟨"CallMelt$Machine", "pay", "(II)Z"⟩ : MethodName) ∈ lw_u := lw_in wt_5 rfl
theorem wt_6 : Cond.selects "CallMelt$Machine" (⟨"CallMelt$Machine", "countOne", "(I)V"⟩ : MethodName) (⟨"CallMelt$Machine", "countOne", "(I)V"⟩ : MethodName) ∈ lw_tbl := List.mem_of_getElem? (i := 6) (by decide +kernel)
theorem wd_6 : Cond.selects "CallMelt$Machine" (⟨"CallMelt$Machine", "countOne", "(I)V"⟩ : MethodName) (⟨"CallMelt$Machine", "countOne", "(I)V"⟩ : MethodName) ∈ lw_u := lw_in wt_6 rfl
theorem wt_7 : Cond.selects "CallMelt$Machine" (⟨"CallMelt$Machine", "deliver", "(I)V"⟩ : MethodName) (⟨"CallMelt$Machine", "deliver", "(I)V"⟩ : MethodName) ∈ lw_tbl := List.mem_of_getElem? (i := 7) (by decide +kernel)
theorem wd_7 : Cond.selects "CallMelt$Machine" (⟨"CallMelt$Machine", "deliver", "(I)V"⟩ : MethodName) (⟨"CallMelt$Machine", "deliver", "(I)V"⟩ : MethodName) ∈ lw_u := lw_in wt_7 rfl
theorem wt_8 : Cond.selects "CallMelt$Machine" (⟨"CallMelt$Machine", "readName", "(I)I"⟩ : MethodName) (⟨"CallMelt$Machine", "readName", "(I)I"⟩ : MethodName) ∈ lw_tbl := List.mem_of_getElem? (i := 8) (by decide +kernel)
theorem wd_8 : Cond.selects "CallMelt$Machine" (⟨"CallMelt$Machine", "readName", "(I)I"⟩ : MethodName) (⟨"CallMelt$Machine", "readName", "(I)I"⟩ : MethodName) ∈ lw_u := lw_in wt_8 rfl
theorem wt_9 : Cond.selects "CallMelt$Machine" (⟨"CallMelt$Machine", "advance", "(I)I"⟩ : MethodName) (⟨"CallMelt$Machine", "advance", "(I)I"⟩ : MethodName) ∈ lw_tbl := List.mem_of_getElem? (i := 9) (by decide +kernel)
theorem wd_9 : Cond.selects "CallMelt$Machine" (⟨"CallMelt$Machine", "advance", "(I)I"⟩ : MethodName) (⟨"CallMelt$Machine", "advance", "(I)I"⟩ : MethodName) ∈ lw_u := lw_in wt_9 rfl
theorem wt_10 : Cond.selects "CallMelt$Machine" (⟨"CallMelt$Machine", "advancePick", "(II)I"⟩ : MethodName) (⟨"CallMelt$Machine", "advancePick", "(II)I"⟩ : MethodName) ∈ lw_tbl := List.mem_of_getElem? (i := 10) (by decide +kernel)
theorem wd_10 : Cond.selects "CallMelt$Machine" (⟨"CallMelt$Machine", "advancePick", "(II)I"⟩ : MethodName) (⟨"CallMelt$Machine", "advancePick", "(II)I"⟩ : MethodName) ∈ lw_u := lw_in wt_10 rfl
theorem wt_11 : Cond.selects "CallMelt$Machine" (⟨"CallMelt$Machine", "finish", "(I)V"⟩ : MethodName) (⟨"CallMelt$Machine", "finish", "(I)V"⟩ : MethodName) ∈ lw_tbl := List.mem_of_getElem? (i := 11) (by decide +kernel)
theorem wd_11 : Cond.selects "CallMelt$Machine" (⟨"CallMelt$Machine", "finish", "(I)V"⟩ : MethodName) (⟨"CallMelt$Machine", "finish", "(I)V"⟩ : MethodName) ∈ lw_u := lw_in wt_11 rfl
theorem wt_12 : Cond.selects "CallMelt$Machine" (⟨"CallMelt$Machine", "advanceWhile", "(II)I"⟩ : MethodName) (⟨"CallMelt$Machine", "advanceWhile", "(II)I"⟩ : MethodName) ∈ lw_tbl := List.mem_of_getElem? (i := 12) (by decide +kernel)
theorem wd_12 : Cond.selects "CallMelt$Machine" (⟨"CallMelt$Machine", "advanceWhile", "(II)I"⟩ : MethodName) (⟨"CallMelt$Machine", "advanceWhile", "(II)I"⟩ : MethodName) ∈ lw_u := lw_in wt_12 rfl
theorem wt_13 : Cond.selects "CallMelt$Machine" (⟨"CallMelt$Machine", "advanceCall", "(II)I"⟩ : MethodName) (⟨"CallMelt$Machine", "advanceCall", "(II)I"⟩ : MethodName) ∈ lw_tbl := List.mem_of_getElem? (i := 13) (by decide +kernel)
theorem wd_13 : Cond.selects "CallMelt$Machine" (⟨"CallMelt$Machine", "advanceCall", "(II)I"⟩ : MethodName) (⟨"CallMelt$Machine", "advanceCall", "(II)I"⟩ : MethodName) ∈ lw_u := lw_in wt_13 rfl
theorem wt_14 : Cond.selects "CallMelt$Machine" (⟨"CallMelt$Machine", "enter", "(III)Z"⟩ : MethodName) (⟨"CallMelt$Machine", "enter", "(III)Z"⟩ : MethodName) ∈ lw_tbl := List.mem_of_getElem? (i := 14) (by decide +kernel)
theorem wd_14 : Cond.selects "CallMelt$Machine" (⟨"CallMelt$Machine", "enter", "(III)Z"⟩ : MethodName) (⟨"CallMelt$Machine", "enter", "(III)Z"⟩ : MethodName) ∈ lw_u := lw_in wt_14 rfl
theorem wt_15 : Cond.selects "CallMelt$Machine" (⟨"CallMelt$Machine", "conclude", "(III)V"⟩ : MethodName) (⟨"CallMelt$Machine", "conclude", "(III)V"⟩ : MethodName) ∈ lw_tbl := List.mem_of_getElem? (i := 15) (by decide +kernel)
theorem wd_15 : Cond.selects "CallMelt$Machine" (⟨"CallMelt$Machine", "conclude", "(III)V"⟩ : MethodName) (⟨"CallMelt$Machine", "conclude", "(III)V"⟩ : MethodName) ∈ lw_u := lw_in wt_15 rfl
theorem wt_16 : Cond.selects "CallMelt$Machine" (⟨"CallMelt$Machine", "concludeAct", "(III)V"⟩ : MethodName) (⟨"CallMelt$Machine", "concludeAct", "(III)V"⟩ : MethodName) ∈ lw_tbl := List.mem_of_getElem? (i := 16) (by decide +kernel)
theorem wd_16 : Cond.selects "CallMelt$Machine" (⟨"CallMelt$Machine", "concludeAct", "(III)V"⟩ : MethodName) (⟨"CallMelt$Machine", "concludeAct", "(III)V"⟩ : MethodName) ∈ lw_u := lw_in wt_16 rfl
theorem wt_17 : Cond.selects "CallMelt$Machine" (⟨"CallMelt$Machine", "leaveWith", "(I)V"⟩ : MethodName) (⟨"CallMelt$Machine", "leaveWith", "(I)V"⟩ : MethodName) ∈ lw_tbl := List.mem_of_getElem? (i := 17) (by decide +kernel)
theorem wd_17 : Cond.selects "CallMelt$Machine" (⟨"CallMelt$Machine", "leaveWith", "(I)V"⟩ : MethodName) (⟨"CallMelt$Machine", "leaveWith", "(I)V"⟩ : MethodName) ∈ lw_u := lw_in wt_17 rfl
theorem wt_18 : Cond.selects "CallMelt$Machine" (⟨"CallMelt$Machine", "concludePlace", "(IIII)V"⟩ : MethodName) (⟨"CallMelt$Machine", "concludePlace", "(IIII)V"⟩ : MethodName) ∈ lw_tbl := List.mem_of_getElem? (i := 18) (by decide +kernel)
theorem wd_18 : Cond.selects "CallMelt$Machine" (⟨"CallMelt$Machine", "concludePlace", "(IIII)V"⟩ : MethodName) (⟨"CallMelt$Machine", "concludePlace", "(IIII)V"⟩ : MethodName) ∈ lw_u := lw_in wt_18 rfl
theorem wt_19 : Cond.selects "CallMelt$Melter" (⟨"CallMelt$Melter", "highWrittenOut", "(II)I"⟩ : MethodName) (⟨"CallMelt$Melter", "highWrittenOut", "(II)I"⟩ : MethodName) ∈ lw_tbl := List.mem_of_getElem? (i := 19) (by decide +kernel)
theorem wd_19 : Cond.selects "CallMelt$Melter" (⟨"CallMelt$Melter", "highWrittenOut", "(II)I"⟩ : MethodName) (⟨"CallMelt$Melter", "highWrittenOut", "(II)I"⟩ : MethodName) ∈ lw_u := lw_in wt_19 rfl
theorem wt_20 : Cond.selects "CallMelt$Melter" (⟨"CallMelt$Melter", "moveOrZero", "(II)V"⟩ : MethodName) (⟨"CallMelt$Melter", "moveOrZero", "(II)V"⟩ : MethodName) ∈ lw_tbl := List.mem_of_getElem? (i := 20) (by decide +kernel)
theorem wd_20 : Cond.selects "CallMelt$Melter" (⟨"CallMelt$Melter", "moveOrZero", "(II)V"⟩ : MethodName) (⟨"CallMelt$Melter", "moveOrZero", "(II)V"⟩ : MethodName) ∈ lw_u := lw_in wt_20 rfl
theorem wt_21 : Cond.selects "CallMelt$Melter" (⟨"CallMelt$Melter", "writeOff", "(II)V"⟩ : MethodName) (⟨"CallMelt$Melter", "writeOff", "(II)V"⟩ : MethodName) ∈ lw_tbl := List.mem_of_getElem? (i := 21) (by decide +kernel)
theorem wd_21 : Cond.selects "CallMelt$Melter" (⟨"CallMelt$Melter", "writeOff", "(II)V"⟩ : MethodName) (⟨"CallMelt$Melter", "writeOff", "(II)V"⟩ : MethodName) ∈ lw_u := lw_in wt_21 rfl
theorem wt_22 : Cond.selects "CallMelt$Worker" (⟨"CallMelt$Worker", "firstToChange", "(I)I"⟩ : MethodName) (⟨"CallMelt$Worker", "firstToChange", "(I)I"⟩ : MethodName) ∈ lw_tbl := List.mem_of_getElem? (i := 22) (by decide +kernel)
theorem wd_22 : Cond.selects "CallMelt$Worker" (⟨"CallMelt$Worker", "firstToChange", "(I)I"⟩ : MethodName) (⟨"CallMelt$Worker", "firstToChange", "(I)I"⟩ : MethodName) ∈ lw_u := lw_in wt_22 rfl
theorem wt_23 : Cond.selects "CallMelt$Worker" (⟨"CallMelt$Worker", "tallyNames", "()V"⟩ : MethodName) (⟨"CallMelt$Worker", "tallyNames", "()V"⟩ : MethodName) ∈ lw_tbl := List.mem_of_getElem? (i := 23) (by decide +kernel)
theorem wd_23 : Cond.selects "CallMelt$Worker" (⟨"CallMelt$Worker", "tallyNames", "()V"⟩ : MethodName) (⟨"CallMelt$Worker", "tallyNames", "()V"⟩ : MethodName) ∈ lw_u := lw_in wt_23 rfl
theorem wt_24 : Cond.selects "CallMelt$Worker" (⟨"CallMelt$Worker", "canChange", "(II)Z"⟩ : MethodName) (⟨"CallMelt$Worker", "canChange", "(II)Z"⟩ : MethodName) ∈ lw_tbl := List.mem_of_getElem? (i := 24) (by decide +kernel)
theorem wd_24 : Cond.selects "CallMelt$Worker" (⟨"CallMelt$Worker", "canChange", "(II)Z"⟩ : MethodName) (⟨"CallMelt$Worker", "canChange", "(II)Z"⟩ : MethodName) ∈ lw_u := lw_in wt_24 rfl
theorem wt_25 : Cond.selects "CallMelt$Worker" (⟨"CallMelt$Worker", "canReckon", "(I)Z"⟩ : MethodName) (⟨"CallMelt$Worker", "canReckon", "(I)Z"⟩ : MethodName) ∈ lw_tbl := List.mem_of_getElem? (i := 25) (by decide +kernel)
theorem wd_25 : Cond.selects "CallMelt$Worker" (⟨"CallMelt$Worker", "canReckon", "(I)Z"⟩ : MethodName) (⟨"CallMelt$Worker", "canReckon", "(I)Z"⟩ : MethodName) ∈ lw_u := lw_in wt_25 rfl
theorem wt_26 : Cond.selects "CallMelt$Worker" (⟨"CallMelt$Worker", "canFix", "(II)Z"⟩ : MethodName) (⟨"CallMelt$Worker", "canFix", "(II)Z"⟩ : MethodName) ∈ lw_tbl := List.mem_of_getElem? (i := 26) (by decide +kernel)
theorem wd_26 : Cond.selects "CallMelt$Worker" (⟨"CallMelt$Worker", "canFix", "(II)Z"⟩ : MethodName) (⟨"CallMelt$Worker", "canFix", "(II)Z"⟩ : MethodName) ∈ lw_u := lw_in wt_26 rfl
theorem wt_27 : Cond.selects "CallMelt$Worker" (⟨"CallMelt$Worker", "isNameStep", "(II)Z"⟩ : MethodName) (⟨"CallMelt$Worker", "isNameStep", "(II)Z"⟩ : MethodName) ∈ lw_tbl := List.mem_of_getElem? (i := 27) (by decide +kernel)
theorem wd_27 : Cond.selects "CallMelt$Worker" (⟨"CallMelt$Worker", "isNameStep", "(II)Z"⟩ : MethodName) (⟨"CallMelt$Worker", "isNameStep", "(II)Z"⟩ : MethodName) ∈ lw_u := lw_in wt_27 rfl
theorem wt_28 : Cond.selects "CallMelt$Worker" (⟨"CallMelt$Worker", "isLeft", "(I)Z"⟩ : MethodName) (⟨"CallMelt$Worker", "isLeft", "(I)Z"⟩ : MethodName) ∈ lw_tbl := List.mem_of_getElem? (i := 28) (by decide +kernel)
theorem wd_28 : Cond.selects "CallMelt$Worker" (⟨"CallMelt$Worker", "isLeft", "(I)Z"⟩ : MethodName) (⟨"CallMelt$Worker", "isLeft", "(I)Z"⟩ : MethodName) ∈ lw_u := lw_in wt_28 rfl
theorem wt_29 : Cond.selects "CallMelt$Worker" (⟨"CallMelt$Worker", "namesBecomeNumbers", "()V"⟩ : MethodName) (⟨"CallMelt$Worker", "namesBecomeNumbers", "()V"⟩ : MethodName) ∈ lw_tbl := List.mem_of_getElem? (i := 29) (by decide +kernel)
theorem wd_29 : Cond.selects "CallMelt$Worker" (⟨"CallMelt$Worker", "namesBecomeNumbers", "()V"⟩ : MethodName) (⟨"CallMelt$Worker", "namesBecomeNumbers", "()V"⟩ : MethodName) ∈ lw_u := lw_in wt_29 rfl
theorem wt_30 : Cond.selects "CallMelt$Worker" (⟨"CallMelt$Worker", "becomeNumber", "(I)V"⟩ : MethodName) (⟨"CallMelt$Worker", "becomeNumber", "(I)V"⟩ : MethodName) ∈ lw_tbl := List.mem_of_getElem? (i := 30) (by decide +kernel)
theorem wd_30 : Cond.selects "CallMelt$Worker" (⟨"CallMelt$Worker", "becomeNumber", "(I)V"⟩ : MethodName) (⟨"CallMelt$Worker", "becomeNumber", "(I)V"⟩ : MethodName) ∈ lw_u := lw_in wt_30 rfl
theorem wt_31 : Cond.selects "CallMelt$Worker" (⟨"CallMelt$Worker", "change", "(I)V"⟩ : MethodName) (⟨"CallMelt$Worker", "change", "(I)V"⟩ : MethodName) ∈ lw_tbl := List.mem_of_getElem? (i := 31) (by decide +kernel)
theorem wd_31 : Cond.selects "CallMelt$Worker" (⟨"CallMelt$Worker", "change", "(I)V"⟩ : MethodName) (⟨"CallMelt$Worker", "change", "(I)V"⟩ : MethodName) ∈ lw_u := lw_in wt_31 rfl
theorem wt_32 : Cond.selects "CallMelt$Code" (⟨"CallMelt$Code", "calledBy", "(I)I"⟩ : MethodName) (⟨"CallMelt$Code", "calledBy", "(I)I"⟩ : MethodName) ∈ lw_tbl := List.mem_of_getElem? (i := 32) (by decide +kernel)
theorem wd_32 : Cond.selects "CallMelt$Code" (⟨"CallMelt$Code", "calledBy", "(I)I"⟩ : MethodName) (⟨"CallMelt$Code", "calledBy", "(I)I"⟩ : MethodName) ∈ lw_u := lw_in wt_32 rfl
theorem wt_33 : Cond.selects "CallMelt" (⟨"CallMelt", "refusalOfChoice", "(II)I"⟩ : MethodName) (⟨"CallMelt", "refusalOfChoice", "(II)I"⟩ : MethodName) ∈ lw_tbl := List.mem_of_getElem? (i := 33) (by decide +kernel)
theorem wd_33 : Cond.selects "CallMelt" (⟨"CallMelt", "refusalOfChoice", "(II)I"⟩ : MethodName) (⟨"CallMelt", "refusalOfChoice", "(II)I"⟩ : MethodName) ∈ lw_u := lw_in wt_33 rfl
theorem wt_34 : Cond.selects "CallMelt$Choice" (⟨"CallMelt$Choice", "lookAt", "(I)V"⟩ : MethodName) (⟨"CallMelt$Choice", "lookAt", "(I)V"⟩ : MethodName) ∈ lw_tbl := List.mem_of_getElem? (i := 34) (by decide +kernel)
theorem wd_34 : Cond.selects "CallMelt$Choice" (⟨"CallMelt$Choice", "lookAt", "(I)V"⟩ : MethodName) (⟨"CallMelt$Choice", "lookAt", "(I)V"⟩ : MethodName) ∈ lw_u := lw_in wt_34 rfl
theorem wt_35 : Cond.selects "CallMelt$Choice" (⟨"CallMelt$Choice", "takePicked", "(II)V"⟩ : MethodName) (⟨"CallMelt$Choice", "takePicked", "(II)V"⟩ : MethodName) ∈ lw_tbl := List.mem_of_getElem? (i := 35) (by decide +kernel)
theorem wd_35 : Cond.selects "CallMelt$Choice" (⟨"CallMelt$Choice", "takePicked", "(II)V"⟩ : MethodName) (⟨"CallMelt$Choice", "takePicked", "(II)V"⟩ : MethodName) ∈ lw_u := lw_in wt_35 rfl
theorem wt_36 : Cond.selects "CallMelt$Choice" (⟨"CallMelt$Choice", "isBetter", "(II)Z"⟩ : MethodName) (⟨"CallMelt$Choice", "isBetter", "(II)Z"⟩ : MethodName) ∈ lw_tbl := List.mem_of_getElem? (i := 36) (by decide +kernel)
theorem wd_36 : Cond.selects "CallMelt$Choice" (⟨"CallMelt$Choice", "isBetter", "(II)Z"⟩ : MethodName) (⟨"CallMelt$Choice", "isBetter", "(II)Z"⟩ : MethodName) ∈ lw_u := lw_in wt_36 rfl
theorem wt_37 : Cond.selects "CallMeltModel" (⟨"CallMeltModel", "comesUp", "(III)I"⟩ : MethodName) (⟨"CallMeltModel", "comesUp", "(III)I"⟩ : MethodName) ∈ lw_tbl := List.mem_of_getElem? (i := 37) (by decide +kernel)
theorem wd_37 : Cond.selects "CallMeltModel" (⟨"CallMeltModel", "comesUp", "(III)I"⟩ : MethodName) (⟨"CallMeltModel", "comesUp", "(III)I"⟩ : MethodName) ∈ lw_u := lw_in wt_37 rfl
theorem wt_38 : Cond.selects "CallMeltModel" (⟨"CallMeltModel", "isLoose", "(I)Z"⟩ : MethodName) (⟨"CallMeltModel", "isLoose", "(I)Z"⟩ : MethodName) ∈ lw_tbl := List.mem_of_getElem? (i := 38) (by decide +kernel)
theorem wd_38 : Cond.selects "CallMeltModel" (⟨"CallMeltModel", "isLoose", "(I)Z"⟩ : MethodName) (⟨"CallMeltModel", "isLoose", "(I)Z"⟩ : MethodName) ∈ lw_u := lw_in wt_38 rfl
theorem wt_39 : Cond.selects "CallMeltModel" (⟨"CallMeltModel", "isStep", "(I)Z"⟩ : MethodName) (⟨"CallMeltModel", "isStep", "(I)Z"⟩ : MethodName) ∈ lw_tbl := List.mem_of_getElem? (i := 39) (by decide +kernel)
theorem wd_39 : Cond.selects "CallMeltModel" (⟨"CallMeltModel", "isStep", "(I)Z"⟩ : MethodName) (⟨"CallMeltModel", "isStep", "(I)Z"⟩ : MethodName) ∈ lw_u := lw_in wt_39 rfl
theorem wt_40 : Cond.selects "CallMeltModel" (⟨"CallMeltModel", "bodyOf", "(I)I"⟩ : MethodName) (⟨"CallMeltModel", "bodyOf", "(I)I"⟩ : MethodName) ∈ lw_tbl := List.mem_of_getElem? (i := 40) (by decide +kernel)
theorem wd_40 : Cond.selects "CallMeltModel" (⟨"CallMeltModel", "bodyOf", "(I)I"⟩ : MethodName) (⟨"CallMeltModel", "bodyOf", "(I)I"⟩ : MethodName) ∈ lw_u := lw_in wt_40 rfl
theorem wt_41 : Cond.selects "CallMeltModel" (⟨"CallMeltModel", "high", "(I)I"⟩ : MethodName) (⟨"CallMeltModel", "high", "(I)I"⟩ : MethodName) ∈ lw_tbl := List.mem_of_getElem? (i := 41) (by decide +kernel)
theorem wd_41 : Cond.selects "CallMeltModel" (⟨"CallMeltModel", "high", "(I)I"⟩ : MethodName) (⟨"CallMeltModel", "high", "(I)I"⟩ : MethodName) ∈ lw_u := lw_in wt_41 rfl
theorem wt_42 : Cond.selects "CallMeltModel" (⟨"CallMeltModel", "goes", "(I)I"⟩ : MethodName) (⟨"CallMeltModel", "goes", "(I)I"⟩ : MethodName) ∈ lw_tbl := List.mem_of_getElem? (i := 42) (by decide +kernel)
theorem wd_42 : Cond.selects "CallMeltModel" (⟨"CallMeltModel", "goes", "(I)I"⟩ : MethodName) (⟨"CallMeltModel", "goes", "(I)I"⟩ : MethodName) ∈ lw_u := lw_in wt_42 rfl
theorem wt_43 : Cond.selects "CallMeltModel" (⟨"CallMeltModel", "partsOf", "(I)I"⟩ : MethodName) (⟨"CallMeltModel", "partsOf", "(I)I"⟩ : MethodName) ∈ lw_tbl := List.mem_of_getElem? (i := 43) (by decide +kernel)
theorem wd_43 : Cond.selects "CallMeltModel" (⟨"CallMeltModel", "partsOf", "(I)I"⟩ : MethodName) (⟨"CallMeltModel", "partsOf", "(I)I"⟩ : MethodName) ∈ lw_u := lw_in wt_43 rfl
theorem wt_44 : Cond.selects "CallMeltModel" (⟨"CallMeltModel", "make", "(II)I"⟩ : MethodName) (⟨"CallMeltModel", "make", "(II)I"⟩ : MethodName) ∈ lw_tbl := List.mem_of_getElem? (i := 44) (by decide +kernel)
theorem wd_44 : Cond.selects "CallMeltModel" (⟨"CallMeltModel", "make", "(II)I"⟩ : MethodName) (⟨"CallMeltModel", "make", "(II)I"⟩ : MethodName) ∈ lw_u := lw_in wt_44 rfl
theorem wt_45 : Cond.selects "CallMeltModel" (⟨"CallMeltModel", "setPart", "(III)V"⟩ : MethodName) (⟨"CallMeltModel", "setPart", "(III)V"⟩ : MethodName) ∈ lw_tbl := List.mem_of_getElem? (i := 45) (by decide +kernel)
theorem wd_45 : Cond.selects "CallMeltModel" (⟨"CallMeltModel", "setPart", "(III)V"⟩ : MethodName) (⟨"CallMeltModel", "setPart", "(III)V"⟩ : MethodName) ∈ lw_u := lw_in wt_45 rfl
theorem wt_46 : Cond.selects "CallMeltModel" (⟨"CallMeltModel", "give", "(III)V"⟩ : MethodName) (⟨"CallMeltModel", "give", "(III)V"⟩ : MethodName) ∈ lw_tbl := List.mem_of_getElem? (i := 46) (by decide +kernel)
theorem wd_46 : Cond.selects "CallMeltModel" (⟨"CallMeltModel", "give", "(III)V"⟩ : MethodName) (⟨"CallMeltModel", "give", "(III)V"⟩ : MethodName) ∈ lw_u := lw_in wt_46 rfl
theorem wt_47 : Cond.selects "CallMeltModel" (⟨"CallMeltModel", "isRoutine", "(I)Z"⟩ : MethodName) (⟨"CallMeltModel", "isRoutine", "(I)Z"⟩ : MethodName) ∈ lw_tbl := List.mem_of_getElem? (i := 47) (by decide +kernel)
theorem wd_47 : Cond.selects "CallMeltModel" (⟨"CallMeltModel", "isRoutine", "(I)Z"⟩ : MethodName) (⟨"CallMeltModel", "isRoutine", "(I)Z"⟩ : MethodName) ∈ lw_u := lw_in wt_47 rfl
theorem wt_48 : Cond.selects "CallMeltModel" (⟨"CallMeltModel", "keep", "()V"⟩ : MethodName) (⟨"CallMeltModel", "keep", "()V"⟩ : MethodName) ∈ lw_tbl := List.mem_of_getElem? (i := 48) (by decide +kernel)
theorem wd_48 : Cond.selects "CallMeltModel" (⟨"CallMeltModel", "keep", "()V"⟩ : MethodName) (⟨"CallMeltModel", "keep", "()V"⟩ : MethodName) ∈ lw_u := lw_in wt_48 rfl
theorem wt_49 : Cond.selects "CallMeltModel" (⟨"CallMeltModel", "writesDown", "()V"⟩ : MethodName) (⟨"CallMeltModel", "writesDown", "()V"⟩ : MethodName) ∈ lw_tbl := List.mem_of_getElem? (i := 49) (by decide +kernel)
theorem wd_49 : Cond.selects "CallMeltModel" (⟨"CallMeltModel", "writesDown", "()V"⟩ : MethodName) (⟨"CallMeltModel", "writesDown", "()V"⟩ : MethodName) ∈ lw_u := lw_in wt_49 rfl
theorem wt_50 : Cond.selects "CallMeltModel" (⟨"CallMeltModel", "keepIt", "()V"⟩ : MethodName) (⟨"CallMeltModel", "keepIt", "()V"⟩ : MethodName) ∈ lw_tbl := List.mem_of_getElem? (i := 50) (by decide +kernel)
theorem wd_50 : Cond.selects "CallMeltModel" (⟨"CallMeltModel", "keepIt", "()V"⟩ : MethodName) (⟨"CallMeltModel", "keepIt", "()V"⟩ : MethodName) ∈ lw_u := lw_in wt_50 rfl
theorem wt_51 : Cond.selects "CallMeltModel" (⟨"CallMeltModel", "copies", "(II)V"⟩ : MethodName) (⟨"CallMeltModel", "copies", "(II)V"⟩ : MethodName) ∈ lw_tbl := List.mem_of_getElem? (i := 51) (by decide +kernel)
theorem wd_51 : Cond.selects "CallMeltModel" (⟨"CallMeltModel", "copies", "(II)V"⟩ : MethodName) (⟨"CallMeltModel", "copies", "(II)V"⟩ : MethodName) ∈ lw_u := lw_in wt_51 rfl
theorem wt_52 : Cond.selects "CallMeltModel" (⟨"CallMeltModel", "uses", "(I)I"⟩ : MethodName) (⟨"CallMeltModel", "uses", "(I)I"⟩ : MethodName) ∈ lw_tbl := List.mem_of_getElem? (i := 52) (by decide +kernel)
theorem wd_52 : Cond.selects "CallMeltModel" (⟨"CallMeltModel", "uses", "(I)I"⟩ : MethodName) (⟨"CallMeltModel", "uses", "(I)I"⟩ : MethodName) ∈ lw_u := lw_in wt_52 rfl
theorem wt_53 : Cond.selects "CallMeltModel" (⟨"CallMeltModel", "homeOf", "(I)I"⟩ : MethodName) (⟨"CallMeltModel", "homeOf", "(I)I"⟩ : MethodName) ∈ lw_tbl := List.mem_of_getElem? (i := 53) (by decide +kernel)
theorem wd_53 : Cond.selects "CallMeltModel" (⟨"CallMeltModel", "homeOf", "(I)I"⟩ : MethodName) (⟨"CallMeltModel", "homeOf", "(I)I"⟩ : MethodName) ∈ lw_u := lw_in wt_53 rfl
theorem wt_54 : Cond.selects "CallMeltModel" (⟨"CallMeltModel", "callsIn", "(II)I"⟩ : MethodName) (⟨"CallMeltModel", "callsIn", "(II)I"⟩ : MethodName) ∈ lw_tbl := List.mem_of_getElem? (i := 54) (by decide +kernel)
theorem wd_54 : Cond.selects "CallMeltModel" (⟨"CallMeltModel", "callsIn", "(II)I"⟩ : MethodName) (⟨"CallMeltModel", "callsIn", "(II)I"⟩ : MethodName) ∈ lw_u := lw_in wt_54 rfl
theorem wt_55 : Cond.selects "CallMeltModel" (⟨"CallMeltModel", "refuses", "(II)V"⟩ : MethodName) (⟨"CallMeltModel", "refuses", "(II)V"⟩ : MethodName) ∈ lw_tbl := List.mem_of_getElem? (i := 55) (by decide +kernel)
theorem wd_55 : Cond.selects "CallMeltModel" (⟨"CallMeltModel", "refuses", "(II)V"⟩ : MethodName) (⟨"CallMeltModel", "refuses", "(II)V"⟩ : MethodName) ∈ lw_u := lw_in wt_55 rfl
theorem wt_56 : Cond.selects "CallMeltModel" (⟨"CallMeltModel", "begins", "(I)V"⟩ : MethodName) (⟨"CallMeltModel", "begins", "(I)V"⟩ : MethodName) ∈ lw_tbl := List.mem_of_getElem? (i := 56) (by decide +kernel)
theorem wd_56 : Cond.selects "CallMeltModel" (⟨"CallMeltModel", "begins", "(I)V"⟩ : MethodName) (⟨"CallMeltModel", "begins", "(I)V"⟩ : MethodName) ∈ lw_u := lw_in wt_56 rfl
theorem wt_57 : Cond.selects "CallMeltModel" (⟨"CallMeltModel", "pays", "(II)Z"⟩ : MethodName) (⟨"CallMeltModel", "pays", "(II)Z"⟩ : MethodName) ∈ lw_tbl := List.mem_of_getElem? (i := 57) (by decide +kernel)
theorem wd_57 : Cond.selects "CallMeltModel" (⟨"CallMeltModel", "pays", "(II)Z"⟩ : MethodName) (⟨"CallMeltModel", "pays", "(II)Z"⟩ : MethodName) ∈ lw_u := lw_in wt_57 rfl
theorem wt_58 : Cond.selects "CallMeltModel" (⟨"CallMeltModel", "goesOn", "()V"⟩ : MethodName) (⟨"CallMeltModel", "goesOn", "()V"⟩ : MethodName) ∈ lw_tbl := List.mem_of_getElem? (i := 58) (by decide +kernel)
theorem wd_58 : Cond.selects "CallMeltModel" (⟨"CallMeltModel", "goesOn", "()V"⟩ : MethodName) (⟨"CallMeltModel", "goesOn", "()V"⟩ : MethodName) ∈ lw_u := lw_in wt_58 rfl
theorem wt_59 : Cond.selects "CallMeltModel" (⟨"CallMeltModel", "ends", "(I)V"⟩ : MethodName) (⟨"CallMeltModel", "ends", "(I)V"⟩ : MethodName) ∈ lw_tbl := List.mem_of_getElem? (i := 59) (by decide +kernel)
theorem wd_59 : Cond.selects "CallMeltModel" (⟨"CallMeltModel", "ends", "(I)V"⟩ : MethodName) (⟨"CallMeltModel", "ends", "(I)V"⟩ : MethodName) ∈ lw_u := lw_in wt_59 rfl
theorem wt_60 : Cond.selects "CallMeltModel" (⟨"CallMeltModel", "ends2", "(I)V"⟩ : MethodName) (⟨"CallMeltModel", "ends2", "(I)V"⟩ : MethodName) ∈ lw_tbl := List.mem_of_getElem? (i := 60) (by decide +kernel)
theorem wd_60 : Cond.selects "CallMeltModel" (⟨"CallMeltModel", "ends2", "(I)V"⟩ : MethodName) (⟨"CallMeltModel", "ends2", "(I)V"⟩ : MethodName) ∈ lw_u := lw_in wt_60 rfl
theorem wt_61 : Cond.selects "CallMeltModel" (⟨"CallMeltModel", "whiles", "(IIII)V"⟩ : MethodName) (⟨"CallMeltModel", "whiles", "(IIII)V"⟩ : MethodName) ∈ lw_tbl := List.mem_of_getElem? (i := 61) (by decide +kernel)
theorem wd_61 : Cond.selects "CallMeltModel" (⟨"CallMeltModel", "whiles", "(IIII)V"⟩ : MethodName) (⟨"CallMeltModel", "whiles", "(IIII)V"⟩ : MethodName) ∈ lw_u := lw_in wt_61 rfl
theorem wt_62 : Cond.selects "CallMeltModel" (⟨"CallMeltModel", "enters", "(II)V"⟩ : MethodName) (⟨"CallMeltModel", "enters", "(II)V"⟩ : MethodName) ∈ lw_tbl := List.mem_of_getElem? (i := 62) (by decide +kernel)
theorem wd_62 : Cond.selects "CallMeltModel" (⟨"CallMeltModel", "enters", "(II)V"⟩ : MethodName) (⟨"CallMeltModel", "enters", "(II)V"⟩ : MethodName) ∈ lw_u := lw_in wt_62 rfl
theorem wt_63 : Cond.selects "CallMeltModel" (⟨"CallMeltModel", "does", "(III)V"⟩ : MethodName) (⟨"CallMeltModel", "does", "(III)V"⟩ : MethodName) ∈ lw_tbl := List.mem_of_getElem? (i := 63) (by decide +kernel)
theorem wd_63 : Cond.selects "CallMeltModel" (⟨"CallMeltModel", "does", "(III)V"⟩ : MethodName) (⟨"CallMeltModel", "does", "(III)V"⟩ : MethodName) ∈ lw_u := lw_in wt_63 rfl
theorem wt_64 : Cond.selects "CallMeltModel" (⟨"CallMeltModel", "leaves", "(I)V"⟩ : MethodName) (⟨"CallMeltModel", "leaves", "(I)V"⟩ : MethodName) ∈ lw_tbl := List.mem_of_getElem? (i := 64) (by decide +kernel)
theorem wd_64 : Cond.selects "CallMeltModel" (⟨"CallMeltModel", "leaves", "(I)V"⟩ : MethodName) (⟨"CallMeltModel", "leaves", "(I)V"⟩ : MethodName) ∈ lw_u := lw_in wt_64 rfl
theorem wt_65 : Cond.selects "CallMeltModel" (⟨"CallMeltModel", "back", "(I)V"⟩ : MethodName) (⟨"CallMeltModel", "back", "(I)V"⟩ : MethodName) ∈ lw_tbl := List.mem_of_getElem? (i := 65) (by decide +kernel)
theorem wd_65 : Cond.selects "CallMeltModel" (⟨"CallMeltModel", "back", "(I)V"⟩ : MethodName) (⟨"CallMeltModel", "back", "(I)V"⟩ : MethodName) ∈ lw_u := lw_in wt_65 rfl
theorem wt_66 : Cond.selects "CallMeltModel" (⟨"CallMeltModel", "isCall", "(I)Z"⟩ : MethodName) (⟨"CallMeltModel", "isCall", "(I)Z"⟩ : MethodName) ∈ lw_tbl := List.mem_of_getElem? (i := 66) (by decide +kernel)
theorem wd_66 : Cond.selects "CallMeltModel" (⟨"CallMeltModel", "isCall", "(I)Z"⟩ : MethodName) (⟨"CallMeltModel", "isCall", "(I)Z"⟩ : MethodName) ∈ lw_u := lw_in wt_66 rfl
theorem wt_67 : Cond.selects "CallMeltModel" (⟨"CallMeltModel", "weightOf", "(I)I"⟩ : MethodName) (⟨"CallMeltModel", "weightOf", "(I)I"⟩ : MethodName) ∈ lw_tbl := List.mem_of_getElem? (i := 67) (by decide +kernel)
theorem wd_67 : Cond.selects "CallMeltModel" (⟨"CallMeltModel", "weightOf", "(I)I"⟩ : MethodName) (⟨"CallMeltModel", "weightOf", "(I)I"⟩ : MethodName) ∈ lw_u := lw_in wt_67 rfl
theorem wt_68 : Cond.selects "CallMeltModel" (⟨"CallMeltModel", "highMelted", "(I)I"⟩ : MethodName) (⟨"CallMeltModel", "highMelted", "(I)I"⟩ : MethodName) ∈ lw_tbl := List.mem_of_getElem? (i := 68) (by decide +kernel)
theorem wd_68 : Cond.selects "CallMeltModel" (⟨"CallMeltModel", "highMelted", "(I)I"⟩ : MethodName) (⟨"CallMeltModel", "highMelted", "(I)I"⟩ : MethodName) ∈ lw_u := lw_in wt_68 rfl
theorem wt_69 : Cond.selects "CallMeltModel" (⟨"CallMeltModel", "writesOff", "(II)I"⟩ : MethodName) (⟨"CallMeltModel", "writesOff", "(II)I"⟩ : MethodName) ∈ lw_tbl := List.mem_of_getElem? (i := 69) (by decide +kernel)
theorem wd_69 : Cond.selects "CallMeltModel" (⟨"CallMeltModel", "writesOff", "(II)I"⟩ : MethodName) (⟨"CallMeltModel", "writesOff", "(II)I"⟩ : MethodName) ∈ lw_u := lw_in wt_69 rfl
theorem wt_70 : Cond.selects "CallMeltModel" (⟨"CallMeltModel", "puts", "(II)V"⟩ : MethodName) (⟨"CallMeltModel", "puts", "(II)V"⟩ : MethodName) ∈ lw_tbl := List.mem_of_getElem? (i := 70) (by decide +kernel)
theorem wd_70 : Cond.selects "CallMeltModel" (⟨"CallMeltModel", "puts", "(II)V"⟩ : MethodName) (⟨"CallMeltModel", "puts", "(II)V"⟩ : MethodName) ∈ lw_u := lw_in wt_70 rfl
theorem wt_71 : Cond.selects "CallMeltModel" (⟨"CallMeltModel", "goneAlone", "(I)V"⟩ : MethodName) (⟨"CallMeltModel", "goneAlone", "(I)V"⟩ : MethodName) ∈ lw_tbl := List.mem_of_getElem? (i := 71) (by decide +kernel)
theorem wd_71 : Cond.selects "CallMeltModel" (⟨"CallMeltModel", "goneAlone", "(I)V"⟩ : MethodName) (⟨"CallMeltModel", "goneAlone", "(I)V"⟩ : MethodName) ∈ lw_u := lw_in wt_71 rfl
theorem wt_72 : Cond.selects "CallMeltModel" (⟨"CallMeltModel", "holds", "(II)I"⟩ : MethodName) (⟨"CallMeltModel", "holds", "(II)I"⟩ : MethodName) ∈ lw_tbl := List.mem_of_getElem? (i := 72) (by decide +kernel)
theorem wd_72 : Cond.selects "CallMeltModel" (⟨"CallMeltModel", "holds", "(II)I"⟩ : MethodName) (⟨"CallMeltModel", "holds", "(II)I"⟩ : MethodName) ∈ lw_u := lw_in wt_72 rfl
theorem wt_73 : Cond.selects "CallMeltModel" (⟨"CallMeltModel", "isNumber", "(I)Z"⟩ : MethodName) (⟨"CallMeltModel", "isNumber", "(I)Z"⟩ : MethodName) ∈ lw_tbl := List.mem_of_getElem? (i := 73) (by decide +kernel)
theorem wd_73 : Cond.selects "CallMeltModel" (⟨"CallMeltModel", "isNumber", "(I)Z"⟩ : MethodName) (⟨"CallMeltModel", "isNumber", "(I)Z"⟩ : MethodName) ∈ lw_u := lw_in wt_73 rfl
theorem wt_74 : Cond.selects "CallMeltModel" (⟨"CallMeltModel", "isFast", "(II)Z"⟩ : MethodName) (⟨"CallMeltModel", "isFast", "(II)Z"⟩ : MethodName) ∈ lw_tbl := List.mem_of_getElem? (i := 74) (by decide +kernel)
theorem wd_74 : Cond.selects "CallMeltModel" (⟨"CallMeltModel", "isFast", "(II)Z"⟩ : MethodName) (⟨"CallMeltModel", "isFast", "(II)Z"⟩ : MethodName) ∈ lw_u := lw_in wt_74 rfl
theorem wt_75 : Cond.selects "CallMeltModel" (⟨"CallMeltModel", "howMany", "(III)I"⟩ : MethodName) (⟨"CallMeltModel", "howMany", "(III)I"⟩ : MethodName) ∈ lw_tbl := List.mem_of_getElem? (i := 75) (by decide +kernel)
theorem wd_75 : Cond.selects "CallMeltModel" (⟨"CallMeltModel", "howMany", "(III)I"⟩ : MethodName) (⟨"CallMeltModel", "howMany", "(III)I"⟩ : MethodName) ∈ lw_u := lw_in wt_75 rfl
theorem wt_76 : Cond.selects "CallMeltModel" (⟨"CallMeltModel", "hasLeave", "(I)Z"⟩ : MethodName) (⟨"CallMeltModel", "hasLeave", "(I)Z"⟩ : MethodName) ∈ lw_tbl := List.mem_of_getElem? (i := 76) (by decide +kernel)
theorem wd_76 : Cond.selects "CallMeltModel" (⟨"CallMeltModel", "hasLeave", "(I)Z"⟩ : MethodName) (⟨"CallMeltModel", "hasLeave", "(I)Z"⟩ : MethodName) ∈ lw_u := lw_in wt_76 rfl
theorem wt_77 : Cond.selects "CallMeltModel" (⟨"CallMeltModel", "works", "(II)Z"⟩ : MethodName) (⟨"CallMeltModel", "works", "(II)Z"⟩ : MethodName) ∈ lw_tbl := List.mem_of_getElem? (i := 77) (by decide +kernel)
theorem wd_77 : Cond.selects "CallMeltModel" (⟨"CallMeltModel", "works", "(II)Z"⟩ : MethodName) (⟨"CallMeltModel", "works", "(II)Z"⟩ : MethodName) ∈ lw_u := lw_in wt_77 rfl
theorem wt_78 : Cond.selects "CallMeltModel" (⟨"CallMeltModel", "isRoomFor", "(I)Z"⟩ : MethodName) (⟨"CallMeltModel", "isRoomFor", "(I)Z"⟩ : MethodName) ∈ lw_tbl := List.mem_of_getElem? (i := 78) (by decide +kernel)
theorem wd_78 : Cond.selects "CallMeltModel" (⟨"CallMeltModel", "isRoomFor", "(I)Z"⟩ : MethodName) (⟨"CallMeltModel", "isRoomFor", "(I)Z"⟩ : MethodName) ∈ lw_u := lw_in wt_78 rfl
theorem wt_79 : Cond.selects "CallMeltModel" (⟨"CallMeltModel", "goesRest", "(I)V"⟩ : MethodName) (⟨"CallMeltModel", "goesRest", "(I)V"⟩ : MethodName) ∈ lw_tbl := List.mem_of_getElem? (i := 79) (by decide +kernel)
theorem wd_79 : Cond.selects "CallMeltModel" (⟨"CallMeltModel", "goesRest", "(I)V"⟩ : MethodName) (⟨"CallMeltModel", "goesRest", "(I)V"⟩ : MethodName) ∈ lw_u := lw_in wt_79 rfl
theorem wt_80 : Cond.selects "CallMeltModel" (⟨"CallMeltModel", "becomes", "(II)V"⟩ : MethodName) (⟨"CallMeltModel", "becomes", "(II)V"⟩ : MethodName) ∈ lw_tbl := List.mem_of_getElem? (i := 80) (by decide +kernel)
theorem wd_80 : Cond.selects "CallMeltModel" (⟨"CallMeltModel", "becomes", "(II)V"⟩ : MethodName) (⟨"CallMeltModel", "becomes", "(II)V"⟩ : MethodName) ∈ lw_u := lw_in wt_80 rfl
theorem wt_81 : Cond.selects "CallMeltModel" (⟨"CallMeltModel", "names", "(III)V"⟩ : MethodName) (⟨"CallMeltModel", "names", "(III)V"⟩ : MethodName) ∈ lw_tbl := List.mem_of_getElem? (i := 81) (by decide +kernel)
theorem wd_81 : Cond.selects "CallMeltModel" (⟨"CallMeltModel", "names", "(III)V"⟩ : MethodName) (⟨"CallMeltModel", "names", "(III)V"⟩ : MethodName) ∈ lw_u := lw_in wt_81 rfl
theorem wt_82 : Cond.selects "CallMeltModel" (⟨"CallMeltModel", "looks", "(I)V"⟩ : MethodName) (⟨"CallMeltModel", "looks", "(I)V"⟩ : MethodName) ∈ lw_tbl := List.mem_of_getElem? (i := 82) (by decide +kernel)
theorem wd_82 : Cond.selects "CallMeltModel" (⟨"CallMeltModel", "looks", "(I)V"⟩ : MethodName) (⟨"CallMeltModel", "looks", "(I)V"⟩ : MethodName) ∈ lw_u := lw_in wt_82 rfl
theorem wt_84 : Jvm.Cond.initialized "CallMelt" ∈ lw_tbl := List.mem_of_getElem? (i := 84) (by decide +kernel)
theorem wd_84 : Jvm.Cond.initialized "CallMelt" ∈ lw_u := lw_in wt_84 rfl
theorem wt_85 : Jvm.Cond.initialized "CallMelt$Code" ∈ lw_tbl := List.mem_of_getElem? (i := 85) (by decide +kernel)
theorem wd_85 : Jvm.Cond.initialized "CallMelt$Code" ∈ lw_u := lw_in wt_85 rfl
theorem wt_86 : Jvm.Cond.initialized "CallMelt$Rows" ∈ lw_tbl := List.mem_of_getElem? (i := 86) (by decide +kernel)
theorem wd_86 : Jvm.Cond.initialized "CallMelt$Rows" ∈ lw_u := lw_in wt_86 rfl
theorem wt_87 : Jvm.Cond.initialized "CallMelt$Walk" ∈ lw_tbl := List.mem_of_getElem? (i := 87) (by decide +kernel)
theorem wd_87 : Jvm.Cond.initialized "CallMelt$Walk" ∈ lw_u := lw_in wt_87 rfl
theorem wt_88 : Jvm.Cond.initialized "CallMelt$Machine" ∈ lw_tbl := List.mem_of_getElem? (i := 88) (by decide +kernel)
theorem wd_88 : Jvm.Cond.initialized "CallMelt$Machine" ∈ lw_u := lw_in wt_88 rfl
theorem wt_89 : Jvm.Cond.initialized "CallMelt$Melter" ∈ lw_tbl := List.mem_of_getElem? (i := 89) (by decide +kernel)
theorem wd_89 : Jvm.Cond.initialized "CallMelt$Melter" ∈ lw_u := lw_in wt_89 rfl
theorem wt_90 : Jvm.Cond.initialized "CallMelt$Worker" ∈ lw_tbl := List.mem_of_getElem? (i := 90) (by decide +kernel)
theorem wd_90 : Jvm.Cond.initialized "CallMelt$Worker" ∈ lw_u := lw_in wt_90 rfl
theorem wt_91 : Jvm.Cond.initialized "CallMelt$Past" ∈ lw_tbl := List.mem_of_getElem? (i := 91) (by decide +kernel)
theorem wd_91 : Jvm.Cond.initialized "CallMelt$Past" ∈ lw_u := lw_in wt_91 rfl
theorem wt_92 : Jvm.Cond.initialized "CallMelt$Choice" ∈ lw_tbl := List.mem_of_getElem? (i := 92) (by decide +kernel)
theorem wd_92 : Jvm.Cond.initialized "CallMelt$Choice" ∈ lw_u := lw_in wt_92 rfl
theorem wt_93 : Jvm.Cond.initialized "CallMeltModel" ∈ lw_tbl := List.mem_of_getElem? (i := 93) (by decide +kernel)
theorem wd_93 : Jvm.Cond.initialized "CallMeltModel" ∈ lw_u := lw_in wt_93 rfl
theorem wt_94 : Jvm.Cond.initialized "java/lang/Math" ∈ lw_tbl := List.mem_of_getElem? (i := 94) (by decide +kernel)
theorem wd_94 : Jvm.Cond.initialized "java/lang/Math" ∈ lw_u := lw_in wt_94 rfl
theorem wt_95 : Jvm.Cond.initialized "java/lang/System" ∈ lw_tbl := List.mem_of_getElem? (i := 95) (by decide +kernel)
theorem wd_95 : Jvm.Cond.initialized "java/lang/System" ∈ lw_u := lw_in wt_95 rfl
theorem wt_96 : Jvm.Cond.initialized "java/util/Arrays" ∈ lw_tbl := List.mem_of_getElem? (i := 96) (by decide +kernel)
theorem wd_96 : Jvm.Cond.initialized "java/util/Arrays" ∈ lw_u := lw_in wt_96 rfl
theorem wt_117 : Jvm.Cond.fieldLink "CallMelt$Rows" (9 : Nat) "CallMelt$Rows" "kinds" "[I" ∈ lw_tbl := List.mem_of_getElem? (i := 117) (by decide +kernel)
theorem wd_117 : Jvm.Cond.fieldLink "CallMelt$Rows" (9 : Nat) "CallMelt$Rows" "kinds" "[I" ∈ lw_u := lw_in wt_117 rfl
theorem wt_118 : Jvm.Cond.fieldLinkNest "CallMelt$Code" (56 : Nat) "CallMelt$Rows" "kinds" "[I" "CallMelt" ∈ lw_tbl := List.mem_of_getElem? (i := 118) (by decide +kernel)
theorem wd_118 : Jvm.Cond.fieldLinkNest "CallMelt$Code" (56 : Nat) "CallMelt$Rows" "kinds" "[I" "CallMelt" ∈ lw_u := lw_inN wt_118 rfl
theorem wt_119 : Jvm.Cond.fieldLink "CallMelt$Rows" (15 : Nat) "CallMelt$Rows" "numbers" "[I" ∈ lw_tbl := List.mem_of_getElem? (i := 119) (by decide +kernel)
theorem wd_119 : Jvm.Cond.fieldLink "CallMelt$Rows" (15 : Nat) "CallMelt$Rows" "numbers" "[I" ∈ lw_u := lw_in wt_119 rfl
theorem wt_120 : Jvm.Cond.fieldLinkNest "CallMelt$Code" (59 : Nat) "CallMelt$Rows" "numbers" "[I" "CallMelt" ∈ lw_tbl := List.mem_of_getElem? (i := 120) (by decide +kernel)
theorem wd_120 : Jvm.Cond.fieldLinkNest "CallMelt$Code" (59 : Nat) "CallMelt$Rows" "numbers" "[I" "CallMelt" ∈ lw_u := lw_inN wt_120 rfl
theorem wt_121 : Jvm.Cond.fieldLink "CallMelt$Rows" (18 : Nat) "CallMelt$Rows" "parts" "[I" ∈ lw_tbl := List.mem_of_getElem? (i := 121) (by decide +kernel)
theorem wd_121 : Jvm.Cond.fieldLink "CallMelt$Rows" (18 : Nat) "CallMelt$Rows" "parts" "[I" ∈ lw_u := lw_in wt_121 rfl
theorem wt_122 : Jvm.Cond.fieldLinkNest "CallMelt$Walk" (34 : Nat) "CallMelt$Rows" "parts" "[I" "CallMelt" ∈ lw_tbl := List.mem_of_getElem? (i := 122) (by decide +kernel)
theorem wd_122 : Jvm.Cond.fieldLinkNest "CallMelt$Walk" (34 : Nat) "CallMelt$Rows" "parts" "[I" "CallMelt" ∈ lw_u := lw_inN wt_122 rfl
theorem wt_123 : Jvm.Cond.fieldLinkNest "CallMelt$Code" (62 : Nat) "CallMelt$Rows" "parts" "[I" "CallMelt" ∈ lw_tbl := List.mem_of_getElem? (i := 123) (by decide +kernel)
theorem wd_123 : Jvm.Cond.fieldLinkNest "CallMelt$Code" (62 : Nat) "CallMelt$Rows" "parts" "[I" "CallMelt" ∈ lw_u := lw_inN wt_123 rfl
theorem wt_124 : Jvm.Cond.fieldLink "CallMelt$Rows" (21 : Nat) "CallMelt$Rows" "parents" "[I" ∈ lw_tbl := List.mem_of_getElem? (i := 124) (by decide +kernel)
theorem wd_124 : Jvm.Cond.fieldLink "CallMelt$Rows" (21 : Nat) "CallMelt$Rows" "parents" "[I" ∈ lw_u := lw_in wt_124 rfl
theorem wt_125 : Jvm.Cond.fieldLinkNest "CallMelt$Code" (36 : Nat) "CallMelt$Rows" "parents" "[I" "CallMelt" ∈ lw_tbl := List.mem_of_getElem? (i := 125) (by decide +kernel)
theorem wd_125 : Jvm.Cond.fieldLinkNest "CallMelt$Code" (36 : Nat) "CallMelt$Rows" "parents" "[I" "CallMelt" ∈ lw_u := lw_inN wt_125 rfl
theorem wt_126 : Jvm.Cond.fieldLink "CallMelt$Rows" (24 : Nat) "CallMelt$Rows" "params" "[I" ∈ lw_tbl := List.mem_of_getElem? (i := 126) (by decide +kernel)
theorem wd_126 : Jvm.Cond.fieldLink "CallMelt$Rows" (24 : Nat) "CallMelt$Rows" "params" "[I" ∈ lw_u := lw_in wt_126 rfl
theorem wt_127 : Jvm.Cond.fieldLinkNest "CallMelt$Code" (65 : Nat) "CallMelt$Rows" "params" "[I" "CallMelt" ∈ lw_tbl := List.mem_of_getElem? (i := 127) (by decide +kernel)
theorem wd_127 : Jvm.Cond.fieldLinkNest "CallMelt$Code" (65 : Nat) "CallMelt$Rows" "params" "[I" "CallMelt" ∈ lw_u := lw_inN wt_127 rfl
theorem wt_128 : Jvm.Cond.fieldLink "CallMelt$Rows" (27 : Nat) "CallMelt$Rows" "bodies" "[I" ∈ lw_tbl := List.mem_of_getElem? (i := 128) (by decide +kernel)
theorem wd_128 : Jvm.Cond.fieldLink "CallMelt$Rows" (27 : Nat) "CallMelt$Rows" "bodies" "[I" ∈ lw_u := lw_in wt_128 rfl
theorem wt_129 : Jvm.Cond.fieldLinkNest "CallMelt$Code" (68 : Nat) "CallMelt$Rows" "bodies" "[I" "CallMelt" ∈ lw_tbl := List.mem_of_getElem? (i := 129) (by decide +kernel)
theorem wd_129 : Jvm.Cond.fieldLinkNest "CallMelt$Code" (68 : Nat) "CallMelt$Rows" "bodies" "[I" "CallMelt" ∈ lw_u := lw_inN wt_129 rfl
theorem wt_130 : Jvm.Cond.fieldLinkNest "CallMelt$Code" (28 : Nat) "CallMelt$Rows" "made" "I" "CallMelt" ∈ lw_tbl := List.mem_of_getElem? (i := 130) (by decide +kernel)
theorem wd_130 : Jvm.Cond.fieldLinkNest "CallMelt$Code" (28 : Nat) "CallMelt$Rows" "made" "I" "CallMelt" ∈ lw_u := lw_inN wt_130 rfl
theorem wt_131 : Jvm.Cond.fieldLink "CallMelt$Rows" (30 : Nat) "CallMelt$Rows" "made" "I" ∈ lw_tbl := List.mem_of_getElem? (i := 131) (by decide +kernel)
theorem wd_131 : Jvm.Cond.fieldLink "CallMelt$Rows" (30 : Nat) "CallMelt$Rows" "made" "I" ∈ lw_u := lw_in wt_131 rfl
theorem wt_132 : Jvm.Cond.fieldLinkNest "CallMelt$Melter" (51 : Nat) "CallMelt$Rows" "made" "I" "CallMelt" ∈ lw_tbl := List.mem_of_getElem? (i := 132) (by decide +kernel)
theorem wd_132 : Jvm.Cond.fieldLinkNest "CallMelt$Melter" (51 : Nat) "CallMelt$Rows" "made" "I" "CallMelt" ∈ lw_u := lw_inN wt_132 rfl
theorem wt_133 : Jvm.Cond.fieldLinkNest "CallMelt$Past" (29 : Nat) "CallMelt$Rows" "made" "I" "CallMelt" ∈ lw_tbl := List.mem_of_getElem? (i := 133) (by decide +kernel)
theorem wd_133 : Jvm.Cond.fieldLinkNest "CallMelt$Past" (29 : Nat) "CallMelt$Rows" "made" "I" "CallMelt" ∈ lw_u := lw_inN wt_133 rfl
theorem wt_134 : Jvm.Cond.fieldLinkNest "CallMelt$Choice" (74 : Nat) "CallMelt$Rows" "made" "I" "CallMelt" ∈ lw_tbl := List.mem_of_getElem? (i := 134) (by decide +kernel)
theorem wd_134 : Jvm.Cond.fieldLinkNest "CallMelt$Choice" (74 : Nat) "CallMelt$Rows" "made" "I" "CallMelt" ∈ lw_u := lw_inN wt_134 rfl
theorem wt_135 : Jvm.Cond.fieldLinkNest "CallMelt" (204 : Nat) "CallMelt$Rows" "made" "I" "CallMelt" ∈ lw_tbl := List.mem_of_getElem? (i := 135) (by decide +kernel)
theorem wd_135 : Jvm.Cond.fieldLinkNest "CallMelt" (204 : Nat) "CallMelt$Rows" "made" "I" "CallMelt" ∈ lw_u := lw_inN wt_135 rfl
theorem wt_136 : Jvm.Cond.fieldLink "CallMelt$Rows" (40 : Nat) "CallMelt$Rows" "routines" "I" ∈ lw_tbl := List.mem_of_getElem? (i := 136) (by decide +kernel)
theorem wd_136 : Jvm.Cond.fieldLink "CallMelt$Rows" (40 : Nat) "CallMelt$Rows" "routines" "I" ∈ lw_u := lw_in wt_136 rfl
theorem wt_137 : Jvm.Cond.fieldLinkNest "CallMelt$Code" (44 : Nat) "CallMelt$Rows" "routines" "I" "CallMelt" ∈ lw_tbl := List.mem_of_getElem? (i := 137) (by decide +kernel)
theorem wd_137 : Jvm.Cond.fieldLinkNest "CallMelt$Code" (44 : Nat) "CallMelt$Rows" "routines" "I" "CallMelt" ∈ lw_u := lw_inN wt_137 rfl
theorem wt_138 : Jvm.Cond.fieldLinkNest "CallMelt" (216 : Nat) "CallMelt$Rows" "routines" "I" "CallMelt" ∈ lw_tbl := List.mem_of_getElem? (i := 138) (by decide +kernel)
theorem wd_138 : Jvm.Cond.fieldLinkNest "CallMelt" (216 : Nat) "CallMelt$Rows" "routines" "I" "CallMelt" ∈ lw_u := lw_inN wt_138 rfl
theorem wt_163 : Jvm.Cond.fieldLink "CallMelt$Walk" (9 : Nat) "CallMelt$Walk" "steps" "[I" ∈ lw_tbl := List.mem_of_getElem? (i := 163) (by decide +kernel)
theorem wd_163 : Jvm.Cond.fieldLink "CallMelt$Walk" (9 : Nat) "CallMelt$Walk" "steps" "[I" ∈ lw_u := lw_in wt_163 rfl
theorem wt_164 : Jvm.Cond.fieldLinkNest "CallMelt$Worker" (73 : Nat) "CallMelt$Walk" "steps" "[I" "CallMelt" ∈ lw_tbl := List.mem_of_getElem? (i := 164) (by decide +kernel)
theorem wd_164 : Jvm.Cond.fieldLinkNest "CallMelt$Worker" (73 : Nat) "CallMelt$Walk" "steps" "[I" "CallMelt" ∈ lw_u := lw_inN wt_164 rfl
theorem wt_165 : Jvm.Cond.fieldLinkNest "CallMelt$Melter" (110 : Nat) "CallMelt$Walk" "steps" "[I" "CallMelt" ∈ lw_tbl := List.mem_of_getElem? (i := 165) (by decide +kernel)
theorem wd_165 : Jvm.Cond.fieldLinkNest "CallMelt$Melter" (110 : Nat) "CallMelt$Walk" "steps" "[I" "CallMelt" ∈ lw_u := lw_inN wt_165 rfl
theorem wt_166 : Jvm.Cond.fieldLinkNest "CallMelt$Code" (94 : Nat) "CallMelt$Walk" "steps" "[I" "CallMelt" ∈ lw_tbl := List.mem_of_getElem? (i := 166) (by decide +kernel)
theorem wd_166 : Jvm.Cond.fieldLinkNest "CallMelt$Code" (94 : Nat) "CallMelt$Walk" "steps" "[I" "CallMelt" ∈ lw_u := lw_inN wt_166 rfl
theorem wt_167 : Jvm.Cond.fieldLink "CallMelt$Walk" (15 : Nat) "CallMelt$Walk" "deep" "[I" ∈ lw_tbl := List.mem_of_getElem? (i := 167) (by decide +kernel)
theorem wd_167 : Jvm.Cond.fieldLink "CallMelt$Walk" (15 : Nat) "CallMelt$Walk" "deep" "[I" ∈ lw_u := lw_in wt_167 rfl
theorem wt_168 : Jvm.Cond.fieldLinkNest "CallMelt$Melter" (113 : Nat) "CallMelt$Walk" "deep" "[I" "CallMelt" ∈ lw_tbl := List.mem_of_getElem? (i := 168) (by decide +kernel)
theorem wd_168 : Jvm.Cond.fieldLinkNest "CallMelt$Melter" (113 : Nat) "CallMelt$Walk" "deep" "[I" "CallMelt" ∈ lw_u := lw_inN wt_168 rfl
theorem wt_169 : Jvm.Cond.fieldLinkNest "CallMelt$Worker" (125 : Nat) "CallMelt$Walk" "deep" "[I" "CallMelt" ∈ lw_tbl := List.mem_of_getElem? (i := 169) (by decide +kernel)
theorem wd_169 : Jvm.Cond.fieldLinkNest "CallMelt$Worker" (125 : Nat) "CallMelt$Walk" "deep" "[I" "CallMelt" ∈ lw_u := lw_inN wt_169 rfl
theorem wt_170 : Jvm.Cond.fieldLinkNest "CallMelt$Code" (82 : Nat) "CallMelt$Walk" "deep" "[I" "CallMelt" ∈ lw_tbl := List.mem_of_getElem? (i := 170) (by decide +kernel)
theorem wd_170 : Jvm.Cond.fieldLinkNest "CallMelt$Code" (82 : Nat) "CallMelt$Walk" "deep" "[I" "CallMelt" ∈ lw_u := lw_inN wt_170 rfl
theorem wt_171 : Jvm.Cond.fieldLink "CallMelt$Walk" (18 : Nat) "CallMelt$Walk" "waiting" "[I" ∈ lw_tbl := List.mem_of_getElem? (i := 171) (by decide +kernel)
theorem wd_171 : Jvm.Cond.fieldLink "CallMelt$Walk" (18 : Nat) "CallMelt$Walk" "waiting" "[I" ∈ lw_u := lw_in wt_171 rfl
theorem wt_172 : Jvm.Cond.fieldLink "CallMelt$Walk" (21 : Nat) "CallMelt$Walk" "waitingDeep" "[I" ∈ lw_tbl := List.mem_of_getElem? (i := 172) (by decide +kernel)
theorem wd_172 : Jvm.Cond.fieldLink "CallMelt$Walk" (21 : Nat) "CallMelt$Walk" "waitingDeep" "[I" ∈ lw_u := lw_in wt_172 rfl
theorem wt_173 : Jvm.Cond.fieldLink "CallMelt$Walk" (24 : Nat) "CallMelt$Walk" "size" "I" ∈ lw_tbl := List.mem_of_getElem? (i := 173) (by decide +kernel)
theorem wd_173 : Jvm.Cond.fieldLink "CallMelt$Walk" (24 : Nat) "CallMelt$Walk" "size" "I" ∈ lw_u := lw_in wt_173 rfl
theorem wt_174 : Jvm.Cond.fieldLinkNest "CallMelt$Worker" (70 : Nat) "CallMelt$Walk" "size" "I" "CallMelt" ∈ lw_tbl := List.mem_of_getElem? (i := 174) (by decide +kernel)
theorem wd_174 : Jvm.Cond.fieldLinkNest "CallMelt$Worker" (70 : Nat) "CallMelt$Walk" "size" "I" "CallMelt" ∈ lw_u := lw_inN wt_174 rfl
theorem wt_175 : Jvm.Cond.fieldLinkNest "CallMelt$Melter" (107 : Nat) "CallMelt$Walk" "size" "I" "CallMelt" ∈ lw_tbl := List.mem_of_getElem? (i := 175) (by decide +kernel)
theorem wd_175 : Jvm.Cond.fieldLinkNest "CallMelt$Melter" (107 : Nat) "CallMelt$Walk" "size" "I" "CallMelt" ∈ lw_u := lw_inN wt_175 rfl
theorem wt_176 : Jvm.Cond.fieldLinkNest "CallMelt$Code" (79 : Nat) "CallMelt$Walk" "size" "I" "CallMelt" ∈ lw_tbl := List.mem_of_getElem? (i := 176) (by decide +kernel)
theorem wd_176 : Jvm.Cond.fieldLinkNest "CallMelt$Code" (79 : Nat) "CallMelt$Walk" "size" "I" "CallMelt" ∈ lw_u := lw_inN wt_176 rfl
theorem wt_188 : Jvm.Cond.fieldLink "CallMelt$Code" (12 : Nat) "CallMelt$Code" "rows" "LCallMelt$Rows;" ∈ lw_tbl := List.mem_of_getElem? (i := 188) (by decide +kernel)
theorem wd_188 : Jvm.Cond.fieldLink "CallMelt$Code" (12 : Nat) "CallMelt$Code" "rows" "LCallMelt$Rows;" ∈ lw_u := lw_in wt_188 rfl
theorem wt_189 : Jvm.Cond.fieldLinkNest "CallMelt$Worker" (56 : Nat) "CallMelt$Code" "rows" "LCallMelt$Rows;" "CallMelt" ∈ lw_tbl := List.mem_of_getElem? (i := 189) (by decide +kernel)
theorem wd_189 : Jvm.Cond.fieldLinkNest "CallMelt$Worker" (56 : Nat) "CallMelt$Code" "rows" "LCallMelt$Rows;" "CallMelt" ∈ lw_u := lw_inN wt_189 rfl
theorem wt_190 : Jvm.Cond.fieldLinkNest "CallMelt$Melter" (47 : Nat) "CallMelt$Code" "rows" "LCallMelt$Rows;" "CallMelt" ∈ lw_tbl := List.mem_of_getElem? (i := 190) (by decide +kernel)
theorem wd_190 : Jvm.Cond.fieldLinkNest "CallMelt$Melter" (47 : Nat) "CallMelt$Code" "rows" "LCallMelt$Rows;" "CallMelt" ∈ lw_u := lw_inN wt_190 rfl
theorem wt_191 : Jvm.Cond.fieldLinkNest "CallMelt$Choice" (68 : Nat) "CallMelt$Code" "rows" "LCallMelt$Rows;" "CallMelt" ∈ lw_tbl := List.mem_of_getElem? (i := 191) (by decide +kernel)
theorem wd_191 : Jvm.Cond.fieldLinkNest "CallMelt$Choice" (68 : Nat) "CallMelt$Code" "rows" "LCallMelt$Rows;" "CallMelt" ∈ lw_u := lw_inN wt_191 rfl
theorem wt_192 : Jvm.Cond.fieldLinkNest "CallMelt" (79 : Nat) "CallMelt$Code" "rows" "LCallMelt$Rows;" "CallMelt" ∈ lw_tbl := List.mem_of_getElem? (i := 192) (by decide +kernel)
theorem wd_192 : Jvm.Cond.fieldLinkNest "CallMelt" (79 : Nat) "CallMelt$Code" "rows" "LCallMelt$Rows;" "CallMelt" ∈ lw_u := lw_inN wt_192 rfl
theorem wt_193 : Jvm.Cond.fieldLink "CallMelt$Code" (21 : Nat) "CallMelt$Code" "walk" "LCallMelt$Walk;" ∈ lw_tbl := List.mem_of_getElem? (i := 193) (by decide +kernel)
theorem wd_193 : Jvm.Cond.fieldLink "CallMelt$Code" (21 : Nat) "CallMelt$Code" "walk" "LCallMelt$Walk;" ∈ lw_u := lw_in wt_193 rfl
theorem wt_195 : Jvm.Cond.fieldLink "CallMelt$Code" (25 : Nat) "CallMelt$Code" "held" "LCallMelt$Walk;" ∈ lw_tbl := List.mem_of_getElem? (i := 195) (by decide +kernel)
theorem wd_195 : Jvm.Cond.fieldLink "CallMelt$Code" (25 : Nat) "CallMelt$Code" "held" "LCallMelt$Walk;" ∈ lw_u := lw_in wt_195 rfl
theorem wt_210 : Jvm.Cond.fieldLink "CallMelt$Machine" (36 : Nat) "CallMelt$Machine" "code" "LCallMelt$Code;" ∈ lw_tbl := List.mem_of_getElem? (i := 210) (by decide +kernel)
theorem wd_210 : Jvm.Cond.fieldLink "CallMelt$Machine" (36 : Nat) "CallMelt$Machine" "code" "LCallMelt$Code;" ∈ lw_u := lw_in wt_210 rfl
theorem wt_211 : Jvm.Cond.fieldLink "CallMelt$Machine" (9 : Nat) "CallMelt$Machine" "counts" "[I" ∈ lw_tbl := List.mem_of_getElem? (i := 211) (by decide +kernel)
theorem wd_211 : Jvm.Cond.fieldLink "CallMelt$Machine" (9 : Nat) "CallMelt$Machine" "counts" "[I" ∈ lw_u := lw_in wt_211 rfl
theorem wt_212 : Jvm.Cond.fieldLink "CallMelt$Machine" (15 : Nat) "CallMelt$Machine" "row" "[I" ∈ lw_tbl := List.mem_of_getElem? (i := 212) (by decide +kernel)
theorem wd_212 : Jvm.Cond.fieldLink "CallMelt$Machine" (15 : Nat) "CallMelt$Machine" "row" "[I" ∈ lw_u := lw_in wt_212 rfl
theorem wt_213 : Jvm.Cond.fieldLink "CallMelt$Machine" (18 : Nat) "CallMelt$Machine" "uses" "[I" ∈ lw_tbl := List.mem_of_getElem? (i := 213) (by decide +kernel)
theorem wd_213 : Jvm.Cond.fieldLink "CallMelt$Machine" (18 : Nat) "CallMelt$Machine" "uses" "[I" ∈ lw_u := lw_in wt_213 rfl
theorem wt_214 : Jvm.Cond.fieldLink "CallMelt$Machine" (21 : Nat) "CallMelt$Machine" "names" "[I" ∈ lw_tbl := List.mem_of_getElem? (i := 214) (by decide +kernel)
theorem wd_214 : Jvm.Cond.fieldLink "CallMelt$Machine" (21 : Nat) "CallMelt$Machine" "names" "[I" ∈ lw_u := lw_in wt_214 rfl
theorem wt_215 : Jvm.Cond.fieldLink "CallMelt$Machine" (24 : Nat) "CallMelt$Machine" "openedBy" "[I" ∈ lw_tbl := List.mem_of_getElem? (i := 215) (by decide +kernel)
theorem wd_215 : Jvm.Cond.fieldLink "CallMelt$Machine" (24 : Nat) "CallMelt$Machine" "openedBy" "[I" ∈ lw_u := lw_in wt_215 rfl
theorem wt_216 : Jvm.Cond.fieldLink "CallMelt$Machine" (27 : Nat) "CallMelt$Machine" "steps" "[I" ∈ lw_tbl := List.mem_of_getElem? (i := 216) (by decide +kernel)
theorem wd_216 : Jvm.Cond.fieldLink "CallMelt$Machine" (27 : Nat) "CallMelt$Machine" "steps" "[I" ∈ lw_u := lw_in wt_216 rfl
theorem wt_217 : Jvm.Cond.fieldLink "CallMelt$Machine" (30 : Nat) "CallMelt$Machine" "came" "[I" ∈ lw_tbl := List.mem_of_getElem? (i := 217) (by decide +kernel)
theorem wd_217 : Jvm.Cond.fieldLink "CallMelt$Machine" (30 : Nat) "CallMelt$Machine" "came" "[I" ∈ lw_u := lw_in wt_217 rfl
theorem wt_218 : Jvm.Cond.fieldLink "CallMelt$Machine" (33 : Nat) "CallMelt$Machine" "kept" "[I" ∈ lw_tbl := List.mem_of_getElem? (i := 218) (by decide +kernel)
theorem wd_218 : Jvm.Cond.fieldLink "CallMelt$Machine" (33 : Nat) "CallMelt$Machine" "kept" "[I" ∈ lw_u := lw_in wt_218 rfl
theorem wt_219 : Jvm.Cond.fieldLink "CallMelt$Machine" (67 : Nat) "CallMelt$Machine" "top" "I" ∈ lw_tbl := List.mem_of_getElem? (i := 219) (by decide +kernel)
theorem wd_219 : Jvm.Cond.fieldLink "CallMelt$Machine" (67 : Nat) "CallMelt$Machine" "top" "I" ∈ lw_u := lw_in wt_219 rfl
theorem wt_220 : Jvm.Cond.fieldLink "CallMelt$Machine" (70 : Nat) "CallMelt$Machine" "open" "I" ∈ lw_tbl := List.mem_of_getElem? (i := 220) (by decide +kernel)
theorem wd_220 : Jvm.Cond.fieldLink "CallMelt$Machine" (70 : Nat) "CallMelt$Machine" "open" "I" ∈ lw_u := lw_in wt_220 rfl
theorem wt_221 : Jvm.Cond.fieldLink "CallMelt$Machine" (73 : Nat) "CallMelt$Machine" "left" "I" ∈ lw_tbl := List.mem_of_getElem? (i := 221) (by decide +kernel)
theorem wd_221 : Jvm.Cond.fieldLink "CallMelt$Machine" (73 : Nat) "CallMelt$Machine" "left" "I" ∈ lw_u := lw_in wt_221 rfl
theorem wt_222 : Jvm.Cond.fieldLink "CallMelt$Machine" (40 : Nat) "CallMelt$Machine" "tookEver" "I" ∈ lw_tbl := List.mem_of_getElem? (i := 222) (by decide +kernel)
theorem wd_222 : Jvm.Cond.fieldLink "CallMelt$Machine" (40 : Nat) "CallMelt$Machine" "tookEver" "I" ∈ lw_u := lw_in wt_222 rfl
theorem wt_223 : Jvm.Cond.fieldLink "CallMelt$Machine" (76 : Nat) "CallMelt$Machine" "refusal" "I" ∈ lw_tbl := List.mem_of_getElem? (i := 223) (by decide +kernel)
theorem wd_223 : Jvm.Cond.fieldLink "CallMelt$Machine" (76 : Nat) "CallMelt$Machine" "refusal" "I" ∈ lw_u := lw_in wt_223 rfl
theorem wt_224 : Jvm.Cond.fieldLink "CallMelt$Machine" (55 : Nat) "CallMelt$Machine" "value" "I" ∈ lw_tbl := List.mem_of_getElem? (i := 224) (by decide +kernel)
theorem wd_224 : Jvm.Cond.fieldLink "CallMelt$Machine" (55 : Nat) "CallMelt$Machine" "value" "I" ∈ lw_u := lw_in wt_224 rfl
theorem wt_225 : Jvm.Cond.fieldLink "CallMelt$Machine" (58 : Nat) "CallMelt$Machine" "took" "I" ∈ lw_tbl := List.mem_of_getElem? (i := 225) (by decide +kernel)
theorem wd_225 : Jvm.Cond.fieldLink "CallMelt$Machine" (58 : Nat) "CallMelt$Machine" "took" "I" ∈ lw_u := lw_in wt_225 rfl
theorem wt_226 : Jvm.Cond.fieldLink "CallMelt$Machine" (61 : Nat) "CallMelt$Machine" "mostOpen" "I" ∈ lw_tbl := List.mem_of_getElem? (i := 226) (by decide +kernel)
theorem wd_226 : Jvm.Cond.fieldLink "CallMelt$Machine" (61 : Nat) "CallMelt$Machine" "mostOpen" "I" ∈ lw_u := lw_in wt_226 rfl
theorem wt_227 : Jvm.Cond.fieldLink "CallMelt$Machine" (64 : Nat) "CallMelt$Machine" "refused" "I" ∈ lw_tbl := List.mem_of_getElem? (i := 227) (by decide +kernel)
theorem wd_227 : Jvm.Cond.fieldLink "CallMelt$Machine" (64 : Nat) "CallMelt$Machine" "refused" "I" ∈ lw_u := lw_in wt_227 rfl
theorem wt_271 : Jvm.Cond.fieldLink "CallMelt$Melter" (15 : Nat) "CallMelt$Melter" "code" "LCallMelt$Code;" ∈ lw_tbl := List.mem_of_getElem? (i := 271) (by decide +kernel)
theorem wd_271 : Jvm.Cond.fieldLink "CallMelt$Melter" (15 : Nat) "CallMelt$Melter" "code" "LCallMelt$Code;" ∈ lw_u := lw_in wt_271 rfl
theorem wt_272 : Jvm.Cond.fieldLink "CallMelt$Melter" (25 : Nat) "CallMelt$Melter" "walk" "LCallMelt$Walk;" ∈ lw_tbl := List.mem_of_getElem? (i := 272) (by decide +kernel)
theorem wd_272 : Jvm.Cond.fieldLink "CallMelt$Melter" (25 : Nat) "CallMelt$Melter" "walk" "LCallMelt$Walk;" ∈ lw_u := lw_in wt_272 rfl
theorem wt_273 : Jvm.Cond.fieldLink "CallMelt$Melter" (9 : Nat) "CallMelt$Melter" "latest" "[I" ∈ lw_tbl := List.mem_of_getElem? (i := 273) (by decide +kernel)
theorem wd_273 : Jvm.Cond.fieldLink "CallMelt$Melter" (9 : Nat) "CallMelt$Melter" "latest" "[I" ∈ lw_u := lw_in wt_273 rfl
theorem wt_289 : Jvm.Cond.fieldLink "CallMelt$Worker" (25 : Nat) "CallMelt$Worker" "code" "LCallMelt$Code;" ∈ lw_tbl := List.mem_of_getElem? (i := 289) (by decide +kernel)
theorem wd_289 : Jvm.Cond.fieldLink "CallMelt$Worker" (25 : Nat) "CallMelt$Worker" "code" "LCallMelt$Code;" ∈ lw_u := lw_in wt_289 rfl
theorem wt_290 : Jvm.Cond.fieldLink "CallMelt$Worker" (34 : Nat) "CallMelt$Worker" "walk" "LCallMelt$Walk;" ∈ lw_tbl := List.mem_of_getElem? (i := 290) (by decide +kernel)
theorem wd_290 : Jvm.Cond.fieldLink "CallMelt$Worker" (34 : Nat) "CallMelt$Worker" "walk" "LCallMelt$Walk;" ∈ lw_u := lw_in wt_290 rfl
theorem wt_291 : Jvm.Cond.fieldLink "CallMelt$Worker" (12 : Nat) "CallMelt$Worker" "inner" "LCallMelt$Walk;" ∈ lw_tbl := List.mem_of_getElem? (i := 291) (by decide +kernel)
theorem wd_291 : Jvm.Cond.fieldLink "CallMelt$Worker" (12 : Nat) "CallMelt$Worker" "inner" "LCallMelt$Walk;" ∈ lw_u := lw_in wt_291 rfl
theorem wt_292 : Jvm.Cond.fieldLink "CallMelt$Worker" (18 : Nat) "CallMelt$Worker" "sets" "[I" ∈ lw_tbl := List.mem_of_getElem? (i := 292) (by decide +kernel)
theorem wd_292 : Jvm.Cond.fieldLink "CallMelt$Worker" (18 : Nat) "CallMelt$Worker" "sets" "[I" ∈ lw_u := lw_in wt_292 rfl
theorem wt_293 : Jvm.Cond.fieldLink "CallMelt$Worker" (22 : Nat) "CallMelt$Worker" "names" "[I" ∈ lw_tbl := List.mem_of_getElem? (i := 293) (by decide +kernel)
theorem wd_293 : Jvm.Cond.fieldLink "CallMelt$Worker" (22 : Nat) "CallMelt$Worker" "names" "[I" ∈ lw_u := lw_in wt_293 rfl
theorem wt_294 : Jvm.Cond.fieldLink "CallMelt$Worker" (37 : Nat) "CallMelt$Worker" "isFull" "Z" ∈ lw_tbl := List.mem_of_getElem? (i := 294) (by decide +kernel)
theorem wd_294 : Jvm.Cond.fieldLink "CallMelt$Worker" (37 : Nat) "CallMelt$Worker" "isFull" "Z" ∈ lw_u := lw_in wt_294 rfl
theorem wt_295 : Jvm.Cond.fieldLink "CallMelt$Worker" (99 : Nat) "CallMelt$Worker" "place" "I" ∈ lw_tbl := List.mem_of_getElem? (i := 295) (by decide +kernel)
theorem wd_295 : Jvm.Cond.fieldLink "CallMelt$Worker" (99 : Nat) "CallMelt$Worker" "place" "I" ∈ lw_u := lw_in wt_295 rfl
theorem wt_296 : Jvm.Cond.fieldLink "CallMelt$Worker" (102 : Nat) "CallMelt$Worker" "value" "I" ∈ lw_tbl := List.mem_of_getElem? (i := 296) (by decide +kernel)
theorem wd_296 : Jvm.Cond.fieldLink "CallMelt$Worker" (102 : Nat) "CallMelt$Worker" "value" "I" ∈ lw_u := lw_in wt_296 rfl
theorem wt_297 : Jvm.Cond.fieldLink "CallMelt$Worker" (45 : Nat) "CallMelt$Worker" "fixed" "I" ∈ lw_tbl := List.mem_of_getElem? (i := 297) (by decide +kernel)
theorem wd_297 : Jvm.Cond.fieldLink "CallMelt$Worker" (45 : Nat) "CallMelt$Worker" "fixed" "I" ∈ lw_u := lw_in wt_297 rfl
theorem wt_325 : Jvm.Cond.fieldLink "CallMelt$Past" (13 : Nat) "CallMelt$Past" "slots" "[LCallMelt$Rows;" ∈ lw_tbl := List.mem_of_getElem? (i := 325) (by decide +kernel)
theorem wd_325 : Jvm.Cond.fieldLink "CallMelt$Past" (13 : Nat) "CallMelt$Past" "slots" "[LCallMelt$Rows;" ∈ lw_u := lw_in wt_325 rfl
theorem wt_326 : Jvm.Cond.fieldLink "CallMelt$Past" (21 : Nat) "CallMelt$Past" "first" "I" ∈ lw_tbl := List.mem_of_getElem? (i := 326) (by decide +kernel)
theorem wd_326 : Jvm.Cond.fieldLink "CallMelt$Past" (21 : Nat) "CallMelt$Past" "first" "I" ∈ lw_u := lw_in wt_326 rfl
theorem wt_327 : Jvm.Cond.fieldLink "CallMelt$Past" (17 : Nat) "CallMelt$Past" "size" "I" ∈ lw_tbl := List.mem_of_getElem? (i := 327) (by decide +kernel)
theorem wd_327 : Jvm.Cond.fieldLink "CallMelt$Past" (17 : Nat) "CallMelt$Past" "size" "I" ∈ lw_u := lw_in wt_327 rfl
theorem wt_328 : Jvm.Cond.fieldLinkNest "CallMelt" (222 : Nat) "CallMelt$Past" "size" "I" "CallMelt" ∈ lw_tbl := List.mem_of_getElem? (i := 328) (by decide +kernel)
theorem wd_328 : Jvm.Cond.fieldLinkNest "CallMelt" (222 : Nat) "CallMelt$Past" "size" "I" "CallMelt" ∈ lw_u := lw_inN wt_328 rfl
theorem wt_342 : Jvm.Cond.fieldLink "CallMelt$Choice" (31 : Nat) "CallMelt$Choice" "code" "LCallMelt$Code;" ∈ lw_tbl := List.mem_of_getElem? (i := 342) (by decide +kernel)
theorem wd_342 : Jvm.Cond.fieldLink "CallMelt$Choice" (31 : Nat) "CallMelt$Choice" "code" "LCallMelt$Code;" ∈ lw_u := lw_in wt_342 rfl
theorem wt_343 : Jvm.Cond.fieldLink "CallMelt$Choice" (35 : Nat) "CallMelt$Choice" "melter" "LCallMelt$Melter;" ∈ lw_tbl := List.mem_of_getElem? (i := 343) (by decide +kernel)
theorem wd_343 : Jvm.Cond.fieldLink "CallMelt$Choice" (35 : Nat) "CallMelt$Choice" "melter" "LCallMelt$Melter;" ∈ lw_u := lw_in wt_343 rfl
theorem wt_344 : Jvm.Cond.fieldLink "CallMelt$Choice" (39 : Nat) "CallMelt$Choice" "machine" "LCallMelt$Machine;" ∈ lw_tbl := List.mem_of_getElem? (i := 344) (by decide +kernel)
theorem wd_344 : Jvm.Cond.fieldLink "CallMelt$Choice" (39 : Nat) "CallMelt$Choice" "machine" "LCallMelt$Machine;" ∈ lw_u := lw_in wt_344 rfl
theorem wt_345 : Jvm.Cond.fieldLink "CallMelt$Choice" (9 : Nat) "CallMelt$Choice" "calls" "[I" ∈ lw_tbl := List.mem_of_getElem? (i := 345) (by decide +kernel)
theorem wd_345 : Jvm.Cond.fieldLink "CallMelt$Choice" (9 : Nat) "CallMelt$Choice" "calls" "[I" ∈ lw_u := lw_in wt_345 rfl
theorem wt_346 : Jvm.Cond.fieldLink "CallMelt$Choice" (15 : Nat) "CallMelt$Choice" "gains" "[I" ∈ lw_tbl := List.mem_of_getElem? (i := 346) (by decide +kernel)
theorem wd_346 : Jvm.Cond.fieldLink "CallMelt$Choice" (15 : Nat) "CallMelt$Choice" "gains" "[I" ∈ lw_u := lw_in wt_346 rfl
theorem wt_347 : Jvm.Cond.fieldLink "CallMelt$Choice" (18 : Nat) "CallMelt$Choice" "weights" "[I" ∈ lw_tbl := List.mem_of_getElem? (i := 347) (by decide +kernel)
theorem wd_347 : Jvm.Cond.fieldLink "CallMelt$Choice" (18 : Nat) "CallMelt$Choice" "weights" "[I" ∈ lw_u := lw_in wt_347 rfl
theorem wt_348 : Jvm.Cond.fieldLink "CallMelt$Choice" (21 : Nat) "CallMelt$Choice" "laidCalls" "[I" ∈ lw_tbl := List.mem_of_getElem? (i := 348) (by decide +kernel)
theorem wd_348 : Jvm.Cond.fieldLink "CallMelt$Choice" (21 : Nat) "CallMelt$Choice" "laidCalls" "[I" ∈ lw_u := lw_in wt_348 rfl
theorem wt_349 : Jvm.Cond.fieldLink "CallMelt$Choice" (24 : Nat) "CallMelt$Choice" "picked" "[I" ∈ lw_tbl := List.mem_of_getElem? (i := 349) (by decide +kernel)
theorem wd_349 : Jvm.Cond.fieldLink "CallMelt$Choice" (24 : Nat) "CallMelt$Choice" "picked" "[I" ∈ lw_u := lw_in wt_349 rfl
theorem wt_350 : Jvm.Cond.fieldLink "CallMelt$Choice" (61 : Nat) "CallMelt$Choice" "looked" "I" ∈ lw_tbl := List.mem_of_getElem? (i := 350) (by decide +kernel)
theorem wd_350 : Jvm.Cond.fieldLink "CallMelt$Choice" (61 : Nat) "CallMelt$Choice" "looked" "I" ∈ lw_u := lw_in wt_350 rfl
theorem wt_351 : Jvm.Cond.fieldLink "CallMelt$Choice" (53 : Nat) "CallMelt$Choice" "pickedSize" "I" ∈ lw_tbl := List.mem_of_getElem? (i := 351) (by decide +kernel)
theorem wd_351 : Jvm.Cond.fieldLink "CallMelt$Choice" (53 : Nat) "CallMelt$Choice" "pickedSize" "I" ∈ lw_u := lw_in wt_351 rfl
theorem wt_352 : Jvm.Cond.fieldLink "CallMelt$Choice" (43 : Nat) "CallMelt$Choice" "laidGain" "I" ∈ lw_tbl := List.mem_of_getElem? (i := 352) (by decide +kernel)
theorem wd_352 : Jvm.Cond.fieldLink "CallMelt$Choice" (43 : Nat) "CallMelt$Choice" "laidGain" "I" ∈ lw_u := lw_in wt_352 rfl
theorem wt_353 : Jvm.Cond.fieldLink "CallMelt$Choice" (46 : Nat) "CallMelt$Choice" "laidWeight" "I" ∈ lw_tbl := List.mem_of_getElem? (i := 353) (by decide +kernel)
theorem wd_353 : Jvm.Cond.fieldLink "CallMelt$Choice" (46 : Nat) "CallMelt$Choice" "laidWeight" "I" ∈ lw_u := lw_in wt_353 rfl
theorem wt_354 : Jvm.Cond.fieldLink "CallMelt$Choice" (27 : Nat) "CallMelt$Choice" "laidSize" "I" ∈ lw_tbl := List.mem_of_getElem? (i := 354) (by decide +kernel)
theorem wd_354 : Jvm.Cond.fieldLink "CallMelt$Choice" (27 : Nat) "CallMelt$Choice" "laidSize" "I" ∈ lw_u := lw_in wt_354 rfl
theorem wt_382 : Jvm.Cond.fieldLink "CallMelt" (10 : Nat) "CallMelt" "code" "LCallMelt$Code;" ∈ lw_tbl := List.mem_of_getElem? (i := 382) (by decide +kernel)
theorem wd_382 : Jvm.Cond.fieldLink "CallMelt" (10 : Nat) "CallMelt" "code" "LCallMelt$Code;" ∈ lw_u := lw_in wt_382 rfl
theorem wt_383 : Jvm.Cond.fieldLink "CallMelt" (21 : Nat) "CallMelt" "machine" "LCallMelt$Machine;" ∈ lw_tbl := List.mem_of_getElem? (i := 383) (by decide +kernel)
theorem wd_383 : Jvm.Cond.fieldLink "CallMelt" (21 : Nat) "CallMelt" "machine" "LCallMelt$Machine;" ∈ lw_u := lw_in wt_383 rfl
theorem wt_384 : Jvm.Cond.fieldLink "CallMelt" (28 : Nat) "CallMelt" "melter" "LCallMelt$Melter;" ∈ lw_tbl := List.mem_of_getElem? (i := 384) (by decide +kernel)
theorem wd_384 : Jvm.Cond.fieldLink "CallMelt" (28 : Nat) "CallMelt" "melter" "LCallMelt$Melter;" ∈ lw_u := lw_in wt_384 rfl
theorem wt_385 : Jvm.Cond.fieldLink "CallMelt" (35 : Nat) "CallMelt" "worker" "LCallMelt$Worker;" ∈ lw_tbl := List.mem_of_getElem? (i := 385) (by decide +kernel)
theorem wd_385 : Jvm.Cond.fieldLink "CallMelt" (35 : Nat) "CallMelt" "worker" "LCallMelt$Worker;" ∈ lw_u := lw_in wt_385 rfl
theorem wt_386 : Jvm.Cond.fieldLink "CallMelt" (42 : Nat) "CallMelt" "past" "LCallMelt$Past;" ∈ lw_tbl := List.mem_of_getElem? (i := 386) (by decide +kernel)
theorem wd_386 : Jvm.Cond.fieldLink "CallMelt" (42 : Nat) "CallMelt" "past" "LCallMelt$Past;" ∈ lw_u := lw_in wt_386 rfl
theorem wt_387 : Jvm.Cond.fieldLink "CallMelt" (51 : Nat) "CallMelt" "choice" "LCallMelt$Choice;" ∈ lw_tbl := List.mem_of_getElem? (i := 387) (by decide +kernel)
theorem wd_387 : Jvm.Cond.fieldLink "CallMelt" (51 : Nat) "CallMelt" "choice" "LCallMelt$Choice;" ∈ lw_u := lw_in wt_387 rfl
theorem wt_404 : Jvm.Cond.code ({ cls := "CallMelt", name := "number", desc := "(I)I" } : Jvm.MethodName) prog_1_method_2_code (2 : Nat) (Option.some Jvm.ClassFile.FieldType.int) ∈ lw_tbl := List.mem_of_getElem? (i := 404) (by decide +kernel)
theorem wg_404 : Jvm.Cond.code ({ cls := "CallMelt", name := "number", desc := "(I)I" } : Jvm.MethodName) prog_1_method_2_code (2 : Nat) (Option.some Jvm.ClassFile.FieldType.int) ∈ lw_g := List.mem_filter.mpr ⟨wt_404, rfl⟩
theorem wd_404 : Jvm.Cond.code ({ cls := "CallMelt", name := "number", desc := "(I)I" } : Jvm.MethodName) prog_1_method_2_code (2 : Nat) (Option.some Jvm.ClassFile.FieldType.int) ∈ lw_u := lw_in wt_404 rfl
theorem wt_405 : Jvm.Cond.methodLink "CallMelt" (55 : Nat) ({ cls := "CallMelt", name := "tellStep", desc := "(IIIIII)I" } : Jvm.MethodName) ∈ lw_tbl := List.mem_of_getElem? (i := 405) (by decide +kernel)
theorem wd_405 : Jvm.Cond.methodLink "CallMelt" (55 : Nat) ({ cls := "CallMelt", name := "tellStep", desc := "(IIIIII)I" } : Jvm.MethodName) ∈ lw_u := lw_in wt_405 rfl
theorem wt_407 : Jvm.Cond.instanceMethod ({ cls := "CallMelt", name := "tellStep", desc := "(IIIIII)I" } : Jvm.MethodName) ∈ lw_tbl := List.mem_of_getElem? (i := 407) (by decide +kernel)
theorem wd_407 : Jvm.Cond.instanceMethod ({ cls := "CallMelt", name := "tellStep", desc := "(IIIIII)I" } : Jvm.MethodName) ∈ lw_u := lw_in wt_407 rfl
theorem wt_408 : Jvm.Cond.code ({ cls := "CallMelt", name := "tellStep", desc := "(IIIIII)I" } : Jvm.MethodName) prog_1_method_28_code (12 : Nat) (Option.some Jvm.ClassFile.FieldType.int) ∈ lw_tbl := List.mem_of_getElem? (i := 408) (by decide +kernel)
theorem wg_408 : Jvm.Cond.code ({ cls := "CallMelt", name := "tellStep", desc := "(IIIIII)I" } : Jvm.MethodName) prog_1_method_28_code (12 : Nat) (Option.some Jvm.ClassFile.FieldType.int) ∈ lw_g := List.mem_filter.mpr ⟨wt_408, rfl⟩
theorem wd_408 : Jvm.Cond.code ({ cls := "CallMelt", name := "tellStep", desc := "(IIIIII)I" } : Jvm.MethodName) prog_1_method_28_code (12 : Nat) (Option.some Jvm.ClassFile.FieldType.int) ∈ lw_u := lw_in wt_408 rfl
theorem wt_409 : Jvm.Cond.methodLink "CallMelt" (76 : Nat) ({ cls := "CallMelt$Code", name := "isLoose", desc := "(I)Z" } : Jvm.MethodName) ∈ lw_tbl := List.mem_of_getElem? (i := 409) (by decide +kernel)
theorem wd_409 : Jvm.Cond.methodLink "CallMelt" (76 : Nat) ({ cls := "CallMelt$Code", name := "isLoose", desc := "(I)Z" } : Jvm.MethodName) ∈ lw_u := lw_in wt_409 rfl
theorem wt_410 : Jvm.Cond.instanceMethod ({ cls := "CallMelt$Code", name := "isLoose", desc := "(I)Z" } : Jvm.MethodName) ∈ lw_tbl := List.mem_of_getElem? (i := 410) (by decide +kernel)
theorem wd_410 : Jvm.Cond.instanceMethod ({ cls := "CallMelt$Code", name := "isLoose", desc := "(I)Z" } : Jvm.MethodName) ∈ lw_u := lw_in wt_410 rfl
theorem wt_411 : Jvm.Cond.selects "CallMelt$Code" ({ cls := "CallMelt$Code", name := "isLoose", desc := "(I)Z" } : Jvm.MethodName) ({ cls := "CallMelt$Code", name := "isLoose", desc := "(I)Z" } : Jvm.MethodName) ∈ lw_tbl := List.mem_of_getElem? (i := 411) (by decide +kernel)
theorem wd_411 : Jvm.Cond.selects "CallMelt$Code" ({ cls := "CallMelt$Code", name := "isLoose", desc := "(I)Z" } : Jvm.MethodName) ({ cls := "CallMelt$Code", name := "isLoose", desc := "(I)Z" } : Jvm.MethodName) ∈ lw_u := lw_in wt_411 rfl
theorem wt_412 : Jvm.Cond.code ({ cls := "CallMelt$Code", name := "isLoose", desc := "(I)Z" } : Jvm.MethodName) prog_3_method_4_code (2 : Nat) (Option.some Jvm.ClassFile.FieldType.boolean) ∈ lw_tbl := List.mem_of_getElem? (i := 412) (by decide +kernel)
theorem wg_412 : Jvm.Cond.code ({ cls := "CallMelt$Code", name := "isLoose", desc := "(I)Z" } : Jvm.MethodName) prog_3_method_4_code (2 : Nat) (Option.some Jvm.ClassFile.FieldType.boolean) ∈ lw_g := List.mem_filter.mpr ⟨wt_412, rfl⟩
theorem wd_412 : Jvm.Cond.code ({ cls := "CallMelt$Code", name := "isLoose", desc := "(I)Z" } : Jvm.MethodName) prog_3_method_4_code (2 : Nat) (Option.some Jvm.ClassFile.FieldType.boolean) ∈ lw_u := lw_in wt_412 rfl
theorem wt_413 : Jvm.Cond.methodLink "CallMelt$Code" (32 : Nat) ({ cls := "CallMelt$Rows", name := "isStep", desc := "(I)Z" } : Jvm.MethodName) ∈ lw_tbl := List.mem_of_getElem? (i := 413) (by decide +kernel)
theorem wd_413 : Jvm.Cond.methodLink "CallMelt$Code" (32 : Nat) ({ cls := "CallMelt$Rows", name := "isStep", desc := "(I)Z" } : Jvm.MethodName) ∈ lw_u := lw_in wt_413 rfl
theorem wt_414 : Jvm.Cond.instanceMethod ({ cls := "CallMelt$Rows", name := "isStep", desc := "(I)Z" } : Jvm.MethodName) ∈ lw_tbl := List.mem_of_getElem? (i := 414) (by decide +kernel)
theorem wd_414 : Jvm.Cond.instanceMethod ({ cls := "CallMelt$Rows", name := "isStep", desc := "(I)Z" } : Jvm.MethodName) ∈ lw_u := lw_in wt_414 rfl
theorem wt_415 : Jvm.Cond.selects "CallMelt$Rows" ({ cls := "CallMelt$Rows", name := "isStep", desc := "(I)Z" } : Jvm.MethodName) ({ cls := "CallMelt$Rows", name := "isStep", desc := "(I)Z" } : Jvm.MethodName) ∈ lw_tbl := List.mem_of_getElem? (i := 415) (by decide +kernel)
theorem wd_415 : Jvm.Cond.selects "CallMelt$Rows" ({ cls := "CallMelt$Rows", name := "isStep", desc := "(I)Z" } : Jvm.MethodName) ({ cls := "CallMelt$Rows", name := "isStep", desc := "(I)Z" } : Jvm.MethodName) ∈ lw_u := lw_in wt_415 rfl
theorem wt_416 : Jvm.Cond.code ({ cls := "CallMelt$Rows", name := "isStep", desc := "(I)Z" } : Jvm.MethodName) prog_7_method_3_code (2 : Nat) (Option.some Jvm.ClassFile.FieldType.boolean) ∈ lw_tbl := List.mem_of_getElem? (i := 416) (by decide +kernel)
theorem wg_416 : Jvm.Cond.code ({ cls := "CallMelt$Rows", name := "isStep", desc := "(I)Z" } : Jvm.MethodName) prog_7_method_3_code (2 : Nat) (Option.some Jvm.ClassFile.FieldType.boolean) ∈ lw_g := List.mem_filter.mpr ⟨wt_416, rfl⟩
theorem wd_416 : Jvm.Cond.code ({ cls := "CallMelt$Rows", name := "isStep", desc := "(I)Z" } : Jvm.MethodName) prog_7_method_3_code (2 : Nat) (Option.some Jvm.ClassFile.FieldType.boolean) ∈ lw_u := lw_in wt_416 rfl
theorem wt_417 : Jvm.Cond.methodLink "CallMelt$Code" (40 : Nat) ({ cls := "CallMelt$Code", name := "ownerOf", desc := "(I)I" } : Jvm.MethodName) ∈ lw_tbl := List.mem_of_getElem? (i := 417) (by decide +kernel)
theorem wd_417 : Jvm.Cond.methodLink "CallMelt$Code" (40 : Nat) ({ cls := "CallMelt$Code", name := "ownerOf", desc := "(I)I" } : Jvm.MethodName) ∈ lw_u := lw_in wt_417 rfl
theorem wt_418 : Jvm.Cond.instanceMethod ({ cls := "CallMelt$Code", name := "ownerOf", desc := "(I)I" } : Jvm.MethodName) ∈ lw_tbl := List.mem_of_getElem? (i := 418) (by decide +kernel)
theorem wd_418 : Jvm.Cond.instanceMethod ({ cls := "CallMelt$Code", name := "ownerOf", desc := "(I)I" } : Jvm.MethodName) ∈ lw_u := lw_in wt_418 rfl
theorem wt_419 : Jvm.Cond.selects "CallMelt$Code" ({ cls := "CallMelt$Code", name := "ownerOf", desc := "(I)I" } : Jvm.MethodName) ({ cls := "CallMelt$Code", name := "ownerOf", desc := "(I)I" } : Jvm.MethodName) ∈ lw_tbl := List.mem_of_getElem? (i := 419) (by decide +kernel)
theorem wd_419 : Jvm.Cond.selects "CallMelt$Code" ({ cls := "CallMelt$Code", name := "ownerOf", desc := "(I)I" } : Jvm.MethodName) ({ cls := "CallMelt$Code", name := "ownerOf", desc := "(I)I" } : Jvm.MethodName) ∈ lw_u := lw_in wt_419 rfl
theorem wt_420 : Jvm.Cond.code ({ cls := "CallMelt$Code", name := "ownerOf", desc := "(I)I" } : Jvm.MethodName) prog_3_method_14_code (3 : Nat) (Option.some Jvm.ClassFile.FieldType.int) ∈ lw_tbl := List.mem_of_getElem? (i := 420) (by decide +kernel)
theorem wg_420 : Jvm.Cond.code ({ cls := "CallMelt$Code", name := "ownerOf", desc := "(I)I" } : Jvm.MethodName) prog_3_method_14_code (3 : Nat) (Option.some Jvm.ClassFile.FieldType.int) ∈ lw_g := List.mem_filter.mpr ⟨wt_420, rfl⟩
theorem wd_420 : Jvm.Cond.code ({ cls := "CallMelt$Code", name := "ownerOf", desc := "(I)I" } : Jvm.MethodName) prog_3_method_14_code (3 : Nat) (Option.some Jvm.ClassFile.FieldType.int) ∈ lw_u := lw_in wt_420 rfl
theorem wt_421 : Jvm.Cond.methodLink "CallMelt" (225 : Nat) ({ cls := "CallMelt$Code", name := "highOf", desc := "(I)I" } : Jvm.MethodName) ∈ lw_tbl := List.mem_of_getElem? (i := 421) (by decide +kernel)
theorem wd_421 : Jvm.Cond.methodLink "CallMelt" (225 : Nat) ({ cls := "CallMelt$Code", name := "highOf", desc := "(I)I" } : Jvm.MethodName) ∈ lw_u := lw_in wt_421 rfl
theorem wt_422 : Jvm.Cond.instanceMethod ({ cls := "CallMelt$Code", name := "highOf", desc := "(I)I" } : Jvm.MethodName) ∈ lw_tbl := List.mem_of_getElem? (i := 422) (by decide +kernel)
theorem wd_422 : Jvm.Cond.instanceMethod ({ cls := "CallMelt$Code", name := "highOf", desc := "(I)I" } : Jvm.MethodName) ∈ lw_u := lw_in wt_422 rfl
theorem wt_423 : Jvm.Cond.selects "CallMelt$Code" ({ cls := "CallMelt$Code", name := "highOf", desc := "(I)I" } : Jvm.MethodName) ({ cls := "CallMelt$Code", name := "highOf", desc := "(I)I" } : Jvm.MethodName) ∈ lw_tbl := List.mem_of_getElem? (i := 423) (by decide +kernel)
theorem wd_423 : Jvm.Cond.selects "CallMelt$Code" ({ cls := "CallMelt$Code", name := "highOf", desc := "(I)I" } : Jvm.MethodName) ({ cls := "CallMelt$Code", name := "highOf", desc := "(I)I" } : Jvm.MethodName) ∈ lw_u := lw_in wt_423 rfl
theorem wt_424 : Jvm.Cond.code ({ cls := "CallMelt$Code", name := "highOf", desc := "(I)I" } : Jvm.MethodName) prog_3_method_18_code (4 : Nat) (Option.some Jvm.ClassFile.FieldType.int) ∈ lw_tbl := List.mem_of_getElem? (i := 424) (by decide +kernel)
theorem wg_424 : Jvm.Cond.code ({ cls := "CallMelt$Code", name := "highOf", desc := "(I)I" } : Jvm.MethodName) prog_3_method_18_code (4 : Nat) (Option.some Jvm.ClassFile.FieldType.int) ∈ lw_g := List.mem_filter.mpr ⟨wt_424, rfl⟩
theorem wd_424 : Jvm.Cond.code ({ cls := "CallMelt$Code", name := "highOf", desc := "(I)I" } : Jvm.MethodName) prog_3_method_18_code (4 : Nat) (Option.some Jvm.ClassFile.FieldType.int) ∈ lw_u := lw_in wt_424 rfl
theorem wt_425 : Jvm.Cond.methodLink "CallMelt$Code" (75 : Nat) ({ cls := "CallMelt$Walk", name := "over", desc := "(LCallMelt$Rows;I)V" } : Jvm.MethodName) ∈ lw_tbl := List.mem_of_getElem? (i := 425) (by decide +kernel)
theorem wd_425 : Jvm.Cond.methodLink "CallMelt$Code" (75 : Nat) ({ cls := "CallMelt$Walk", name := "over", desc := "(LCallMelt$Rows;I)V" } : Jvm.MethodName) ∈ lw_u := lw_in wt_425 rfl
theorem wt_426 : Jvm.Cond.instanceMethod ({ cls := "CallMelt$Walk", name := "over", desc := "(LCallMelt$Rows;I)V" } : Jvm.MethodName) ∈ lw_tbl := List.mem_of_getElem? (i := 426) (by decide +kernel)
theorem wd_426 : Jvm.Cond.instanceMethod ({ cls := "CallMelt$Walk", name := "over", desc := "(LCallMelt$Rows;I)V" } : Jvm.MethodName) ∈ lw_u := lw_in wt_426 rfl
theorem wt_427 : Jvm.Cond.selects "CallMelt$Walk" ({ cls := "CallMelt$Walk", name := "over", desc := "(LCallMelt$Rows;I)V" } : Jvm.MethodName) ({ cls := "CallMelt$Walk", name := "over", desc := "(LCallMelt$Rows;I)V" } : Jvm.MethodName) ∈ lw_tbl := List.mem_of_getElem? (i := 427) (by decide +kernel)
theorem wd_427 : Jvm.Cond.selects "CallMelt$Walk" ({ cls := "CallMelt$Walk", name := "over", desc := "(LCallMelt$Rows;I)V" } : Jvm.MethodName) ({ cls := "CallMelt$Walk", name := "over", desc := "(LCallMelt$Rows;I)V" } : Jvm.MethodName) ∈ lw_u := lw_in wt_427 rfl
theorem wt_428 : Jvm.Cond.code ({ cls := "CallMelt$Walk", name := "over", desc := "(LCallMelt$Rows;I)V" } : Jvm.MethodName) prog_8_method_2_code (8 : Nat) (Option.none : Option Jvm.ClassFile.FieldType) ∈ lw_tbl := List.mem_of_getElem? (i := 428) (by decide +kernel)
theorem wg_428 : Jvm.Cond.code ({ cls := "CallMelt$Walk", name := "over", desc := "(LCallMelt$Rows;I)V" } : Jvm.MethodName) prog_8_method_2_code (8 : Nat) (Option.none : Option Jvm.ClassFile.FieldType) ∈ lw_g := List.mem_filter.mpr ⟨wt_428, rfl⟩
theorem wd_428 : Jvm.Cond.code ({ cls := "CallMelt$Walk", name := "over", desc := "(LCallMelt$Rows;I)V" } : Jvm.MethodName) prog_8_method_2_code (8 : Nat) (Option.none : Option Jvm.ClassFile.FieldType) ∈ lw_u := lw_in wt_428 rfl
theorem wt_429 : Jvm.Cond.methodLink "CallMelt$Walk" (28 : Nat) ({ cls := "CallMelt$Rows", name := "isStep", desc := "(I)Z" } : Jvm.MethodName) ∈ lw_tbl := List.mem_of_getElem? (i := 429) (by decide +kernel)
theorem wd_429 : Jvm.Cond.methodLink "CallMelt$Walk" (28 : Nat) ({ cls := "CallMelt$Rows", name := "isStep", desc := "(I)Z" } : Jvm.MethodName) ∈ lw_u := lw_in wt_429 rfl
theorem wt_430 : Jvm.Cond.methodLink "CallMelt$Code" (85 : Nat) ({ cls := "java/lang/Math", name := "max", desc := "(II)I" } : Jvm.MethodName) ∈ lw_tbl := List.mem_of_getElem? (i := 430) (by decide +kernel)
theorem wd_430 : Jvm.Cond.methodLink "CallMelt$Code" (85 : Nat) ({ cls := "java/lang/Math", name := "max", desc := "(II)I" } : Jvm.MethodName) ∈ lw_u := lw_in wt_430 rfl
theorem wt_431 : Jvm.Cond.static ({ cls := "java/lang/Math", name := "max", desc := "(II)I" } : Jvm.MethodName) ∈ lw_tbl := List.mem_of_getElem? (i := 431) (by decide +kernel)
theorem wd_431 : Jvm.Cond.static ({ cls := "java/lang/Math", name := "max", desc := "(II)I" } : Jvm.MethodName) ∈ lw_u := lw_in wt_431 rfl
theorem wt_432 : Jvm.Cond.code ({ cls := "java/lang/Math", name := "max", desc := "(II)I" } : Jvm.MethodName) prog_12_method_65_code (2 : Nat) (Option.some Jvm.ClassFile.FieldType.int) ∈ lw_tbl := List.mem_of_getElem? (i := 432) (by decide +kernel)
theorem wd_432 : Jvm.Cond.code ({ cls := "java/lang/Math", name := "max", desc := "(II)I" } : Jvm.MethodName) prog_12_method_65_code (2 : Nat) (Option.some Jvm.ClassFile.FieldType.int) ∈ lw_u := lw_in wt_432 rfl
theorem wt_433 : Jvm.Cond.methodLink "CallMelt" (228 : Nat) ({ cls := "java/lang/Math", name := "max", desc := "(II)I" } : Jvm.MethodName) ∈ lw_tbl := List.mem_of_getElem? (i := 433) (by decide +kernel)
theorem wd_433 : Jvm.Cond.methodLink "CallMelt" (228 : Nat) ({ cls := "java/lang/Math", name := "max", desc := "(II)I" } : Jvm.MethodName) ∈ lw_u := lw_in wt_433 rfl
theorem wt_434 : Jvm.Cond.methodLink "CallMelt" (233 : Nat) ({ cls := "CallMelt$Code", name := "add", desc := "(II)I" } : Jvm.MethodName) ∈ lw_tbl := List.mem_of_getElem? (i := 434) (by decide +kernel)
theorem wd_434 : Jvm.Cond.methodLink "CallMelt" (233 : Nat) ({ cls := "CallMelt$Code", name := "add", desc := "(II)I" } : Jvm.MethodName) ∈ lw_u := lw_in wt_434 rfl
theorem wt_435 : Jvm.Cond.instanceMethod ({ cls := "CallMelt$Code", name := "add", desc := "(II)I" } : Jvm.MethodName) ∈ lw_tbl := List.mem_of_getElem? (i := 435) (by decide +kernel)
theorem wd_435 : Jvm.Cond.instanceMethod ({ cls := "CallMelt$Code", name := "add", desc := "(II)I" } : Jvm.MethodName) ∈ lw_u := lw_in wt_435 rfl
theorem wt_436 : Jvm.Cond.selects "CallMelt$Code" ({ cls := "CallMelt$Code", name := "add", desc := "(II)I" } : Jvm.MethodName) ({ cls := "CallMelt$Code", name := "add", desc := "(II)I" } : Jvm.MethodName) ∈ lw_tbl := List.mem_of_getElem? (i := 436) (by decide +kernel)
theorem wd_436 : Jvm.Cond.selects "CallMelt$Code" ({ cls := "CallMelt$Code", name := "add", desc := "(II)I" } : Jvm.MethodName) ({ cls := "CallMelt$Code", name := "add", desc := "(II)I" } : Jvm.MethodName) ∈ lw_u := lw_in wt_436 rfl
theorem wt_437 : Jvm.Cond.code ({ cls := "CallMelt$Code", name := "add", desc := "(II)I" } : Jvm.MethodName) prog_3_method_28_code (4 : Nat) (Option.some Jvm.ClassFile.FieldType.int) ∈ lw_tbl := List.mem_of_getElem? (i := 437) (by decide +kernel)
theorem wg_437 : Jvm.Cond.code ({ cls := "CallMelt$Code", name := "add", desc := "(II)I" } : Jvm.MethodName) prog_3_method_28_code (4 : Nat) (Option.some Jvm.ClassFile.FieldType.int) ∈ lw_g := List.mem_filter.mpr ⟨wt_437, rfl⟩
theorem wd_437 : Jvm.Cond.code ({ cls := "CallMelt$Code", name := "add", desc := "(II)I" } : Jvm.MethodName) prog_3_method_28_code (4 : Nat) (Option.some Jvm.ClassFile.FieldType.int) ∈ lw_u := lw_in wt_437 rfl
theorem wt_438 : Jvm.Cond.methodLink "CallMelt$Code" (109 : Nat) ({ cls := "CallMelt$Rows", name := "clear", desc := "(III)V" } : Jvm.MethodName) ∈ lw_tbl := List.mem_of_getElem? (i := 438) (by decide +kernel)
theorem wd_438 : Jvm.Cond.methodLink "CallMelt$Code" (109 : Nat) ({ cls := "CallMelt$Rows", name := "clear", desc := "(III)V" } : Jvm.MethodName) ∈ lw_u := lw_in wt_438 rfl
theorem wt_439 : Jvm.Cond.instanceMethod ({ cls := "CallMelt$Rows", name := "clear", desc := "(III)V" } : Jvm.MethodName) ∈ lw_tbl := List.mem_of_getElem? (i := 439) (by decide +kernel)
theorem wd_439 : Jvm.Cond.instanceMethod ({ cls := "CallMelt$Rows", name := "clear", desc := "(III)V" } : Jvm.MethodName) ∈ lw_u := lw_in wt_439 rfl
theorem wt_440 : Jvm.Cond.selects "CallMelt$Rows" ({ cls := "CallMelt$Rows", name := "clear", desc := "(III)V" } : Jvm.MethodName) ({ cls := "CallMelt$Rows", name := "clear", desc := "(III)V" } : Jvm.MethodName) ∈ lw_tbl := List.mem_of_getElem? (i := 440) (by decide +kernel)
theorem wd_440 : Jvm.Cond.selects "CallMelt$Rows" ({ cls := "CallMelt$Rows", name := "clear", desc := "(III)V" } : Jvm.MethodName) ({ cls := "CallMelt$Rows", name := "clear", desc := "(III)V" } : Jvm.MethodName) ∈ lw_u := lw_in wt_440 rfl
theorem wt_441 : Jvm.Cond.code ({ cls := "CallMelt$Rows", name := "clear", desc := "(III)V" } : Jvm.MethodName) prog_7_method_4_code (5 : Nat) (Option.none : Option Jvm.ClassFile.FieldType) ∈ lw_tbl := List.mem_of_getElem? (i := 441) (by decide +kernel)
theorem wg_441 : Jvm.Cond.code ({ cls := "CallMelt$Rows", name := "clear", desc := "(III)V" } : Jvm.MethodName) prog_7_method_4_code (5 : Nat) (Option.none : Option Jvm.ClassFile.FieldType) ∈ lw_g := List.mem_filter.mpr ⟨wt_441, rfl⟩
theorem wd_441 : Jvm.Cond.code ({ cls := "CallMelt$Rows", name := "clear", desc := "(III)V" } : Jvm.MethodName) prog_7_method_4_code (5 : Nat) (Option.none : Option Jvm.ClassFile.FieldType) ∈ lw_u := lw_in wt_441 rfl
theorem wt_442 : Jvm.Cond.methodLink "CallMelt" (236 : Nat) ({ cls := "CallMelt$Code", name := "append", desc := "(II)V" } : Jvm.MethodName) ∈ lw_tbl := List.mem_of_getElem? (i := 442) (by decide +kernel)
theorem wd_442 : Jvm.Cond.methodLink "CallMelt" (236 : Nat) ({ cls := "CallMelt$Code", name := "append", desc := "(II)V" } : Jvm.MethodName) ∈ lw_u := lw_in wt_442 rfl
theorem wt_443 : Jvm.Cond.instanceMethod ({ cls := "CallMelt$Code", name := "append", desc := "(II)V" } : Jvm.MethodName) ∈ lw_tbl := List.mem_of_getElem? (i := 443) (by decide +kernel)
theorem wd_443 : Jvm.Cond.instanceMethod ({ cls := "CallMelt$Code", name := "append", desc := "(II)V" } : Jvm.MethodName) ∈ lw_u := lw_in wt_443 rfl
theorem wt_444 : Jvm.Cond.selects "CallMelt$Code" ({ cls := "CallMelt$Code", name := "append", desc := "(II)V" } : Jvm.MethodName) ({ cls := "CallMelt$Code", name := "append", desc := "(II)V" } : Jvm.MethodName) ∈ lw_tbl := List.mem_of_getElem? (i := 444) (by decide +kernel)
theorem wd_444 : Jvm.Cond.selects "CallMelt$Code" ({ cls := "CallMelt$Code", name := "append", desc := "(II)V" } : Jvm.MethodName) ({ cls := "CallMelt$Code", name := "append", desc := "(II)V" } : Jvm.MethodName) ∈ lw_u := lw_in wt_444 rfl
theorem wt_445 : Jvm.Cond.code ({ cls := "CallMelt$Code", name := "append", desc := "(II)V" } : Jvm.MethodName) prog_3_method_29_code (4 : Nat) (Option.none : Option Jvm.ClassFile.FieldType) ∈ lw_tbl := List.mem_of_getElem? (i := 445) (by decide +kernel)
theorem wg_445 : Jvm.Cond.code ({ cls := "CallMelt$Code", name := "append", desc := "(II)V" } : Jvm.MethodName) prog_3_method_29_code (4 : Nat) (Option.none : Option Jvm.ClassFile.FieldType) ∈ lw_g := List.mem_filter.mpr ⟨wt_445, rfl⟩
theorem wd_445 : Jvm.Cond.code ({ cls := "CallMelt$Code", name := "append", desc := "(II)V" } : Jvm.MethodName) prog_3_method_29_code (4 : Nat) (Option.none : Option Jvm.ClassFile.FieldType) ∈ lw_u := lw_in wt_445 rfl
theorem wt_446 : Jvm.Cond.methodLink "CallMelt$Code" (71 : Nat) ({ cls := "CallMelt$Code", name := "isStep", desc := "(I)Z" } : Jvm.MethodName) ∈ lw_tbl := List.mem_of_getElem? (i := 446) (by decide +kernel)
theorem wd_446 : Jvm.Cond.methodLink "CallMelt$Code" (71 : Nat) ({ cls := "CallMelt$Code", name := "isStep", desc := "(I)Z" } : Jvm.MethodName) ∈ lw_u := lw_in wt_446 rfl
theorem wt_447 : Jvm.Cond.instanceMethod ({ cls := "CallMelt$Code", name := "isStep", desc := "(I)Z" } : Jvm.MethodName) ∈ lw_tbl := List.mem_of_getElem? (i := 447) (by decide +kernel)
theorem wd_447 : Jvm.Cond.instanceMethod ({ cls := "CallMelt$Code", name := "isStep", desc := "(I)Z" } : Jvm.MethodName) ∈ lw_u := lw_in wt_447 rfl
theorem wt_448 : Jvm.Cond.selects "CallMelt$Code" ({ cls := "CallMelt$Code", name := "isStep", desc := "(I)Z" } : Jvm.MethodName) ({ cls := "CallMelt$Code", name := "isStep", desc := "(I)Z" } : Jvm.MethodName) ∈ lw_tbl := List.mem_of_getElem? (i := 448) (by decide +kernel)
theorem wd_448 : Jvm.Cond.selects "CallMelt$Code" ({ cls := "CallMelt$Code", name := "isStep", desc := "(I)Z" } : Jvm.MethodName) ({ cls := "CallMelt$Code", name := "isStep", desc := "(I)Z" } : Jvm.MethodName) ∈ lw_u := lw_in wt_448 rfl
theorem wt_449 : Jvm.Cond.code ({ cls := "CallMelt$Code", name := "isStep", desc := "(I)Z" } : Jvm.MethodName) prog_3_method_3_code (2 : Nat) (Option.some Jvm.ClassFile.FieldType.boolean) ∈ lw_tbl := List.mem_of_getElem? (i := 449) (by decide +kernel)
theorem wg_449 : Jvm.Cond.code ({ cls := "CallMelt$Code", name := "isStep", desc := "(I)Z" } : Jvm.MethodName) prog_3_method_3_code (2 : Nat) (Option.some Jvm.ClassFile.FieldType.boolean) ∈ lw_g := List.mem_filter.mpr ⟨wt_449, rfl⟩
theorem wd_449 : Jvm.Cond.code ({ cls := "CallMelt$Code", name := "isStep", desc := "(I)Z" } : Jvm.MethodName) prog_3_method_3_code (2 : Nat) (Option.some Jvm.ClassFile.FieldType.boolean) ∈ lw_u := lw_in wt_449 rfl
theorem wt_450 : Jvm.Cond.methodLink "CallMelt$Code" (113 : Nat) ({ cls := "CallMelt$Code", name := "partOf", desc := "(II)I" } : Jvm.MethodName) ∈ lw_tbl := List.mem_of_getElem? (i := 450) (by decide +kernel)
theorem wd_450 : Jvm.Cond.methodLink "CallMelt$Code" (113 : Nat) ({ cls := "CallMelt$Code", name := "partOf", desc := "(II)I" } : Jvm.MethodName) ∈ lw_u := lw_in wt_450 rfl
theorem wt_451 : Jvm.Cond.instanceMethod ({ cls := "CallMelt$Code", name := "partOf", desc := "(II)I" } : Jvm.MethodName) ∈ lw_tbl := List.mem_of_getElem? (i := 451) (by decide +kernel)
theorem wd_451 : Jvm.Cond.instanceMethod ({ cls := "CallMelt$Code", name := "partOf", desc := "(II)I" } : Jvm.MethodName) ∈ lw_u := lw_in wt_451 rfl
theorem wt_452 : Jvm.Cond.selects "CallMelt$Code" ({ cls := "CallMelt$Code", name := "partOf", desc := "(II)I" } : Jvm.MethodName) ({ cls := "CallMelt$Code", name := "partOf", desc := "(II)I" } : Jvm.MethodName) ∈ lw_tbl := List.mem_of_getElem? (i := 452) (by decide +kernel)
theorem wd_452 : Jvm.Cond.selects "CallMelt$Code" ({ cls := "CallMelt$Code", name := "partOf", desc := "(II)I" } : Jvm.MethodName) ({ cls := "CallMelt$Code", name := "partOf", desc := "(II)I" } : Jvm.MethodName) ∈ lw_u := lw_in wt_452 rfl
theorem wt_453 : Jvm.Cond.code ({ cls := "CallMelt$Code", name := "partOf", desc := "(II)I" } : Jvm.MethodName) prog_3_method_10_code (3 : Nat) (Option.some Jvm.ClassFile.FieldType.int) ∈ lw_tbl := List.mem_of_getElem? (i := 453) (by decide +kernel)
theorem wg_453 : Jvm.Cond.code ({ cls := "CallMelt$Code", name := "partOf", desc := "(II)I" } : Jvm.MethodName) prog_3_method_10_code (3 : Nat) (Option.some Jvm.ClassFile.FieldType.int) ∈ lw_g := List.mem_filter.mpr ⟨wt_453, rfl⟩
theorem wd_453 : Jvm.Cond.code ({ cls := "CallMelt$Code", name := "partOf", desc := "(II)I" } : Jvm.MethodName) prog_3_method_10_code (3 : Nat) (Option.some Jvm.ClassFile.FieldType.int) ∈ lw_u := lw_in wt_453 rfl
theorem wt_454 : Jvm.Cond.methodLink "CallMelt" (73 : Nat) ({ cls := "CallMelt$Past", name := "forgetAll", desc := "()V" } : Jvm.MethodName) ∈ lw_tbl := List.mem_of_getElem? (i := 454) (by decide +kernel)
theorem wd_454 : Jvm.Cond.methodLink "CallMelt" (73 : Nat) ({ cls := "CallMelt$Past", name := "forgetAll", desc := "()V" } : Jvm.MethodName) ∈ lw_u := lw_in wt_454 rfl
theorem wt_455 : Jvm.Cond.instanceMethod ({ cls := "CallMelt$Past", name := "forgetAll", desc := "()V" } : Jvm.MethodName) ∈ lw_tbl := List.mem_of_getElem? (i := 455) (by decide +kernel)
theorem wd_455 : Jvm.Cond.instanceMethod ({ cls := "CallMelt$Past", name := "forgetAll", desc := "()V" } : Jvm.MethodName) ∈ lw_u := lw_in wt_455 rfl
theorem wt_456 : Jvm.Cond.selects "CallMelt$Past" ({ cls := "CallMelt$Past", name := "forgetAll", desc := "()V" } : Jvm.MethodName) ({ cls := "CallMelt$Past", name := "forgetAll", desc := "()V" } : Jvm.MethodName) ∈ lw_tbl := List.mem_of_getElem? (i := 456) (by decide +kernel)
theorem wd_456 : Jvm.Cond.selects "CallMelt$Past" ({ cls := "CallMelt$Past", name := "forgetAll", desc := "()V" } : Jvm.MethodName) ({ cls := "CallMelt$Past", name := "forgetAll", desc := "()V" } : Jvm.MethodName) ∈ lw_u := lw_in wt_456 rfl
theorem wt_457 : Jvm.Cond.code ({ cls := "CallMelt$Past", name := "forgetAll", desc := "()V" } : Jvm.MethodName) prog_6_method_2_code (1 : Nat) (Option.none : Option Jvm.ClassFile.FieldType) ∈ lw_tbl := List.mem_of_getElem? (i := 457) (by decide +kernel)
theorem wg_457 : Jvm.Cond.code ({ cls := "CallMelt$Past", name := "forgetAll", desc := "()V" } : Jvm.MethodName) prog_6_method_2_code (1 : Nat) (Option.none : Option Jvm.ClassFile.FieldType) ∈ lw_g := List.mem_filter.mpr ⟨wt_457, rfl⟩
theorem wd_457 : Jvm.Cond.code ({ cls := "CallMelt$Past", name := "forgetAll", desc := "()V" } : Jvm.MethodName) prog_6_method_2_code (1 : Nat) (Option.none : Option Jvm.ClassFile.FieldType) ∈ lw_u := lw_in wt_457 rfl
theorem wt_461 : Jvm.Cond.code ({ cls := "CallMelt", name := "name", desc := "(I)I" } : Jvm.MethodName) prog_1_method_3_code (2 : Nat) (Option.some Jvm.ClassFile.FieldType.int) ∈ lw_tbl := List.mem_of_getElem? (i := 461) (by decide +kernel)
theorem wg_461 : Jvm.Cond.code ({ cls := "CallMelt", name := "name", desc := "(I)I" } : Jvm.MethodName) prog_1_method_3_code (2 : Nat) (Option.some Jvm.ClassFile.FieldType.int) ∈ lw_g := List.mem_filter.mpr ⟨wt_461, rfl⟩
theorem wd_461 : Jvm.Cond.code ({ cls := "CallMelt", name := "name", desc := "(I)I" } : Jvm.MethodName) prog_1_method_3_code (2 : Nat) (Option.some Jvm.ClassFile.FieldType.int) ∈ lw_u := lw_in wt_461 rfl
theorem wt_462 : Jvm.Cond.methodLink "CallMelt" (59 : Nat) ({ cls := "CallMelt", name := "isName", desc := "(I)Z" } : Jvm.MethodName) ∈ lw_tbl := List.mem_of_getElem? (i := 462) (by decide +kernel)
theorem wd_462 : Jvm.Cond.methodLink "CallMelt" (59 : Nat) ({ cls := "CallMelt", name := "isName", desc := "(I)Z" } : Jvm.MethodName) ∈ lw_u := lw_in wt_462 rfl
theorem wt_463 : Jvm.Cond.static ({ cls := "CallMelt", name := "isName", desc := "(I)Z" } : Jvm.MethodName) ∈ lw_tbl := List.mem_of_getElem? (i := 463) (by decide +kernel)
theorem wd_463 : Jvm.Cond.static ({ cls := "CallMelt", name := "isName", desc := "(I)Z" } : Jvm.MethodName) ∈ lw_u := lw_in wt_463 rfl
theorem wt_464 : Jvm.Cond.code ({ cls := "CallMelt", name := "isName", desc := "(I)Z" } : Jvm.MethodName) prog_1_method_30_code (1 : Nat) (Option.some Jvm.ClassFile.FieldType.boolean) ∈ lw_tbl := List.mem_of_getElem? (i := 464) (by decide +kernel)
theorem wg_464 : Jvm.Cond.code ({ cls := "CallMelt", name := "isName", desc := "(I)Z" } : Jvm.MethodName) prog_1_method_30_code (1 : Nat) (Option.some Jvm.ClassFile.FieldType.boolean) ∈ lw_g := List.mem_filter.mpr ⟨wt_464, rfl⟩
theorem wd_464 : Jvm.Cond.code ({ cls := "CallMelt", name := "isName", desc := "(I)Z" } : Jvm.MethodName) prog_1_method_30_code (1 : Nat) (Option.some Jvm.ClassFile.FieldType.boolean) ∈ lw_u := lw_in wt_464 rfl
theorem wt_468 : Jvm.Cond.code ({ cls := "CallMelt", name := "act", desc := "(III)I" } : Jvm.MethodName) prog_1_method_4_code (4 : Nat) (Option.some Jvm.ClassFile.FieldType.int) ∈ lw_tbl := List.mem_of_getElem? (i := 468) (by decide +kernel)
theorem wg_468 : Jvm.Cond.code ({ cls := "CallMelt", name := "act", desc := "(III)I" } : Jvm.MethodName) prog_1_method_4_code (4 : Nat) (Option.some Jvm.ClassFile.FieldType.int) ∈ lw_g := List.mem_filter.mpr ⟨wt_468, rfl⟩
theorem wd_468 : Jvm.Cond.code ({ cls := "CallMelt", name := "act", desc := "(III)I" } : Jvm.MethodName) prog_1_method_4_code (4 : Nat) (Option.some Jvm.ClassFile.FieldType.int) ∈ lw_u := lw_in wt_468 rfl
theorem wt_472 : Jvm.Cond.code ({ cls := "CallMelt", name := "join", desc := "(IIII)I" } : Jvm.MethodName) prog_1_method_5_code (5 : Nat) (Option.some Jvm.ClassFile.FieldType.int) ∈ lw_tbl := List.mem_of_getElem? (i := 472) (by decide +kernel)
theorem wg_472 : Jvm.Cond.code ({ cls := "CallMelt", name := "join", desc := "(IIII)I" } : Jvm.MethodName) prog_1_method_5_code (5 : Nat) (Option.some Jvm.ClassFile.FieldType.int) ∈ lw_g := List.mem_filter.mpr ⟨wt_472, rfl⟩
theorem wd_472 : Jvm.Cond.code ({ cls := "CallMelt", name := "join", desc := "(IIII)I" } : Jvm.MethodName) prog_1_method_5_code (5 : Nat) (Option.some Jvm.ClassFile.FieldType.int) ∈ lw_u := lw_in wt_472 rfl
theorem wt_476 : Jvm.Cond.code ({ cls := "CallMelt", name := "set", desc := "(II)I" } : Jvm.MethodName) prog_1_method_6_code (3 : Nat) (Option.some Jvm.ClassFile.FieldType.int) ∈ lw_tbl := List.mem_of_getElem? (i := 476) (by decide +kernel)
theorem wg_476 : Jvm.Cond.code ({ cls := "CallMelt", name := "set", desc := "(II)I" } : Jvm.MethodName) prog_1_method_6_code (3 : Nat) (Option.some Jvm.ClassFile.FieldType.int) ∈ lw_g := List.mem_filter.mpr ⟨wt_476, rfl⟩
theorem wd_476 : Jvm.Cond.code ({ cls := "CallMelt", name := "set", desc := "(II)I" } : Jvm.MethodName) prog_1_method_6_code (3 : Nat) (Option.some Jvm.ClassFile.FieldType.int) ∈ lw_u := lw_in wt_476 rfl
theorem wt_480 : Jvm.Cond.code ({ cls := "CallMelt", name := "call", desc := "(IIII)I" } : Jvm.MethodName) prog_1_method_7_code (5 : Nat) (Option.some Jvm.ClassFile.FieldType.int) ∈ lw_tbl := List.mem_of_getElem? (i := 480) (by decide +kernel)
theorem wg_480 : Jvm.Cond.code ({ cls := "CallMelt", name := "call", desc := "(IIII)I" } : Jvm.MethodName) prog_1_method_7_code (5 : Nat) (Option.some Jvm.ClassFile.FieldType.int) ∈ lw_g := List.mem_filter.mpr ⟨wt_480, rfl⟩
theorem wd_480 : Jvm.Cond.code ({ cls := "CallMelt", name := "call", desc := "(IIII)I" } : Jvm.MethodName) prog_1_method_7_code (5 : Nat) (Option.some Jvm.ClassFile.FieldType.int) ∈ lw_u := lw_in wt_480 rfl
theorem wt_481 : Jvm.Cond.methodLink "CallMelt" (63 : Nat) ({ cls := "CallMelt$Code", name := "isRoutine", desc := "(I)Z" } : Jvm.MethodName) ∈ lw_tbl := List.mem_of_getElem? (i := 481) (by decide +kernel)
theorem wd_481 : Jvm.Cond.methodLink "CallMelt" (63 : Nat) ({ cls := "CallMelt$Code", name := "isRoutine", desc := "(I)Z" } : Jvm.MethodName) ∈ lw_u := lw_in wt_481 rfl
theorem wt_482 : Jvm.Cond.instanceMethod ({ cls := "CallMelt$Code", name := "isRoutine", desc := "(I)Z" } : Jvm.MethodName) ∈ lw_tbl := List.mem_of_getElem? (i := 482) (by decide +kernel)
theorem wd_482 : Jvm.Cond.instanceMethod ({ cls := "CallMelt$Code", name := "isRoutine", desc := "(I)Z" } : Jvm.MethodName) ∈ lw_u := lw_in wt_482 rfl
theorem wt_483 : Jvm.Cond.selects "CallMelt$Code" ({ cls := "CallMelt$Code", name := "isRoutine", desc := "(I)Z" } : Jvm.MethodName) ({ cls := "CallMelt$Code", name := "isRoutine", desc := "(I)Z" } : Jvm.MethodName) ∈ lw_tbl := List.mem_of_getElem? (i := 483) (by decide +kernel)
theorem wd_483 : Jvm.Cond.selects "CallMelt$Code" ({ cls := "CallMelt$Code", name := "isRoutine", desc := "(I)Z" } : Jvm.MethodName) ({ cls := "CallMelt$Code", name := "isRoutine", desc := "(I)Z" } : Jvm.MethodName) ∈ lw_u := lw_in wt_483 rfl
theorem wt_484 : Jvm.Cond.code ({ cls := "CallMelt$Code", name := "isRoutine", desc := "(I)Z" } : Jvm.MethodName) prog_3_method_5_code (2 : Nat) (Option.some Jvm.ClassFile.FieldType.boolean) ∈ lw_tbl := List.mem_of_getElem? (i := 484) (by decide +kernel)
theorem wg_484 : Jvm.Cond.code ({ cls := "CallMelt$Code", name := "isRoutine", desc := "(I)Z" } : Jvm.MethodName) prog_3_method_5_code (2 : Nat) (Option.some Jvm.ClassFile.FieldType.boolean) ∈ lw_g := List.mem_filter.mpr ⟨wt_484, rfl⟩
theorem wd_484 : Jvm.Cond.code ({ cls := "CallMelt$Code", name := "isRoutine", desc := "(I)Z" } : Jvm.MethodName) prog_3_method_5_code (2 : Nat) (Option.some Jvm.ClassFile.FieldType.boolean) ∈ lw_u := lw_in wt_484 rfl
theorem wt_485 : Jvm.Cond.methodLink "CallMelt" (66 : Nat) ({ cls := "CallMelt$Code", name := "paramsOf", desc := "(I)I" } : Jvm.MethodName) ∈ lw_tbl := List.mem_of_getElem? (i := 485) (by decide +kernel)
theorem wd_485 : Jvm.Cond.methodLink "CallMelt" (66 : Nat) ({ cls := "CallMelt$Code", name := "paramsOf", desc := "(I)I" } : Jvm.MethodName) ∈ lw_u := lw_in wt_485 rfl
theorem wt_486 : Jvm.Cond.instanceMethod ({ cls := "CallMelt$Code", name := "paramsOf", desc := "(I)I" } : Jvm.MethodName) ∈ lw_tbl := List.mem_of_getElem? (i := 486) (by decide +kernel)
theorem wd_486 : Jvm.Cond.instanceMethod ({ cls := "CallMelt$Code", name := "paramsOf", desc := "(I)I" } : Jvm.MethodName) ∈ lw_u := lw_in wt_486 rfl
theorem wt_487 : Jvm.Cond.selects "CallMelt$Code" ({ cls := "CallMelt$Code", name := "paramsOf", desc := "(I)I" } : Jvm.MethodName) ({ cls := "CallMelt$Code", name := "paramsOf", desc := "(I)I" } : Jvm.MethodName) ∈ lw_tbl := List.mem_of_getElem? (i := 487) (by decide +kernel)
theorem wd_487 : Jvm.Cond.selects "CallMelt$Code" ({ cls := "CallMelt$Code", name := "paramsOf", desc := "(I)I" } : Jvm.MethodName) ({ cls := "CallMelt$Code", name := "paramsOf", desc := "(I)I" } : Jvm.MethodName) ∈ lw_u := lw_in wt_487 rfl
theorem wt_488 : Jvm.Cond.code ({ cls := "CallMelt$Code", name := "paramsOf", desc := "(I)I" } : Jvm.MethodName) prog_3_method_12_code (2 : Nat) (Option.some Jvm.ClassFile.FieldType.int) ∈ lw_tbl := List.mem_of_getElem? (i := 488) (by decide +kernel)
theorem wg_488 : Jvm.Cond.code ({ cls := "CallMelt$Code", name := "paramsOf", desc := "(I)I" } : Jvm.MethodName) prog_3_method_12_code (2 : Nat) (Option.some Jvm.ClassFile.FieldType.int) ∈ lw_g := List.mem_filter.mpr ⟨wt_488, rfl⟩
theorem wd_488 : Jvm.Cond.code ({ cls := "CallMelt$Code", name := "paramsOf", desc := "(I)I" } : Jvm.MethodName) prog_3_method_12_code (2 : Nat) (Option.some Jvm.ClassFile.FieldType.int) ∈ lw_u := lw_in wt_488 rfl
theorem wt_492 : Jvm.Cond.code ({ cls := "CallMelt", name := "routine", desc := "(I)I" } : Jvm.MethodName) prog_1_method_8_code (3 : Nat) (Option.some Jvm.ClassFile.FieldType.int) ∈ lw_tbl := List.mem_of_getElem? (i := 492) (by decide +kernel)
theorem wg_492 : Jvm.Cond.code ({ cls := "CallMelt", name := "routine", desc := "(I)I" } : Jvm.MethodName) prog_1_method_8_code (3 : Nat) (Option.some Jvm.ClassFile.FieldType.int) ∈ lw_g := List.mem_filter.mpr ⟨wt_492, rfl⟩
theorem wd_492 : Jvm.Cond.code ({ cls := "CallMelt", name := "routine", desc := "(I)I" } : Jvm.MethodName) prog_1_method_8_code (3 : Nat) (Option.some Jvm.ClassFile.FieldType.int) ∈ lw_u := lw_in wt_492 rfl
theorem wt_493 : Jvm.Cond.methodLink "CallMelt" (70 : Nat) ({ cls := "CallMelt$Code", name := "addRoutine", desc := "(I)I" } : Jvm.MethodName) ∈ lw_tbl := List.mem_of_getElem? (i := 493) (by decide +kernel)
theorem wd_493 : Jvm.Cond.methodLink "CallMelt" (70 : Nat) ({ cls := "CallMelt$Code", name := "addRoutine", desc := "(I)I" } : Jvm.MethodName) ∈ lw_u := lw_in wt_493 rfl
theorem wt_494 : Jvm.Cond.instanceMethod ({ cls := "CallMelt$Code", name := "addRoutine", desc := "(I)I" } : Jvm.MethodName) ∈ lw_tbl := List.mem_of_getElem? (i := 494) (by decide +kernel)
theorem wd_494 : Jvm.Cond.instanceMethod ({ cls := "CallMelt$Code", name := "addRoutine", desc := "(I)I" } : Jvm.MethodName) ∈ lw_u := lw_in wt_494 rfl
theorem wt_495 : Jvm.Cond.selects "CallMelt$Code" ({ cls := "CallMelt$Code", name := "addRoutine", desc := "(I)I" } : Jvm.MethodName) ({ cls := "CallMelt$Code", name := "addRoutine", desc := "(I)I" } : Jvm.MethodName) ∈ lw_tbl := List.mem_of_getElem? (i := 495) (by decide +kernel)
theorem wd_495 : Jvm.Cond.selects "CallMelt$Code" ({ cls := "CallMelt$Code", name := "addRoutine", desc := "(I)I" } : Jvm.MethodName) ({ cls := "CallMelt$Code", name := "addRoutine", desc := "(I)I" } : Jvm.MethodName) ∈ lw_u := lw_in wt_495 rfl
theorem wt_496 : Jvm.Cond.code ({ cls := "CallMelt$Code", name := "addRoutine", desc := "(I)I" } : Jvm.MethodName) prog_3_method_26_code (3 : Nat) (Option.some Jvm.ClassFile.FieldType.int) ∈ lw_tbl := List.mem_of_getElem? (i := 496) (by decide +kernel)
theorem wg_496 : Jvm.Cond.code ({ cls := "CallMelt$Code", name := "addRoutine", desc := "(I)I" } : Jvm.MethodName) prog_3_method_26_code (3 : Nat) (Option.some Jvm.ClassFile.FieldType.int) ∈ lw_g := List.mem_filter.mpr ⟨wt_496, rfl⟩
theorem wd_496 : Jvm.Cond.code ({ cls := "CallMelt$Code", name := "addRoutine", desc := "(I)I" } : Jvm.MethodName) prog_3_method_26_code (3 : Nat) (Option.some Jvm.ClassFile.FieldType.int) ∈ lw_u := lw_in wt_496 rfl
theorem wt_500 : Jvm.Cond.code ({ cls := "CallMelt", name := "body", desc := "(II)I" } : Jvm.MethodName) prog_1_method_9_code (3 : Nat) (Option.some Jvm.ClassFile.FieldType.int) ∈ lw_tbl := List.mem_of_getElem? (i := 500) (by decide +kernel)
theorem wg_500 : Jvm.Cond.code ({ cls := "CallMelt", name := "body", desc := "(II)I" } : Jvm.MethodName) prog_1_method_9_code (3 : Nat) (Option.some Jvm.ClassFile.FieldType.int) ∈ lw_g := List.mem_filter.mpr ⟨wt_500, rfl⟩
theorem wd_500 : Jvm.Cond.code ({ cls := "CallMelt", name := "body", desc := "(II)I" } : Jvm.MethodName) prog_1_method_9_code (3 : Nat) (Option.some Jvm.ClassFile.FieldType.int) ∈ lw_u := lw_in wt_500 rfl
theorem wt_501 : Jvm.Cond.methodLink "CallMelt" (83 : Nat) ({ cls := "CallMelt$Past", name := "hold", desc := "(LCallMelt$Rows;)V" } : Jvm.MethodName) ∈ lw_tbl := List.mem_of_getElem? (i := 501) (by decide +kernel)
theorem wd_501 : Jvm.Cond.methodLink "CallMelt" (83 : Nat) ({ cls := "CallMelt$Past", name := "hold", desc := "(LCallMelt$Rows;)V" } : Jvm.MethodName) ∈ lw_u := lw_in wt_501 rfl
theorem wt_502 : Jvm.Cond.instanceMethod ({ cls := "CallMelt$Past", name := "hold", desc := "(LCallMelt$Rows;)V" } : Jvm.MethodName) ∈ lw_tbl := List.mem_of_getElem? (i := 502) (by decide +kernel)
theorem wd_502 : Jvm.Cond.instanceMethod ({ cls := "CallMelt$Past", name := "hold", desc := "(LCallMelt$Rows;)V" } : Jvm.MethodName) ∈ lw_u := lw_in wt_502 rfl
theorem wt_503 : Jvm.Cond.selects "CallMelt$Past" ({ cls := "CallMelt$Past", name := "hold", desc := "(LCallMelt$Rows;)V" } : Jvm.MethodName) ({ cls := "CallMelt$Past", name := "hold", desc := "(LCallMelt$Rows;)V" } : Jvm.MethodName) ∈ lw_tbl := List.mem_of_getElem? (i := 503) (by decide +kernel)
theorem wd_503 : Jvm.Cond.selects "CallMelt$Past" ({ cls := "CallMelt$Past", name := "hold", desc := "(LCallMelt$Rows;)V" } : Jvm.MethodName) ({ cls := "CallMelt$Past", name := "hold", desc := "(LCallMelt$Rows;)V" } : Jvm.MethodName) ∈ lw_u := lw_in wt_503 rfl
theorem wt_504 : Jvm.Cond.code ({ cls := "CallMelt$Past", name := "hold", desc := "(LCallMelt$Rows;)V" } : Jvm.MethodName) prog_6_method_3_code (3 : Nat) (Option.none : Option Jvm.ClassFile.FieldType) ∈ lw_tbl := List.mem_of_getElem? (i := 504) (by decide +kernel)
theorem wg_504 : Jvm.Cond.code ({ cls := "CallMelt$Past", name := "hold", desc := "(LCallMelt$Rows;)V" } : Jvm.MethodName) prog_6_method_3_code (3 : Nat) (Option.none : Option Jvm.ClassFile.FieldType) ∈ lw_g := List.mem_filter.mpr ⟨wt_504, rfl⟩
theorem wd_504 : Jvm.Cond.code ({ cls := "CallMelt$Past", name := "hold", desc := "(LCallMelt$Rows;)V" } : Jvm.MethodName) prog_6_method_3_code (3 : Nat) (Option.none : Option Jvm.ClassFile.FieldType) ∈ lw_u := lw_in wt_504 rfl
theorem wt_506 : Jvm.Cond.methodLink "CallMelt$Past" (25 : Nat) ({ cls := "CallMelt$Rows", name := "copyFrom", desc := "(LCallMelt$Rows;)V" } : Jvm.MethodName) ∈ lw_tbl := List.mem_of_getElem? (i := 506) (by decide +kernel)
theorem wd_506 : Jvm.Cond.methodLink "CallMelt$Past" (25 : Nat) ({ cls := "CallMelt$Rows", name := "copyFrom", desc := "(LCallMelt$Rows;)V" } : Jvm.MethodName) ∈ lw_u := lw_in wt_506 rfl
theorem wt_507 : Jvm.Cond.instanceMethod ({ cls := "CallMelt$Rows", name := "copyFrom", desc := "(LCallMelt$Rows;)V" } : Jvm.MethodName) ∈ lw_tbl := List.mem_of_getElem? (i := 507) (by decide +kernel)
theorem wd_507 : Jvm.Cond.instanceMethod ({ cls := "CallMelt$Rows", name := "copyFrom", desc := "(LCallMelt$Rows;)V" } : Jvm.MethodName) ∈ lw_u := lw_in wt_507 rfl
theorem wt_508 : Jvm.Cond.selects "CallMelt$Rows" ({ cls := "CallMelt$Rows", name := "copyFrom", desc := "(LCallMelt$Rows;)V" } : Jvm.MethodName) ({ cls := "CallMelt$Rows", name := "copyFrom", desc := "(LCallMelt$Rows;)V" } : Jvm.MethodName) ∈ lw_tbl := List.mem_of_getElem? (i := 508) (by decide +kernel)
theorem wd_508 : Jvm.Cond.selects "CallMelt$Rows" ({ cls := "CallMelt$Rows", name := "copyFrom", desc := "(LCallMelt$Rows;)V" } : Jvm.MethodName) ({ cls := "CallMelt$Rows", name := "copyFrom", desc := "(LCallMelt$Rows;)V" } : Jvm.MethodName) ∈ lw_u := lw_in wt_508 rfl
theorem wt_509 : Jvm.Cond.code ({ cls := "CallMelt$Rows", name := "copyFrom", desc := "(LCallMelt$Rows;)V" } : Jvm.MethodName) prog_7_method_2_code (2 : Nat) (Option.none : Option Jvm.ClassFile.FieldType) ∈ lw_tbl := List.mem_of_getElem? (i := 509) (by decide +kernel)
theorem wg_509 : Jvm.Cond.code ({ cls := "CallMelt$Rows", name := "copyFrom", desc := "(LCallMelt$Rows;)V" } : Jvm.MethodName) prog_7_method_2_code (2 : Nat) (Option.none : Option Jvm.ClassFile.FieldType) ∈ lw_g := List.mem_filter.mpr ⟨wt_509, rfl⟩
theorem wd_509 : Jvm.Cond.code ({ cls := "CallMelt$Rows", name := "copyFrom", desc := "(LCallMelt$Rows;)V" } : Jvm.MethodName) prog_7_method_2_code (2 : Nat) (Option.none : Option Jvm.ClassFile.FieldType) ∈ lw_u := lw_in wt_509 rfl
theorem wt_510 : Jvm.Cond.methodLink "CallMelt$Rows" (34 : Nat) ({ cls := "java/lang/System", name := "arraycopy", desc := "(Ljava/lang/Object;ILjava/lang/Object;II)V" } : Jvm.MethodName) ∈ lw_tbl := List.mem_of_getElem? (i := 510) (by decide +kernel)
theorem wd_510 : Jvm.Cond.methodLink "CallMelt$Rows" (34 : Nat) ({ cls := "java/lang/System", name := "arraycopy", desc := "(Ljava/lang/Object;ILjava/lang/Object;II)V" } : Jvm.MethodName) ∈ lw_u := lw_in wt_510 rfl
theorem wt_511 : Jvm.Cond.static ({ cls := "java/lang/System", name := "arraycopy", desc := "(Ljava/lang/Object;ILjava/lang/Object;II)V" } : Jvm.MethodName) ∈ lw_tbl := List.mem_of_getElem? (i := 511) (by decide +kernel)
theorem wd_511 : Jvm.Cond.static ({ cls := "java/lang/System", name := "arraycopy", desc := "(Ljava/lang/Object;ILjava/lang/Object;II)V" } : Jvm.MethodName) ∈ lw_u := lw_in wt_511 rfl
theorem wt_512 : Jvm.Cond.native ({ cls := "java/lang/System", name := "arraycopy", desc := "(Ljava/lang/Object;ILjava/lang/Object;II)V" } : Jvm.MethodName) ∈ lw_tbl := List.mem_of_getElem? (i := 512) (by decide +kernel)
theorem wd_512 : Jvm.Cond.native ({ cls := "java/lang/System", name := "arraycopy", desc := "(Ljava/lang/Object;ILjava/lang/Object;II)V" } : Jvm.MethodName) ∈ lw_u := lw_in wt_512 rfl
theorem wt_513 : Jvm.Cond.methodLink "CallMelt" (87 : Nat) ({ cls := "CallMelt$Past", name := "keepHeld", desc := "()V" } : Jvm.MethodName) ∈ lw_tbl := List.mem_of_getElem? (i := 513) (by decide +kernel)
theorem wd_513 : Jvm.Cond.methodLink "CallMelt" (87 : Nat) ({ cls := "CallMelt$Past", name := "keepHeld", desc := "()V" } : Jvm.MethodName) ∈ lw_u := lw_in wt_513 rfl
theorem wt_514 : Jvm.Cond.instanceMethod ({ cls := "CallMelt$Past", name := "keepHeld", desc := "()V" } : Jvm.MethodName) ∈ lw_tbl := List.mem_of_getElem? (i := 514) (by decide +kernel)
theorem wd_514 : Jvm.Cond.instanceMethod ({ cls := "CallMelt$Past", name := "keepHeld", desc := "()V" } : Jvm.MethodName) ∈ lw_u := lw_in wt_514 rfl
theorem wt_515 : Jvm.Cond.selects "CallMelt$Past" ({ cls := "CallMelt$Past", name := "keepHeld", desc := "()V" } : Jvm.MethodName) ({ cls := "CallMelt$Past", name := "keepHeld", desc := "()V" } : Jvm.MethodName) ∈ lw_tbl := List.mem_of_getElem? (i := 515) (by decide +kernel)
theorem wd_515 : Jvm.Cond.selects "CallMelt$Past" ({ cls := "CallMelt$Past", name := "keepHeld", desc := "()V" } : Jvm.MethodName) ({ cls := "CallMelt$Past", name := "keepHeld", desc := "()V" } : Jvm.MethodName) ∈ lw_u := lw_in wt_515 rfl
theorem wt_516 : Jvm.Cond.code ({ cls := "CallMelt$Past", name := "keepHeld", desc := "()V" } : Jvm.MethodName) prog_6_method_4_code (1 : Nat) (Option.none : Option Jvm.ClassFile.FieldType) ∈ lw_tbl := List.mem_of_getElem? (i := 516) (by decide +kernel)
theorem wg_516 : Jvm.Cond.code ({ cls := "CallMelt$Past", name := "keepHeld", desc := "()V" } : Jvm.MethodName) prog_6_method_4_code (1 : Nat) (Option.none : Option Jvm.ClassFile.FieldType) ∈ lw_g := List.mem_filter.mpr ⟨wt_516, rfl⟩
theorem wd_516 : Jvm.Cond.code ({ cls := "CallMelt$Past", name := "keepHeld", desc := "()V" } : Jvm.MethodName) prog_6_method_4_code (1 : Nat) (Option.none : Option Jvm.ClassFile.FieldType) ∈ lw_u := lw_in wt_516 rfl
theorem wt_517 : Jvm.Cond.methodLink "CallMelt" (90 : Nat) ({ cls := "CallMelt$Code", name := "setBody", desc := "(II)V" } : Jvm.MethodName) ∈ lw_tbl := List.mem_of_getElem? (i := 517) (by decide +kernel)
theorem wd_517 : Jvm.Cond.methodLink "CallMelt" (90 : Nat) ({ cls := "CallMelt$Code", name := "setBody", desc := "(II)V" } : Jvm.MethodName) ∈ lw_u := lw_in wt_517 rfl
theorem wt_518 : Jvm.Cond.instanceMethod ({ cls := "CallMelt$Code", name := "setBody", desc := "(II)V" } : Jvm.MethodName) ∈ lw_tbl := List.mem_of_getElem? (i := 518) (by decide +kernel)
theorem wd_518 : Jvm.Cond.instanceMethod ({ cls := "CallMelt$Code", name := "setBody", desc := "(II)V" } : Jvm.MethodName) ∈ lw_u := lw_in wt_518 rfl
theorem wt_519 : Jvm.Cond.selects "CallMelt$Code" ({ cls := "CallMelt$Code", name := "setBody", desc := "(II)V" } : Jvm.MethodName) ({ cls := "CallMelt$Code", name := "setBody", desc := "(II)V" } : Jvm.MethodName) ∈ lw_tbl := List.mem_of_getElem? (i := 519) (by decide +kernel)
theorem wd_519 : Jvm.Cond.selects "CallMelt$Code" ({ cls := "CallMelt$Code", name := "setBody", desc := "(II)V" } : Jvm.MethodName) ({ cls := "CallMelt$Code", name := "setBody", desc := "(II)V" } : Jvm.MethodName) ∈ lw_u := lw_in wt_519 rfl
theorem wt_520 : Jvm.Cond.code ({ cls := "CallMelt$Code", name := "setBody", desc := "(II)V" } : Jvm.MethodName) prog_3_method_27_code (3 : Nat) (Option.none : Option Jvm.ClassFile.FieldType) ∈ lw_tbl := List.mem_of_getElem? (i := 520) (by decide +kernel)
theorem wg_520 : Jvm.Cond.code ({ cls := "CallMelt$Code", name := "setBody", desc := "(II)V" } : Jvm.MethodName) prog_3_method_27_code (3 : Nat) (Option.none : Option Jvm.ClassFile.FieldType) ∈ lw_g := List.mem_filter.mpr ⟨wt_520, rfl⟩
theorem wd_520 : Jvm.Cond.code ({ cls := "CallMelt$Code", name := "setBody", desc := "(II)V" } : Jvm.MethodName) prog_3_method_27_code (3 : Nat) (Option.none : Option Jvm.ClassFile.FieldType) ∈ lw_u := lw_in wt_520 rfl
theorem wt_521 : Jvm.Cond.methodLink "CallMelt" (94 : Nat) ({ cls := "CallMelt$Code", name := "usesOf", desc := "(I)I" } : Jvm.MethodName) ∈ lw_tbl := List.mem_of_getElem? (i := 521) (by decide +kernel)
theorem wd_521 : Jvm.Cond.methodLink "CallMelt" (94 : Nat) ({ cls := "CallMelt$Code", name := "usesOf", desc := "(I)I" } : Jvm.MethodName) ∈ lw_u := lw_in wt_521 rfl
theorem wt_522 : Jvm.Cond.instanceMethod ({ cls := "CallMelt$Code", name := "usesOf", desc := "(I)I" } : Jvm.MethodName) ∈ lw_tbl := List.mem_of_getElem? (i := 522) (by decide +kernel)
theorem wd_522 : Jvm.Cond.instanceMethod ({ cls := "CallMelt$Code", name := "usesOf", desc := "(I)I" } : Jvm.MethodName) ∈ lw_u := lw_in wt_522 rfl
theorem wt_523 : Jvm.Cond.selects "CallMelt$Code" ({ cls := "CallMelt$Code", name := "usesOf", desc := "(I)I" } : Jvm.MethodName) ({ cls := "CallMelt$Code", name := "usesOf", desc := "(I)I" } : Jvm.MethodName) ∈ lw_tbl := List.mem_of_getElem? (i := 523) (by decide +kernel)
theorem wd_523 : Jvm.Cond.selects "CallMelt$Code" ({ cls := "CallMelt$Code", name := "usesOf", desc := "(I)I" } : Jvm.MethodName) ({ cls := "CallMelt$Code", name := "usesOf", desc := "(I)I" } : Jvm.MethodName) ∈ lw_u := lw_in wt_523 rfl
theorem wt_524 : Jvm.Cond.code ({ cls := "CallMelt$Code", name := "usesOf", desc := "(I)I" } : Jvm.MethodName) prog_3_method_19_code (5 : Nat) (Option.some Jvm.ClassFile.FieldType.int) ∈ lw_tbl := List.mem_of_getElem? (i := 524) (by decide +kernel)
theorem wg_524 : Jvm.Cond.code ({ cls := "CallMelt$Code", name := "usesOf", desc := "(I)I" } : Jvm.MethodName) prog_3_method_19_code (5 : Nat) (Option.some Jvm.ClassFile.FieldType.int) ∈ lw_g := List.mem_filter.mpr ⟨wt_524, rfl⟩
theorem wd_524 : Jvm.Cond.code ({ cls := "CallMelt$Code", name := "usesOf", desc := "(I)I" } : Jvm.MethodName) prog_3_method_19_code (5 : Nat) (Option.some Jvm.ClassFile.FieldType.int) ∈ lw_u := lw_in wt_524 rfl
theorem wt_525 : Jvm.Cond.methodLink "CallMelt$Code" (47 : Nat) ({ cls := "CallMelt$Code", name := "bodyOf", desc := "(I)I" } : Jvm.MethodName) ∈ lw_tbl := List.mem_of_getElem? (i := 525) (by decide +kernel)
theorem wd_525 : Jvm.Cond.methodLink "CallMelt$Code" (47 : Nat) ({ cls := "CallMelt$Code", name := "bodyOf", desc := "(I)I" } : Jvm.MethodName) ∈ lw_u := lw_in wt_525 rfl
theorem wt_526 : Jvm.Cond.instanceMethod ({ cls := "CallMelt$Code", name := "bodyOf", desc := "(I)I" } : Jvm.MethodName) ∈ lw_tbl := List.mem_of_getElem? (i := 526) (by decide +kernel)
theorem wd_526 : Jvm.Cond.instanceMethod ({ cls := "CallMelt$Code", name := "bodyOf", desc := "(I)I" } : Jvm.MethodName) ∈ lw_u := lw_in wt_526 rfl
theorem wt_527 : Jvm.Cond.selects "CallMelt$Code" ({ cls := "CallMelt$Code", name := "bodyOf", desc := "(I)I" } : Jvm.MethodName) ({ cls := "CallMelt$Code", name := "bodyOf", desc := "(I)I" } : Jvm.MethodName) ∈ lw_tbl := List.mem_of_getElem? (i := 527) (by decide +kernel)
theorem wd_527 : Jvm.Cond.selects "CallMelt$Code" ({ cls := "CallMelt$Code", name := "bodyOf", desc := "(I)I" } : Jvm.MethodName) ({ cls := "CallMelt$Code", name := "bodyOf", desc := "(I)I" } : Jvm.MethodName) ∈ lw_u := lw_in wt_527 rfl
theorem wt_528 : Jvm.Cond.code ({ cls := "CallMelt$Code", name := "bodyOf", desc := "(I)I" } : Jvm.MethodName) prog_3_method_13_code (2 : Nat) (Option.some Jvm.ClassFile.FieldType.int) ∈ lw_tbl := List.mem_of_getElem? (i := 528) (by decide +kernel)
theorem wg_528 : Jvm.Cond.code ({ cls := "CallMelt$Code", name := "bodyOf", desc := "(I)I" } : Jvm.MethodName) prog_3_method_13_code (2 : Nat) (Option.some Jvm.ClassFile.FieldType.int) ∈ lw_g := List.mem_filter.mpr ⟨wt_528, rfl⟩
theorem wd_528 : Jvm.Cond.code ({ cls := "CallMelt$Code", name := "bodyOf", desc := "(I)I" } : Jvm.MethodName) prog_3_method_13_code (2 : Nat) (Option.some Jvm.ClassFile.FieldType.int) ∈ lw_u := lw_in wt_528 rfl
theorem wt_529 : Jvm.Cond.methodLink "CallMelt$Code" (91 : Nat) ({ cls := "CallMelt$Code", name := "paramsOf", desc := "(I)I" } : Jvm.MethodName) ∈ lw_tbl := List.mem_of_getElem? (i := 529) (by decide +kernel)
theorem wd_529 : Jvm.Cond.methodLink "CallMelt$Code" (91 : Nat) ({ cls := "CallMelt$Code", name := "paramsOf", desc := "(I)I" } : Jvm.MethodName) ∈ lw_u := lw_in wt_529 rfl
theorem wt_530 : Jvm.Cond.methodLink "CallMelt$Code" (50 : Nat) ({ cls := "CallMelt$Code", name := "kindOf", desc := "(I)I" } : Jvm.MethodName) ∈ lw_tbl := List.mem_of_getElem? (i := 530) (by decide +kernel)
theorem wd_530 : Jvm.Cond.methodLink "CallMelt$Code" (50 : Nat) ({ cls := "CallMelt$Code", name := "kindOf", desc := "(I)I" } : Jvm.MethodName) ∈ lw_u := lw_in wt_530 rfl
theorem wt_531 : Jvm.Cond.instanceMethod ({ cls := "CallMelt$Code", name := "kindOf", desc := "(I)I" } : Jvm.MethodName) ∈ lw_tbl := List.mem_of_getElem? (i := 531) (by decide +kernel)
theorem wd_531 : Jvm.Cond.instanceMethod ({ cls := "CallMelt$Code", name := "kindOf", desc := "(I)I" } : Jvm.MethodName) ∈ lw_u := lw_in wt_531 rfl
theorem wt_532 : Jvm.Cond.selects "CallMelt$Code" ({ cls := "CallMelt$Code", name := "kindOf", desc := "(I)I" } : Jvm.MethodName) ({ cls := "CallMelt$Code", name := "kindOf", desc := "(I)I" } : Jvm.MethodName) ∈ lw_tbl := List.mem_of_getElem? (i := 532) (by decide +kernel)
theorem wd_532 : Jvm.Cond.selects "CallMelt$Code" ({ cls := "CallMelt$Code", name := "kindOf", desc := "(I)I" } : Jvm.MethodName) ({ cls := "CallMelt$Code", name := "kindOf", desc := "(I)I" } : Jvm.MethodName) ∈ lw_u := lw_in wt_532 rfl
theorem wt_533 : Jvm.Cond.code ({ cls := "CallMelt$Code", name := "kindOf", desc := "(I)I" } : Jvm.MethodName) prog_3_method_8_code (2 : Nat) (Option.some Jvm.ClassFile.FieldType.int) ∈ lw_tbl := List.mem_of_getElem? (i := 533) (by decide +kernel)
theorem wg_533 : Jvm.Cond.code ({ cls := "CallMelt$Code", name := "kindOf", desc := "(I)I" } : Jvm.MethodName) prog_3_method_8_code (2 : Nat) (Option.some Jvm.ClassFile.FieldType.int) ∈ lw_g := List.mem_filter.mpr ⟨wt_533, rfl⟩
theorem wd_533 : Jvm.Cond.code ({ cls := "CallMelt$Code", name := "kindOf", desc := "(I)I" } : Jvm.MethodName) prog_3_method_8_code (2 : Nat) (Option.some Jvm.ClassFile.FieldType.int) ∈ lw_u := lw_in wt_533 rfl
theorem wt_534 : Jvm.Cond.methodLink "CallMelt$Code" (97 : Nat) ({ cls := "CallMelt$Code", name := "numberOf", desc := "(I)I" } : Jvm.MethodName) ∈ lw_tbl := List.mem_of_getElem? (i := 534) (by decide +kernel)
theorem wd_534 : Jvm.Cond.methodLink "CallMelt$Code" (97 : Nat) ({ cls := "CallMelt$Code", name := "numberOf", desc := "(I)I" } : Jvm.MethodName) ∈ lw_u := lw_in wt_534 rfl
theorem wt_535 : Jvm.Cond.instanceMethod ({ cls := "CallMelt$Code", name := "numberOf", desc := "(I)I" } : Jvm.MethodName) ∈ lw_tbl := List.mem_of_getElem? (i := 535) (by decide +kernel)
theorem wd_535 : Jvm.Cond.instanceMethod ({ cls := "CallMelt$Code", name := "numberOf", desc := "(I)I" } : Jvm.MethodName) ∈ lw_u := lw_in wt_535 rfl
theorem wt_536 : Jvm.Cond.selects "CallMelt$Code" ({ cls := "CallMelt$Code", name := "numberOf", desc := "(I)I" } : Jvm.MethodName) ({ cls := "CallMelt$Code", name := "numberOf", desc := "(I)I" } : Jvm.MethodName) ∈ lw_tbl := List.mem_of_getElem? (i := 536) (by decide +kernel)
theorem wd_536 : Jvm.Cond.selects "CallMelt$Code" ({ cls := "CallMelt$Code", name := "numberOf", desc := "(I)I" } : Jvm.MethodName) ({ cls := "CallMelt$Code", name := "numberOf", desc := "(I)I" } : Jvm.MethodName) ∈ lw_u := lw_in wt_536 rfl
theorem wt_537 : Jvm.Cond.code ({ cls := "CallMelt$Code", name := "numberOf", desc := "(I)I" } : Jvm.MethodName) prog_3_method_9_code (2 : Nat) (Option.some Jvm.ClassFile.FieldType.int) ∈ lw_tbl := List.mem_of_getElem? (i := 537) (by decide +kernel)
theorem wg_537 : Jvm.Cond.code ({ cls := "CallMelt$Code", name := "numberOf", desc := "(I)I" } : Jvm.MethodName) prog_3_method_9_code (2 : Nat) (Option.some Jvm.ClassFile.FieldType.int) ∈ lw_g := List.mem_filter.mpr ⟨wt_537, rfl⟩
theorem wd_537 : Jvm.Cond.code ({ cls := "CallMelt$Code", name := "numberOf", desc := "(I)I" } : Jvm.MethodName) prog_3_method_9_code (2 : Nat) (Option.some Jvm.ClassFile.FieldType.int) ∈ lw_u := lw_in wt_537 rfl
theorem wt_541 : Jvm.Cond.code ({ cls := "CallMelt", name := "told", desc := "(II)I" } : Jvm.MethodName) prog_1_method_10_code (3 : Nat) (Option.some Jvm.ClassFile.FieldType.int) ∈ lw_tbl := List.mem_of_getElem? (i := 541) (by decide +kernel)
theorem wg_541 : Jvm.Cond.code ({ cls := "CallMelt", name := "told", desc := "(II)I" } : Jvm.MethodName) prog_1_method_10_code (3 : Nat) (Option.some Jvm.ClassFile.FieldType.int) ∈ lw_g := List.mem_filter.mpr ⟨wt_541, rfl⟩
theorem wd_541 : Jvm.Cond.code ({ cls := "CallMelt", name := "told", desc := "(II)I" } : Jvm.MethodName) prog_1_method_10_code (3 : Nat) (Option.some Jvm.ClassFile.FieldType.int) ∈ lw_u := lw_in wt_541 rfl
theorem wt_542 : Jvm.Cond.methodLink "CallMelt" (97 : Nat) ({ cls := "CallMelt$Code", name := "isMade", desc := "(I)Z" } : Jvm.MethodName) ∈ lw_tbl := List.mem_of_getElem? (i := 542) (by decide +kernel)
theorem wd_542 : Jvm.Cond.methodLink "CallMelt" (97 : Nat) ({ cls := "CallMelt$Code", name := "isMade", desc := "(I)Z" } : Jvm.MethodName) ∈ lw_u := lw_in wt_542 rfl
theorem wt_543 : Jvm.Cond.instanceMethod ({ cls := "CallMelt$Code", name := "isMade", desc := "(I)Z" } : Jvm.MethodName) ∈ lw_tbl := List.mem_of_getElem? (i := 543) (by decide +kernel)
theorem wd_543 : Jvm.Cond.instanceMethod ({ cls := "CallMelt$Code", name := "isMade", desc := "(I)Z" } : Jvm.MethodName) ∈ lw_u := lw_in wt_543 rfl
theorem wt_544 : Jvm.Cond.selects "CallMelt$Code" ({ cls := "CallMelt$Code", name := "isMade", desc := "(I)Z" } : Jvm.MethodName) ({ cls := "CallMelt$Code", name := "isMade", desc := "(I)Z" } : Jvm.MethodName) ∈ lw_tbl := List.mem_of_getElem? (i := 544) (by decide +kernel)
theorem wd_544 : Jvm.Cond.selects "CallMelt$Code" ({ cls := "CallMelt$Code", name := "isMade", desc := "(I)Z" } : Jvm.MethodName) ({ cls := "CallMelt$Code", name := "isMade", desc := "(I)Z" } : Jvm.MethodName) ∈ lw_u := lw_in wt_544 rfl
theorem wt_545 : Jvm.Cond.code ({ cls := "CallMelt$Code", name := "isMade", desc := "(I)Z" } : Jvm.MethodName) prog_3_method_2_code (2 : Nat) (Option.some Jvm.ClassFile.FieldType.boolean) ∈ lw_tbl := List.mem_of_getElem? (i := 545) (by decide +kernel)
theorem wg_545 : Jvm.Cond.code ({ cls := "CallMelt$Code", name := "isMade", desc := "(I)Z" } : Jvm.MethodName) prog_3_method_2_code (2 : Nat) (Option.some Jvm.ClassFile.FieldType.boolean) ∈ lw_g := List.mem_filter.mpr ⟨wt_545, rfl⟩
theorem wd_545 : Jvm.Cond.code ({ cls := "CallMelt$Code", name := "isMade", desc := "(I)Z" } : Jvm.MethodName) prog_3_method_2_code (2 : Nat) (Option.some Jvm.ClassFile.FieldType.boolean) ∈ lw_u := lw_in wt_545 rfl
theorem wt_546 : Jvm.Cond.constant "CallMelt" (100 : Nat) (-1000000000 : Int32) ∈ lw_tbl := List.mem_of_getElem? (i := 546) (by decide +kernel)
theorem wd_546 : Jvm.Cond.constant "CallMelt" (100 : Nat) (-1000000000 : Int32) ∈ lw_u := lw_in wt_546 rfl
theorem wt_547 : Jvm.Cond.methodLink "CallMelt" (101 : Nat) ({ cls := "CallMelt$Code", name := "kindOf", desc := "(I)I" } : Jvm.MethodName) ∈ lw_tbl := List.mem_of_getElem? (i := 547) (by decide +kernel)
theorem wd_547 : Jvm.Cond.methodLink "CallMelt" (101 : Nat) ({ cls := "CallMelt$Code", name := "kindOf", desc := "(I)I" } : Jvm.MethodName) ∈ lw_u := lw_in wt_547 rfl
theorem wt_548 : Jvm.Cond.methodLink "CallMelt" (104 : Nat) ({ cls := "CallMelt$Code", name := "numberOf", desc := "(I)I" } : Jvm.MethodName) ∈ lw_tbl := List.mem_of_getElem? (i := 548) (by decide +kernel)
theorem wd_548 : Jvm.Cond.methodLink "CallMelt" (104 : Nat) ({ cls := "CallMelt$Code", name := "numberOf", desc := "(I)I" } : Jvm.MethodName) ∈ lw_u := lw_in wt_548 rfl
theorem wt_549 : Jvm.Cond.methodLink "CallMelt" (107 : Nat) ({ cls := "CallMelt$Code", name := "partOf", desc := "(II)I" } : Jvm.MethodName) ∈ lw_tbl := List.mem_of_getElem? (i := 549) (by decide +kernel)
theorem wd_549 : Jvm.Cond.methodLink "CallMelt" (107 : Nat) ({ cls := "CallMelt$Code", name := "partOf", desc := "(II)I" } : Jvm.MethodName) ∈ lw_u := lw_in wt_549 rfl
theorem wt_550 : Jvm.Cond.methodLink "CallMelt" (111 : Nat) ({ cls := "CallMelt$Code", name := "parentOf", desc := "(I)I" } : Jvm.MethodName) ∈ lw_tbl := List.mem_of_getElem? (i := 550) (by decide +kernel)
theorem wd_550 : Jvm.Cond.methodLink "CallMelt" (111 : Nat) ({ cls := "CallMelt$Code", name := "parentOf", desc := "(I)I" } : Jvm.MethodName) ∈ lw_u := lw_in wt_550 rfl
theorem wt_551 : Jvm.Cond.instanceMethod ({ cls := "CallMelt$Code", name := "parentOf", desc := "(I)I" } : Jvm.MethodName) ∈ lw_tbl := List.mem_of_getElem? (i := 551) (by decide +kernel)
theorem wd_551 : Jvm.Cond.instanceMethod ({ cls := "CallMelt$Code", name := "parentOf", desc := "(I)I" } : Jvm.MethodName) ∈ lw_u := lw_in wt_551 rfl
theorem wt_552 : Jvm.Cond.selects "CallMelt$Code" ({ cls := "CallMelt$Code", name := "parentOf", desc := "(I)I" } : Jvm.MethodName) ({ cls := "CallMelt$Code", name := "parentOf", desc := "(I)I" } : Jvm.MethodName) ∈ lw_tbl := List.mem_of_getElem? (i := 552) (by decide +kernel)
theorem wd_552 : Jvm.Cond.selects "CallMelt$Code" ({ cls := "CallMelt$Code", name := "parentOf", desc := "(I)I" } : Jvm.MethodName) ({ cls := "CallMelt$Code", name := "parentOf", desc := "(I)I" } : Jvm.MethodName) ∈ lw_u := lw_in wt_552 rfl
theorem wt_553 : Jvm.Cond.code ({ cls := "CallMelt$Code", name := "parentOf", desc := "(I)I" } : Jvm.MethodName) prog_3_method_11_code (2 : Nat) (Option.some Jvm.ClassFile.FieldType.int) ∈ lw_tbl := List.mem_of_getElem? (i := 553) (by decide +kernel)
theorem wg_553 : Jvm.Cond.code ({ cls := "CallMelt$Code", name := "parentOf", desc := "(I)I" } : Jvm.MethodName) prog_3_method_11_code (2 : Nat) (Option.some Jvm.ClassFile.FieldType.int) ∈ lw_g := List.mem_filter.mpr ⟨wt_553, rfl⟩
theorem wd_553 : Jvm.Cond.code ({ cls := "CallMelt$Code", name := "parentOf", desc := "(I)I" } : Jvm.MethodName) prog_3_method_11_code (2 : Nat) (Option.some Jvm.ClassFile.FieldType.int) ∈ lw_u := lw_in wt_553 rfl
theorem wt_554 : Jvm.Cond.methodLink "CallMelt" (114 : Nat) ({ cls := "CallMelt$Code", name := "routineOf", desc := "(I)I" } : Jvm.MethodName) ∈ lw_tbl := List.mem_of_getElem? (i := 554) (by decide +kernel)
theorem wd_554 : Jvm.Cond.methodLink "CallMelt" (114 : Nat) ({ cls := "CallMelt$Code", name := "routineOf", desc := "(I)I" } : Jvm.MethodName) ∈ lw_u := lw_in wt_554 rfl
theorem wt_555 : Jvm.Cond.instanceMethod ({ cls := "CallMelt$Code", name := "routineOf", desc := "(I)I" } : Jvm.MethodName) ∈ lw_tbl := List.mem_of_getElem? (i := 555) (by decide +kernel)
theorem wd_555 : Jvm.Cond.instanceMethod ({ cls := "CallMelt$Code", name := "routineOf", desc := "(I)I" } : Jvm.MethodName) ∈ lw_u := lw_in wt_555 rfl
theorem wt_556 : Jvm.Cond.selects "CallMelt$Code" ({ cls := "CallMelt$Code", name := "routineOf", desc := "(I)I" } : Jvm.MethodName) ({ cls := "CallMelt$Code", name := "routineOf", desc := "(I)I" } : Jvm.MethodName) ∈ lw_tbl := List.mem_of_getElem? (i := 556) (by decide +kernel)
theorem wd_556 : Jvm.Cond.selects "CallMelt$Code" ({ cls := "CallMelt$Code", name := "routineOf", desc := "(I)I" } : Jvm.MethodName) ({ cls := "CallMelt$Code", name := "routineOf", desc := "(I)I" } : Jvm.MethodName) ∈ lw_u := lw_in wt_556 rfl
theorem wt_557 : Jvm.Cond.code ({ cls := "CallMelt$Code", name := "routineOf", desc := "(I)I" } : Jvm.MethodName) prog_3_method_15_code (4 : Nat) (Option.some Jvm.ClassFile.FieldType.int) ∈ lw_tbl := List.mem_of_getElem? (i := 557) (by decide +kernel)
theorem wg_557 : Jvm.Cond.code ({ cls := "CallMelt$Code", name := "routineOf", desc := "(I)I" } : Jvm.MethodName) prog_3_method_15_code (4 : Nat) (Option.some Jvm.ClassFile.FieldType.int) ∈ lw_g := List.mem_filter.mpr ⟨wt_557, rfl⟩
theorem wd_557 : Jvm.Cond.code ({ cls := "CallMelt$Code", name := "routineOf", desc := "(I)I" } : Jvm.MethodName) prog_3_method_15_code (4 : Nat) (Option.some Jvm.ClassFile.FieldType.int) ∈ lw_u := lw_in wt_557 rfl
theorem wt_558 : Jvm.Cond.methodLink "CallMelt$Code" (72 : Nat) ({ cls := "CallMelt$Code", name := "parentOf", desc := "(I)I" } : Jvm.MethodName) ∈ lw_tbl := List.mem_of_getElem? (i := 558) (by decide +kernel)
theorem wd_558 : Jvm.Cond.methodLink "CallMelt$Code" (72 : Nat) ({ cls := "CallMelt$Code", name := "parentOf", desc := "(I)I" } : Jvm.MethodName) ∈ lw_u := lw_in wt_558 rfl
theorem wt_559 : Jvm.Cond.methodLink "CallMelt" (117 : Nat) ({ cls := "CallMelt$Code", name := "isStep", desc := "(I)Z" } : Jvm.MethodName) ∈ lw_tbl := List.mem_of_getElem? (i := 559) (by decide +kernel)
theorem wd_559 : Jvm.Cond.methodLink "CallMelt" (117 : Nat) ({ cls := "CallMelt$Code", name := "isStep", desc := "(I)Z" } : Jvm.MethodName) ∈ lw_u := lw_in wt_559 rfl
theorem wt_560 : Jvm.Cond.methodLink "CallMelt" (120 : Nat) ({ cls := "CallMelt$Machine", name := "countOf", desc := "(I)I" } : Jvm.MethodName) ∈ lw_tbl := List.mem_of_getElem? (i := 560) (by decide +kernel)
theorem wd_560 : Jvm.Cond.methodLink "CallMelt" (120 : Nat) ({ cls := "CallMelt$Machine", name := "countOf", desc := "(I)I" } : Jvm.MethodName) ∈ lw_u := lw_in wt_560 rfl
theorem wt_561 : Jvm.Cond.instanceMethod ({ cls := "CallMelt$Machine", name := "countOf", desc := "(I)I" } : Jvm.MethodName) ∈ lw_tbl := List.mem_of_getElem? (i := 561) (by decide +kernel)
theorem wd_561 : Jvm.Cond.instanceMethod ({ cls := "CallMelt$Machine", name := "countOf", desc := "(I)I" } : Jvm.MethodName) ∈ lw_u := lw_in wt_561 rfl
theorem wt_562 : Jvm.Cond.selects "CallMelt$Machine" ({ cls := "CallMelt$Machine", name := "countOf", desc := "(I)I" } : Jvm.MethodName) ({ cls := "CallMelt$Machine", name := "countOf", desc := "(I)I" } : Jvm.MethodName) ∈ lw_tbl := List.mem_of_getElem? (i := 562) (by decide +kernel)
theorem wd_562 : Jvm.Cond.selects "CallMelt$Machine" ({ cls := "CallMelt$Machine", name := "countOf", desc := "(I)I" } : Jvm.MethodName) ({ cls := "CallMelt$Machine", name := "countOf", desc := "(I)I" } : Jvm.MethodName) ∈ lw_u := lw_in wt_562 rfl
theorem wt_563 : Jvm.Cond.code ({ cls := "CallMelt$Machine", name := "countOf", desc := "(I)I" } : Jvm.MethodName) prog_4_method_3_code (2 : Nat) (Option.some Jvm.ClassFile.FieldType.int) ∈ lw_tbl := List.mem_of_getElem? (i := 563) (by decide +kernel)
theorem wg_563 : Jvm.Cond.code ({ cls := "CallMelt$Machine", name := "countOf", desc := "(I)I" } : Jvm.MethodName) prog_4_method_3_code (2 : Nat) (Option.some Jvm.ClassFile.FieldType.int) ∈ lw_g := List.mem_filter.mpr ⟨wt_563, rfl⟩
theorem wd_563 : Jvm.Cond.code ({ cls := "CallMelt$Machine", name := "countOf", desc := "(I)I" } : Jvm.MethodName) prog_4_method_3_code (2 : Nat) (Option.some Jvm.ClassFile.FieldType.int) ∈ lw_u := lw_in wt_563 rfl
theorem wt_564 : Jvm.Cond.methodLink "CallMelt" (123 : Nat) ({ cls := "CallMelt$Code", name := "sizeOf", desc := "(I)I" } : Jvm.MethodName) ∈ lw_tbl := List.mem_of_getElem? (i := 564) (by decide +kernel)
theorem wd_564 : Jvm.Cond.methodLink "CallMelt" (123 : Nat) ({ cls := "CallMelt$Code", name := "sizeOf", desc := "(I)I" } : Jvm.MethodName) ∈ lw_u := lw_in wt_564 rfl
theorem wt_565 : Jvm.Cond.instanceMethod ({ cls := "CallMelt$Code", name := "sizeOf", desc := "(I)I" } : Jvm.MethodName) ∈ lw_tbl := List.mem_of_getElem? (i := 565) (by decide +kernel)
theorem wd_565 : Jvm.Cond.instanceMethod ({ cls := "CallMelt$Code", name := "sizeOf", desc := "(I)I" } : Jvm.MethodName) ∈ lw_u := lw_in wt_565 rfl
theorem wt_566 : Jvm.Cond.selects "CallMelt$Code" ({ cls := "CallMelt$Code", name := "sizeOf", desc := "(I)I" } : Jvm.MethodName) ({ cls := "CallMelt$Code", name := "sizeOf", desc := "(I)I" } : Jvm.MethodName) ∈ lw_tbl := List.mem_of_getElem? (i := 566) (by decide +kernel)
theorem wd_566 : Jvm.Cond.selects "CallMelt$Code" ({ cls := "CallMelt$Code", name := "sizeOf", desc := "(I)I" } : Jvm.MethodName) ({ cls := "CallMelt$Code", name := "sizeOf", desc := "(I)I" } : Jvm.MethodName) ∈ lw_u := lw_in wt_566 rfl
theorem wt_567 : Jvm.Cond.code ({ cls := "CallMelt$Code", name := "sizeOf", desc := "(I)I" } : Jvm.MethodName) prog_3_method_17_code (2 : Nat) (Option.some Jvm.ClassFile.FieldType.int) ∈ lw_tbl := List.mem_of_getElem? (i := 567) (by decide +kernel)
theorem wg_567 : Jvm.Cond.code ({ cls := "CallMelt$Code", name := "sizeOf", desc := "(I)I" } : Jvm.MethodName) prog_3_method_17_code (2 : Nat) (Option.some Jvm.ClassFile.FieldType.int) ∈ lw_g := List.mem_filter.mpr ⟨wt_567, rfl⟩
theorem wd_567 : Jvm.Cond.code ({ cls := "CallMelt$Code", name := "sizeOf", desc := "(I)I" } : Jvm.MethodName) prog_3_method_17_code (2 : Nat) (Option.some Jvm.ClassFile.FieldType.int) ∈ lw_u := lw_in wt_567 rfl
theorem wt_571 : Jvm.Cond.code ({ cls := "CallMelt", name := "about", desc := "(II)I" } : Jvm.MethodName) prog_1_method_11_code (3 : Nat) (Option.some Jvm.ClassFile.FieldType.int) ∈ lw_tbl := List.mem_of_getElem? (i := 571) (by decide +kernel)
theorem wg_571 : Jvm.Cond.code ({ cls := "CallMelt", name := "about", desc := "(II)I" } : Jvm.MethodName) prog_1_method_11_code (3 : Nat) (Option.some Jvm.ClassFile.FieldType.int) ∈ lw_g := List.mem_filter.mpr ⟨wt_571, rfl⟩
theorem wd_571 : Jvm.Cond.code ({ cls := "CallMelt", name := "about", desc := "(II)I" } : Jvm.MethodName) prog_1_method_11_code (3 : Nat) (Option.some Jvm.ClassFile.FieldType.int) ∈ lw_u := lw_in wt_571 rfl
theorem wt_572 : Jvm.Cond.methodLink "CallMelt" (126 : Nat) ({ cls := "CallMelt$Code", name := "bodyOf", desc := "(I)I" } : Jvm.MethodName) ∈ lw_tbl := List.mem_of_getElem? (i := 572) (by decide +kernel)
theorem wd_572 : Jvm.Cond.methodLink "CallMelt" (126 : Nat) ({ cls := "CallMelt$Code", name := "bodyOf", desc := "(I)I" } : Jvm.MethodName) ∈ lw_u := lw_in wt_572 rfl
theorem wt_573 : Jvm.Cond.methodLink "CallMelt" (129 : Nat) ({ cls := "CallMelt$Code", name := "callsIn", desc := "(I)I" } : Jvm.MethodName) ∈ lw_tbl := List.mem_of_getElem? (i := 573) (by decide +kernel)
theorem wd_573 : Jvm.Cond.methodLink "CallMelt" (129 : Nat) ({ cls := "CallMelt$Code", name := "callsIn", desc := "(I)I" } : Jvm.MethodName) ∈ lw_u := lw_in wt_573 rfl
theorem wt_574 : Jvm.Cond.instanceMethod ({ cls := "CallMelt$Code", name := "callsIn", desc := "(I)I" } : Jvm.MethodName) ∈ lw_tbl := List.mem_of_getElem? (i := 574) (by decide +kernel)
theorem wd_574 : Jvm.Cond.instanceMethod ({ cls := "CallMelt$Code", name := "callsIn", desc := "(I)I" } : Jvm.MethodName) ∈ lw_u := lw_in wt_574 rfl
theorem wt_575 : Jvm.Cond.selects "CallMelt$Code" ({ cls := "CallMelt$Code", name := "callsIn", desc := "(I)I" } : Jvm.MethodName) ({ cls := "CallMelt$Code", name := "callsIn", desc := "(I)I" } : Jvm.MethodName) ∈ lw_tbl := List.mem_of_getElem? (i := 575) (by decide +kernel)
theorem wd_575 : Jvm.Cond.selects "CallMelt$Code" ({ cls := "CallMelt$Code", name := "callsIn", desc := "(I)I" } : Jvm.MethodName) ({ cls := "CallMelt$Code", name := "callsIn", desc := "(I)I" } : Jvm.MethodName) ∈ lw_u := lw_in wt_575 rfl
theorem wt_576 : Jvm.Cond.code ({ cls := "CallMelt$Code", name := "callsIn", desc := "(I)I" } : Jvm.MethodName) prog_3_method_20_code (4 : Nat) (Option.some Jvm.ClassFile.FieldType.int) ∈ lw_tbl := List.mem_of_getElem? (i := 576) (by decide +kernel)
theorem wg_576 : Jvm.Cond.code ({ cls := "CallMelt$Code", name := "callsIn", desc := "(I)I" } : Jvm.MethodName) prog_3_method_20_code (4 : Nat) (Option.some Jvm.ClassFile.FieldType.int) ∈ lw_g := List.mem_filter.mpr ⟨wt_576, rfl⟩
theorem wd_576 : Jvm.Cond.code ({ cls := "CallMelt$Code", name := "callsIn", desc := "(I)I" } : Jvm.MethodName) prog_3_method_20_code (4 : Nat) (Option.some Jvm.ClassFile.FieldType.int) ∈ lw_u := lw_in wt_576 rfl
theorem wt_577 : Jvm.Cond.methodLink "CallMelt" (132 : Nat) ({ cls := "CallMelt$Code", name := "callsOf", desc := "(I)I" } : Jvm.MethodName) ∈ lw_tbl := List.mem_of_getElem? (i := 577) (by decide +kernel)
theorem wd_577 : Jvm.Cond.methodLink "CallMelt" (132 : Nat) ({ cls := "CallMelt$Code", name := "callsOf", desc := "(I)I" } : Jvm.MethodName) ∈ lw_u := lw_in wt_577 rfl
theorem wt_578 : Jvm.Cond.instanceMethod ({ cls := "CallMelt$Code", name := "callsOf", desc := "(I)I" } : Jvm.MethodName) ∈ lw_tbl := List.mem_of_getElem? (i := 578) (by decide +kernel)
theorem wd_578 : Jvm.Cond.instanceMethod ({ cls := "CallMelt$Code", name := "callsOf", desc := "(I)I" } : Jvm.MethodName) ∈ lw_u := lw_in wt_578 rfl
theorem wt_579 : Jvm.Cond.selects "CallMelt$Code" ({ cls := "CallMelt$Code", name := "callsOf", desc := "(I)I" } : Jvm.MethodName) ({ cls := "CallMelt$Code", name := "callsOf", desc := "(I)I" } : Jvm.MethodName) ∈ lw_tbl := List.mem_of_getElem? (i := 579) (by decide +kernel)
theorem wd_579 : Jvm.Cond.selects "CallMelt$Code" ({ cls := "CallMelt$Code", name := "callsOf", desc := "(I)I" } : Jvm.MethodName) ({ cls := "CallMelt$Code", name := "callsOf", desc := "(I)I" } : Jvm.MethodName) ∈ lw_u := lw_in wt_579 rfl
theorem wt_580 : Jvm.Cond.code ({ cls := "CallMelt$Code", name := "callsOf", desc := "(I)I" } : Jvm.MethodName) prog_3_method_21_code (4 : Nat) (Option.some Jvm.ClassFile.FieldType.int) ∈ lw_tbl := List.mem_of_getElem? (i := 580) (by decide +kernel)
theorem wg_580 : Jvm.Cond.code ({ cls := "CallMelt$Code", name := "callsOf", desc := "(I)I" } : Jvm.MethodName) prog_3_method_21_code (4 : Nat) (Option.some Jvm.ClassFile.FieldType.int) ∈ lw_g := List.mem_filter.mpr ⟨wt_580, rfl⟩
theorem wd_580 : Jvm.Cond.code ({ cls := "CallMelt$Code", name := "callsOf", desc := "(I)I" } : Jvm.MethodName) prog_3_method_21_code (4 : Nat) (Option.some Jvm.ClassFile.FieldType.int) ∈ lw_u := lw_in wt_580 rfl
theorem wt_581 : Jvm.Cond.methodLink "CallMelt$Code" (100 : Nat) ({ cls := "CallMelt$Code", name := "isCallInBody", desc := "(I)Z" } : Jvm.MethodName) ∈ lw_tbl := List.mem_of_getElem? (i := 581) (by decide +kernel)
theorem wd_581 : Jvm.Cond.methodLink "CallMelt$Code" (100 : Nat) ({ cls := "CallMelt$Code", name := "isCallInBody", desc := "(I)Z" } : Jvm.MethodName) ∈ lw_u := lw_in wt_581 rfl
theorem wt_582 : Jvm.Cond.instanceMethod ({ cls := "CallMelt$Code", name := "isCallInBody", desc := "(I)Z" } : Jvm.MethodName) ∈ lw_tbl := List.mem_of_getElem? (i := 582) (by decide +kernel)
theorem wd_582 : Jvm.Cond.instanceMethod ({ cls := "CallMelt$Code", name := "isCallInBody", desc := "(I)Z" } : Jvm.MethodName) ∈ lw_u := lw_in wt_582 rfl
theorem wt_583 : Jvm.Cond.selects "CallMelt$Code" ({ cls := "CallMelt$Code", name := "isCallInBody", desc := "(I)Z" } : Jvm.MethodName) ({ cls := "CallMelt$Code", name := "isCallInBody", desc := "(I)Z" } : Jvm.MethodName) ∈ lw_tbl := List.mem_of_getElem? (i := 583) (by decide +kernel)
theorem wd_583 : Jvm.Cond.selects "CallMelt$Code" ({ cls := "CallMelt$Code", name := "isCallInBody", desc := "(I)Z" } : Jvm.MethodName) ({ cls := "CallMelt$Code", name := "isCallInBody", desc := "(I)Z" } : Jvm.MethodName) ∈ lw_u := lw_in wt_583 rfl
theorem wt_584 : Jvm.Cond.code ({ cls := "CallMelt$Code", name := "isCallInBody", desc := "(I)Z" } : Jvm.MethodName) prog_3_method_7_code (2 : Nat) (Option.some Jvm.ClassFile.FieldType.boolean) ∈ lw_tbl := List.mem_of_getElem? (i := 584) (by decide +kernel)
theorem wg_584 : Jvm.Cond.code ({ cls := "CallMelt$Code", name := "isCallInBody", desc := "(I)Z" } : Jvm.MethodName) prog_3_method_7_code (2 : Nat) (Option.some Jvm.ClassFile.FieldType.boolean) ∈ lw_g := List.mem_filter.mpr ⟨wt_584, rfl⟩
theorem wd_584 : Jvm.Cond.code ({ cls := "CallMelt$Code", name := "isCallInBody", desc := "(I)Z" } : Jvm.MethodName) prog_3_method_7_code (2 : Nat) (Option.some Jvm.ClassFile.FieldType.boolean) ∈ lw_u := lw_in wt_584 rfl
theorem wt_585 : Jvm.Cond.methodLink "CallMelt$Code" (53 : Nat) ({ cls := "CallMelt$Code", name := "routineOf", desc := "(I)I" } : Jvm.MethodName) ∈ lw_tbl := List.mem_of_getElem? (i := 585) (by decide +kernel)
theorem wd_585 : Jvm.Cond.methodLink "CallMelt$Code" (53 : Nat) ({ cls := "CallMelt$Code", name := "routineOf", desc := "(I)I" } : Jvm.MethodName) ∈ lw_u := lw_in wt_585 rfl
theorem wt_589 : Jvm.Cond.code ({ cls := "CallMelt", name := "same", desc := "(II)I" } : Jvm.MethodName) prog_1_method_12_code (3 : Nat) (Option.some Jvm.ClassFile.FieldType.int) ∈ lw_tbl := List.mem_of_getElem? (i := 589) (by decide +kernel)
theorem wg_589 : Jvm.Cond.code ({ cls := "CallMelt", name := "same", desc := "(II)I" } : Jvm.MethodName) prog_1_method_12_code (3 : Nat) (Option.some Jvm.ClassFile.FieldType.int) ∈ lw_g := List.mem_filter.mpr ⟨wt_589, rfl⟩
theorem wd_589 : Jvm.Cond.code ({ cls := "CallMelt", name := "same", desc := "(II)I" } : Jvm.MethodName) prog_1_method_12_code (3 : Nat) (Option.some Jvm.ClassFile.FieldType.int) ∈ lw_u := lw_in wt_589 rfl
theorem wt_590 : Jvm.Cond.methodLink "CallMelt" (135 : Nat) ({ cls := "CallMelt$Code", name := "areAlike", desc := "(II)Z" } : Jvm.MethodName) ∈ lw_tbl := List.mem_of_getElem? (i := 590) (by decide +kernel)
theorem wd_590 : Jvm.Cond.methodLink "CallMelt" (135 : Nat) ({ cls := "CallMelt$Code", name := "areAlike", desc := "(II)Z" } : Jvm.MethodName) ∈ lw_u := lw_in wt_590 rfl
theorem wt_591 : Jvm.Cond.instanceMethod ({ cls := "CallMelt$Code", name := "areAlike", desc := "(II)Z" } : Jvm.MethodName) ∈ lw_tbl := List.mem_of_getElem? (i := 591) (by decide +kernel)
theorem wd_591 : Jvm.Cond.instanceMethod ({ cls := "CallMelt$Code", name := "areAlike", desc := "(II)Z" } : Jvm.MethodName) ∈ lw_u := lw_in wt_591 rfl
theorem wt_592 : Jvm.Cond.selects "CallMelt$Code" ({ cls := "CallMelt$Code", name := "areAlike", desc := "(II)Z" } : Jvm.MethodName) ({ cls := "CallMelt$Code", name := "areAlike", desc := "(II)Z" } : Jvm.MethodName) ∈ lw_tbl := List.mem_of_getElem? (i := 592) (by decide +kernel)
theorem wd_592 : Jvm.Cond.selects "CallMelt$Code" ({ cls := "CallMelt$Code", name := "areAlike", desc := "(II)Z" } : Jvm.MethodName) ({ cls := "CallMelt$Code", name := "areAlike", desc := "(II)Z" } : Jvm.MethodName) ∈ lw_u := lw_in wt_592 rfl
theorem wt_593 : Jvm.Cond.code ({ cls := "CallMelt$Code", name := "areAlike", desc := "(II)Z" } : Jvm.MethodName) prog_3_method_22_code (6 : Nat) (Option.some Jvm.ClassFile.FieldType.boolean) ∈ lw_tbl := List.mem_of_getElem? (i := 593) (by decide +kernel)
theorem wg_593 : Jvm.Cond.code ({ cls := "CallMelt$Code", name := "areAlike", desc := "(II)Z" } : Jvm.MethodName) prog_3_method_22_code (6 : Nat) (Option.some Jvm.ClassFile.FieldType.boolean) ∈ lw_g := List.mem_filter.mpr ⟨wt_593, rfl⟩
theorem wd_593 : Jvm.Cond.code ({ cls := "CallMelt$Code", name := "areAlike", desc := "(II)Z" } : Jvm.MethodName) prog_3_method_22_code (6 : Nat) (Option.some Jvm.ClassFile.FieldType.boolean) ∈ lw_u := lw_in wt_593 rfl
theorem wt_597 : Jvm.Cond.code ({ cls := "CallMelt", name := "run", desc := "(IIIII)I" } : Jvm.MethodName) prog_1_method_13_code (6 : Nat) (Option.some Jvm.ClassFile.FieldType.int) ∈ lw_tbl := List.mem_of_getElem? (i := 597) (by decide +kernel)
theorem wg_597 : Jvm.Cond.code ({ cls := "CallMelt", name := "run", desc := "(IIIII)I" } : Jvm.MethodName) prog_1_method_13_code (6 : Nat) (Option.some Jvm.ClassFile.FieldType.int) ∈ lw_g := List.mem_filter.mpr ⟨wt_597, rfl⟩
theorem wd_597 : Jvm.Cond.code ({ cls := "CallMelt", name := "run", desc := "(IIIII)I" } : Jvm.MethodName) prog_1_method_13_code (6 : Nat) (Option.some Jvm.ClassFile.FieldType.int) ∈ lw_u := lw_in wt_597 rfl
theorem wt_598 : Jvm.Cond.methodLink "CallMelt" (139 : Nat) ({ cls := "CallMelt$Machine", name := "isSpent", desc := "()Z" } : Jvm.MethodName) ∈ lw_tbl := List.mem_of_getElem? (i := 598) (by decide +kernel)
theorem wd_598 : Jvm.Cond.methodLink "CallMelt" (139 : Nat) ({ cls := "CallMelt$Machine", name := "isSpent", desc := "()Z" } : Jvm.MethodName) ∈ lw_u := lw_in wt_598 rfl
theorem wt_599 : Jvm.Cond.instanceMethod ({ cls := "CallMelt$Machine", name := "isSpent", desc := "()Z" } : Jvm.MethodName) ∈ lw_tbl := List.mem_of_getElem? (i := 599) (by decide +kernel)
theorem wd_599 : Jvm.Cond.instanceMethod ({ cls := "CallMelt$Machine", name := "isSpent", desc := "()Z" } : Jvm.MethodName) ∈ lw_u := lw_in wt_599 rfl
theorem wt_600 : Jvm.Cond.selects "CallMelt$Machine" ({ cls := "CallMelt$Machine", name := "isSpent", desc := "()Z" } : Jvm.MethodName) ({ cls := "CallMelt$Machine", name := "isSpent", desc := "()Z" } : Jvm.MethodName) ∈ lw_tbl := List.mem_of_getElem? (i := 600) (by decide +kernel)
theorem wd_600 : Jvm.Cond.selects "CallMelt$Machine" ({ cls := "CallMelt$Machine", name := "isSpent", desc := "()Z" } : Jvm.MethodName) ({ cls := "CallMelt$Machine", name := "isSpent", desc := "()Z" } : Jvm.MethodName) ∈ lw_u := lw_in wt_600 rfl
theorem wt_601 : Jvm.Cond.code ({ cls := "CallMelt$Machine", name := "isSpent", desc := "()Z" } : Jvm.MethodName) prog_4_method_2_code (1 : Nat) (Option.some Jvm.ClassFile.FieldType.boolean) ∈ lw_tbl := List.mem_of_getElem? (i := 601) (by decide +kernel)
theorem wg_601 : Jvm.Cond.code ({ cls := "CallMelt$Machine", name := "isSpent", desc := "()Z" } : Jvm.MethodName) prog_4_method_2_code (1 : Nat) (Option.some Jvm.ClassFile.FieldType.boolean) ∈ lw_g := List.mem_filter.mpr ⟨wt_601, rfl⟩
theorem wd_601 : Jvm.Cond.code ({ cls := "CallMelt$Machine", name := "isSpent", desc := "()Z" } : Jvm.MethodName) prog_4_method_2_code (1 : Nat) (Option.some Jvm.ClassFile.FieldType.boolean) ∈ lw_u := lw_in wt_601 rfl
theorem wt_602 : Jvm.Cond.constant "CallMelt$Machine" (44 : Nat) (60000 : Int32) ∈ lw_tbl := List.mem_of_getElem? (i := 602) (by decide +kernel)
theorem wd_602 : Jvm.Cond.constant "CallMelt$Machine" (44 : Nat) (60000 : Int32) ∈ lw_u := lw_in wt_602 rfl
theorem wt_603 : Jvm.Cond.methodLink "CallMelt" (143 : Nat) ({ cls := "CallMelt$Machine", name := "start", desc := "(IIIII)I" } : Jvm.MethodName) ∈ lw_tbl := List.mem_of_getElem? (i := 603) (by decide +kernel)
theorem wd_603 : Jvm.Cond.methodLink "CallMelt" (143 : Nat) ({ cls := "CallMelt$Machine", name := "start", desc := "(IIIII)I" } : Jvm.MethodName) ∈ lw_u := lw_in wt_603 rfl
theorem wt_604 : Jvm.Cond.instanceMethod ({ cls := "CallMelt$Machine", name := "start", desc := "(IIIII)I" } : Jvm.MethodName) ∈ lw_tbl := List.mem_of_getElem? (i := 604) (by decide +kernel)
theorem wd_604 : Jvm.Cond.instanceMethod ({ cls := "CallMelt$Machine", name := "start", desc := "(IIIII)I" } : Jvm.MethodName) ∈ lw_u := lw_in wt_604 rfl
theorem wt_605 : Jvm.Cond.selects "CallMelt$Machine" ({ cls := "CallMelt$Machine", name := "start", desc := "(IIIII)I" } : Jvm.MethodName) ({ cls := "CallMelt$Machine", name := "start", desc := "(IIIII)I" } : Jvm.MethodName) ∈ lw_tbl := List.mem_of_getElem? (i := 605) (by decide +kernel)
theorem wd_605 : Jvm.Cond.selects "CallMelt$Machine" ({ cls := "CallMelt$Machine", name := "start", desc := "(IIIII)I" } : Jvm.MethodName) ({ cls := "CallMelt$Machine", name := "start", desc := "(IIIII)I" } : Jvm.MethodName) ∈ lw_u := lw_in wt_605 rfl
theorem wt_606 : Jvm.Cond.code ({ cls := "CallMelt$Machine", name := "start", desc := "(IIIII)I" } : Jvm.MethodName) prog_4_method_9_code (8 : Nat) (Option.some Jvm.ClassFile.FieldType.int) ∈ lw_tbl := List.mem_of_getElem? (i := 606) (by decide +kernel)
theorem wg_606 : Jvm.Cond.code ({ cls := "CallMelt$Machine", name := "start", desc := "(IIIII)I" } : Jvm.MethodName) prog_4_method_9_code (8 : Nat) (Option.some Jvm.ClassFile.FieldType.int) ∈ lw_g := List.mem_filter.mpr ⟨wt_606, rfl⟩
theorem wd_606 : Jvm.Cond.code ({ cls := "CallMelt$Machine", name := "start", desc := "(IIIII)I" } : Jvm.MethodName) prog_4_method_9_code (8 : Nat) (Option.some Jvm.ClassFile.FieldType.int) ∈ lw_u := lw_in wt_606 rfl
theorem wt_607 : Jvm.Cond.methodLink "CallMelt$Machine" (79 : Nat) ({ cls := "CallMelt$Code", name := "usesOf", desc := "(I)I" } : Jvm.MethodName) ∈ lw_tbl := List.mem_of_getElem? (i := 607) (by decide +kernel)
theorem wd_607 : Jvm.Cond.methodLink "CallMelt$Machine" (79 : Nat) ({ cls := "CallMelt$Code", name := "usesOf", desc := "(I)I" } : Jvm.MethodName) ∈ lw_u := lw_in wt_607 rfl
theorem wt_608 : Jvm.Cond.methodLink "CallMelt$Machine" (84 : Nat) ({ cls := "CallMelt$Code", name := "isMissing", desc := "(I)Z" } : Jvm.MethodName) ∈ lw_tbl := List.mem_of_getElem? (i := 608) (by decide +kernel)
theorem wd_608 : Jvm.Cond.methodLink "CallMelt$Machine" (84 : Nat) ({ cls := "CallMelt$Code", name := "isMissing", desc := "(I)Z" } : Jvm.MethodName) ∈ lw_u := lw_in wt_608 rfl
theorem wt_609 : Jvm.Cond.instanceMethod ({ cls := "CallMelt$Code", name := "isMissing", desc := "(I)Z" } : Jvm.MethodName) ∈ lw_tbl := List.mem_of_getElem? (i := 609) (by decide +kernel)
theorem wd_609 : Jvm.Cond.instanceMethod ({ cls := "CallMelt$Code", name := "isMissing", desc := "(I)Z" } : Jvm.MethodName) ∈ lw_u := lw_in wt_609 rfl
theorem wt_610 : Jvm.Cond.selects "CallMelt$Code" ({ cls := "CallMelt$Code", name := "isMissing", desc := "(I)Z" } : Jvm.MethodName) ({ cls := "CallMelt$Code", name := "isMissing", desc := "(I)Z" } : Jvm.MethodName) ∈ lw_tbl := List.mem_of_getElem? (i := 610) (by decide +kernel)
theorem wd_610 : Jvm.Cond.selects "CallMelt$Code" ({ cls := "CallMelt$Code", name := "isMissing", desc := "(I)Z" } : Jvm.MethodName) ({ cls := "CallMelt$Code", name := "isMissing", desc := "(I)Z" } : Jvm.MethodName) ∈ lw_u := lw_in wt_610 rfl
theorem wt_611 : Jvm.Cond.code ({ cls := "CallMelt$Code", name := "isMissing", desc := "(I)Z" } : Jvm.MethodName) prog_3_method_6_code (2 : Nat) (Option.some Jvm.ClassFile.FieldType.boolean) ∈ lw_tbl := List.mem_of_getElem? (i := 611) (by decide +kernel)
theorem wg_611 : Jvm.Cond.code ({ cls := "CallMelt$Code", name := "isMissing", desc := "(I)Z" } : Jvm.MethodName) prog_3_method_6_code (2 : Nat) (Option.some Jvm.ClassFile.FieldType.boolean) ∈ lw_g := List.mem_filter.mpr ⟨wt_611, rfl⟩
theorem wd_611 : Jvm.Cond.code ({ cls := "CallMelt$Code", name := "isMissing", desc := "(I)Z" } : Jvm.MethodName) prog_3_method_6_code (2 : Nat) (Option.some Jvm.ClassFile.FieldType.boolean) ∈ lw_u := lw_in wt_611 rfl
theorem wt_612 : Jvm.Cond.methodLink "CallMelt$Machine" (88 : Nat) ({ cls := "CallMelt$Machine", name := "refuse", desc := "(II)V" } : Jvm.MethodName) ∈ lw_tbl := List.mem_of_getElem? (i := 612) (by decide +kernel)
theorem wd_612 : Jvm.Cond.methodLink "CallMelt$Machine" (88 : Nat) ({ cls := "CallMelt$Machine", name := "refuse", desc := "(II)V" } : Jvm.MethodName) ∈ lw_u := lw_in wt_612 rfl
theorem wt_614 : Jvm.Cond.instanceMethod ({ cls := "CallMelt$Machine", name := "refuse", desc := "(II)V" } : Jvm.MethodName) ∈ lw_tbl := List.mem_of_getElem? (i := 614) (by decide +kernel)
theorem wd_614 : Jvm.Cond.instanceMethod ({ cls := "CallMelt$Machine", name := "refuse", desc := "(II)V" } : Jvm.MethodName) ∈ lw_u := lw_in wt_614 rfl
theorem wt_615 : Jvm.Cond.code ({ cls := "CallMelt$Machine", name := "refuse", desc := "(II)V" } : Jvm.MethodName) prog_4_method_10_code (3 : Nat) (Option.none : Option Jvm.ClassFile.FieldType) ∈ lw_tbl := List.mem_of_getElem? (i := 615) (by decide +kernel)
theorem wg_615 : Jvm.Cond.code ({ cls := "CallMelt$Machine", name := "refuse", desc := "(II)V" } : Jvm.MethodName) prog_4_method_10_code (3 : Nat) (Option.none : Option Jvm.ClassFile.FieldType) ∈ lw_g := List.mem_filter.mpr ⟨wt_615, rfl⟩
theorem wd_615 : Jvm.Cond.code ({ cls := "CallMelt$Machine", name := "refuse", desc := "(II)V" } : Jvm.MethodName) prog_4_method_10_code (3 : Nat) (Option.none : Option Jvm.ClassFile.FieldType) ∈ lw_u := lw_in wt_615 rfl
theorem wt_616 : Jvm.Cond.methodLink "CallMelt$Machine" (92 : Nat) ({ cls := "CallMelt$Code", name := "paramsOf", desc := "(I)I" } : Jvm.MethodName) ∈ lw_tbl := List.mem_of_getElem? (i := 616) (by decide +kernel)
theorem wd_616 : Jvm.Cond.methodLink "CallMelt$Machine" (92 : Nat) ({ cls := "CallMelt$Code", name := "paramsOf", desc := "(I)I" } : Jvm.MethodName) ∈ lw_u := lw_in wt_616 rfl
theorem wt_617 : Jvm.Cond.methodLink "CallMelt$Machine" (95 : Nat) ({ cls := "CallMelt$Machine", name := "openCall", desc := "(IIIII)V" } : Jvm.MethodName) ∈ lw_tbl := List.mem_of_getElem? (i := 617) (by decide +kernel)
theorem wd_617 : Jvm.Cond.methodLink "CallMelt$Machine" (95 : Nat) ({ cls := "CallMelt$Machine", name := "openCall", desc := "(IIIII)V" } : Jvm.MethodName) ∈ lw_u := lw_in wt_617 rfl
theorem wt_619 : Jvm.Cond.instanceMethod ({ cls := "CallMelt$Machine", name := "openCall", desc := "(IIIII)V" } : Jvm.MethodName) ∈ lw_tbl := List.mem_of_getElem? (i := 619) (by decide +kernel)
theorem wd_619 : Jvm.Cond.instanceMethod ({ cls := "CallMelt$Machine", name := "openCall", desc := "(IIIII)V" } : Jvm.MethodName) ∈ lw_u := lw_in wt_619 rfl
theorem wt_620 : Jvm.Cond.code ({ cls := "CallMelt$Machine", name := "openCall", desc := "(IIIII)V" } : Jvm.MethodName) prog_4_method_23_code (6 : Nat) (Option.none : Option Jvm.ClassFile.FieldType) ∈ lw_tbl := List.mem_of_getElem? (i := 620) (by decide +kernel)
theorem wg_620 : Jvm.Cond.code ({ cls := "CallMelt$Machine", name := "openCall", desc := "(IIIII)V" } : Jvm.MethodName) prog_4_method_23_code (6 : Nat) (Option.none : Option Jvm.ClassFile.FieldType) ∈ lw_g := List.mem_filter.mpr ⟨wt_620, rfl⟩
theorem wd_620 : Jvm.Cond.code ({ cls := "CallMelt$Machine", name := "openCall", desc := "(IIIII)V" } : Jvm.MethodName) prog_4_method_23_code (6 : Nat) (Option.none : Option Jvm.ClassFile.FieldType) ∈ lw_u := lw_in wt_620 rfl
theorem wt_621 : Jvm.Cond.methodLink "CallMelt$Machine" (164 : Nat) ({ cls := "java/util/Arrays", name := "fill", desc := "([IIII)V" } : Jvm.MethodName) ∈ lw_tbl := List.mem_of_getElem? (i := 621) (by decide +kernel)
theorem wd_621 : Jvm.Cond.methodLink "CallMelt$Machine" (164 : Nat) ({ cls := "java/util/Arrays", name := "fill", desc := "([IIII)V" } : Jvm.MethodName) ∈ lw_u := lw_in wt_621 rfl
theorem wt_622 : Jvm.Cond.static ({ cls := "java/util/Arrays", name := "fill", desc := "([IIII)V" } : Jvm.MethodName) ∈ lw_tbl := List.mem_of_getElem? (i := 622) (by decide +kernel)
theorem wd_622 : Jvm.Cond.static ({ cls := "java/util/Arrays", name := "fill", desc := "([IIII)V" } : Jvm.MethodName) ∈ lw_u := lw_in wt_622 rfl
theorem wt_623 : Jvm.Cond.code ({ cls := "java/util/Arrays", name := "fill", desc := "([IIII)V" } : Jvm.MethodName) prog_14_method_104_code (5 : Nat) (Option.none : Option Jvm.ClassFile.FieldType) ∈ lw_tbl := List.mem_of_getElem? (i := 623) (by decide +kernel)
theorem wg_623 : Jvm.Cond.code ({ cls := "java/util/Arrays", name := "fill", desc := "([IIII)V" } : Jvm.MethodName) prog_14_method_104_code (5 : Nat) (Option.none : Option Jvm.ClassFile.FieldType) ∈ lw_g := List.mem_filter.mpr ⟨wt_623, rfl⟩
theorem wd_623 : Jvm.Cond.code ({ cls := "java/util/Arrays", name := "fill", desc := "([IIII)V" } : Jvm.MethodName) prog_14_method_104_code (5 : Nat) (Option.none : Option Jvm.ClassFile.FieldType) ∈ lw_u := lw_in wt_623 rfl
theorem wt_624 : Jvm.Cond.methodLink "java/util/Arrays" (13 : Nat) ({ cls := "java/util/Arrays", name := "rangeCheck", desc := "(III)V" } : Jvm.MethodName) ∈ lw_tbl := List.mem_of_getElem? (i := 624) (by decide +kernel)
theorem wd_624 : Jvm.Cond.methodLink "java/util/Arrays" (13 : Nat) ({ cls := "java/util/Arrays", name := "rangeCheck", desc := "(III)V" } : Jvm.MethodName) ∈ lw_u := lw_in wt_624 rfl
theorem wt_625 : Jvm.Cond.static ({ cls := "java/util/Arrays", name := "rangeCheck", desc := "(III)V" } : Jvm.MethodName) ∈ lw_tbl := List.mem_of_getElem? (i := 625) (by decide +kernel)
theorem wd_625 : Jvm.Cond.static ({ cls := "java/util/Arrays", name := "rangeCheck", desc := "(III)V" } : Jvm.MethodName) ∈ lw_u := lw_in wt_625 rfl
theorem wt_626 : Jvm.Cond.code ({ cls := "java/util/Arrays", name := "rangeCheck", desc := "(III)V" } : Jvm.MethodName) prog_14_method_30_code (3 : Nat) (Option.none : Option Jvm.ClassFile.FieldType) ∈ lw_tbl := List.mem_of_getElem? (i := 626) (by decide +kernel)
theorem wg_626 : Jvm.Cond.code ({ cls := "java/util/Arrays", name := "rangeCheck", desc := "(III)V" } : Jvm.MethodName) prog_14_method_30_code (3 : Nat) (Option.none : Option Jvm.ClassFile.FieldType) ∈ lw_g := List.mem_filter.mpr ⟨wt_626, rfl⟩
theorem wd_626 : Jvm.Cond.code ({ cls := "java/util/Arrays", name := "rangeCheck", desc := "(III)V" } : Jvm.MethodName) prog_14_method_30_code (3 : Nat) (Option.none : Option Jvm.ClassFile.FieldType) ∈ lw_u := lw_in wt_626 rfl
theorem wt_627 : Jvm.Cond.methodLink "CallMelt$Machine" (167 : Nat) ({ cls := "java/lang/Math", name := "max", desc := "(II)I" } : Jvm.MethodName) ∈ lw_tbl := List.mem_of_getElem? (i := 627) (by decide +kernel)
theorem wd_627 : Jvm.Cond.methodLink "CallMelt$Machine" (167 : Nat) ({ cls := "java/lang/Math", name := "max", desc := "(II)I" } : Jvm.MethodName) ∈ lw_u := lw_in wt_627 rfl
theorem wt_628 : Jvm.Cond.methodLink "CallMelt$Machine" (170 : Nat) ({ cls := "CallMelt$Machine", name := "writeName", desc := "(II)V" } : Jvm.MethodName) ∈ lw_tbl := List.mem_of_getElem? (i := 628) (by decide +kernel)
theorem wd_628 : Jvm.Cond.methodLink "CallMelt$Machine" (170 : Nat) ({ cls := "CallMelt$Machine", name := "writeName", desc := "(II)V" } : Jvm.MethodName) ∈ lw_u := lw_in wt_628 rfl
theorem wt_630 : Jvm.Cond.instanceMethod ({ cls := "CallMelt$Machine", name := "writeName", desc := "(II)V" } : Jvm.MethodName) ∈ lw_tbl := List.mem_of_getElem? (i := 630) (by decide +kernel)
theorem wd_630 : Jvm.Cond.instanceMethod ({ cls := "CallMelt$Machine", name := "writeName", desc := "(II)V" } : Jvm.MethodName) ∈ lw_u := lw_in wt_630 rfl
theorem wt_631 : Jvm.Cond.code ({ cls := "CallMelt$Machine", name := "writeName", desc := "(II)V" } : Jvm.MethodName) prog_4_method_17_code (3 : Nat) (Option.none : Option Jvm.ClassFile.FieldType) ∈ lw_tbl := List.mem_of_getElem? (i := 631) (by decide +kernel)
theorem wg_631 : Jvm.Cond.code ({ cls := "CallMelt$Machine", name := "writeName", desc := "(II)V" } : Jvm.MethodName) prog_4_method_17_code (3 : Nat) (Option.none : Option Jvm.ClassFile.FieldType) ∈ lw_g := List.mem_filter.mpr ⟨wt_631, rfl⟩
theorem wd_631 : Jvm.Cond.code ({ cls := "CallMelt$Machine", name := "writeName", desc := "(II)V" } : Jvm.MethodName) prog_4_method_17_code (3 : Nat) (Option.none : Option Jvm.ClassFile.FieldType) ∈ lw_u := lw_in wt_631 rfl
theorem wt_632 : Jvm.Cond.methodLink "CallMelt$Machine" (99 : Nat) ({ cls := "CallMelt$Code", name := "bodyOf", desc := "(I)I" } : Jvm.MethodName) ∈ lw_tbl := List.mem_of_getElem? (i := 632) (by decide +kernel)
theorem wd_632 : Jvm.Cond.methodLink "CallMelt$Machine" (99 : Nat) ({ cls := "CallMelt$Code", name := "bodyOf", desc := "(I)I" } : Jvm.MethodName) ∈ lw_u := lw_in wt_632 rfl
theorem wt_633 : Jvm.Cond.methodLink "CallMelt$Machine" (102 : Nat) ({ cls := "CallMelt$Machine", name := "begin", desc := "(I)V" } : Jvm.MethodName) ∈ lw_tbl := List.mem_of_getElem? (i := 633) (by decide +kernel)
theorem wd_633 : Jvm.Cond.methodLink "CallMelt$Machine" (102 : Nat) ({ cls := "CallMelt$Machine", name := "begin", desc := "(I)V" } : Jvm.MethodName) ∈ lw_u := lw_in wt_633 rfl
theorem wt_635 : Jvm.Cond.instanceMethod ({ cls := "CallMelt$Machine", name := "begin", desc := "(I)V" } : Jvm.MethodName) ∈ lw_tbl := List.mem_of_getElem? (i := 635) (by decide +kernel)
theorem wd_635 : Jvm.Cond.instanceMethod ({ cls := "CallMelt$Machine", name := "begin", desc := "(I)V" } : Jvm.MethodName) ∈ lw_u := lw_in wt_635 rfl
theorem wt_636 : Jvm.Cond.code ({ cls := "CallMelt$Machine", name := "begin", desc := "(I)V" } : Jvm.MethodName) prog_4_method_13_code (4 : Nat) (Option.none : Option Jvm.ClassFile.FieldType) ∈ lw_tbl := List.mem_of_getElem? (i := 636) (by decide +kernel)
theorem wg_636 : Jvm.Cond.code ({ cls := "CallMelt$Machine", name := "begin", desc := "(I)V" } : Jvm.MethodName) prog_4_method_13_code (4 : Nat) (Option.none : Option Jvm.ClassFile.FieldType) ∈ lw_g := List.mem_filter.mpr ⟨wt_636, rfl⟩
theorem wd_636 : Jvm.Cond.code ({ cls := "CallMelt$Machine", name := "begin", desc := "(I)V" } : Jvm.MethodName) prog_4_method_13_code (4 : Nat) (Option.none : Option Jvm.ClassFile.FieldType) ∈ lw_u := lw_in wt_636 rfl
theorem wt_637 : Jvm.Cond.methodLink "CallMelt$Machine" (110 : Nat) ({ cls := "CallMelt$Code", name := "kindOf", desc := "(I)I" } : Jvm.MethodName) ∈ lw_tbl := List.mem_of_getElem? (i := 637) (by decide +kernel)
theorem wd_637 : Jvm.Cond.methodLink "CallMelt$Machine" (110 : Nat) ({ cls := "CallMelt$Code", name := "kindOf", desc := "(I)I" } : Jvm.MethodName) ∈ lw_u := lw_in wt_637 rfl
theorem wt_638 : Jvm.Cond.fieldLinkNest "CallMelt$Machine" (113 : Nat) "CallMelt" "COST_OF_KIND" "[I" "CallMelt" ∈ lw_tbl := List.mem_of_getElem? (i := 638) (by decide +kernel)
theorem wd_638 : Jvm.Cond.fieldLinkNest "CallMelt$Machine" (113 : Nat) "CallMelt" "COST_OF_KIND" "[I" "CallMelt" ∈ lw_u := lw_inN wt_638 rfl
theorem wt_640 : Jvm.Cond.methodLink "CallMelt$Machine" (116 : Nat) ({ cls := "CallMelt$Machine", name := "pay", desc := "(II)Z" } : Jvm.MethodName) ∈ lw_tbl := List.mem_of_getElem? (i := 640) (by decide +kernel)
theorem wd_640 : Jvm.Cond.methodLink "CallMelt$Machine" (116 : Nat) ({ cls := "CallMelt$Machine", name := "pay", desc := "(II)Z" } : Jvm.MethodName) ∈ lw_u := lw_in wt_640 rfl
theorem wt_642 : Jvm.Cond.instanceMethod ({ cls := "CallMelt$Machine", name := "pay", desc := "(II)Z" } : Jvm.MethodName) ∈ lw_tbl := List.mem_of_getElem? (i := 642) (by decide +kernel)
theorem wd_642 : Jvm.Cond.instanceMethod ({ cls := "CallMelt$Machine", name := "pay", desc := "(II)Z" } : Jvm.MethodName) ∈ lw_u := lw_in wt_642 rfl
theorem wt_643 : Jvm.Cond.code ({ cls := "CallMelt$Machine", name := "pay", desc := "(II)Z" } : Jvm.MethodName) prog_4_method_11_code (3 : Nat) (Option.some Jvm.ClassFile.FieldType.boolean) ∈ lw_tbl := List.mem_of_getElem? (i := 643) (by decide +kernel)
theorem wg_643 : Jvm.Cond.code ({ cls := "CallMelt$Machine", name := "pay", desc := "(II)Z" } : Jvm.MethodName) prog_4_method_11_code (3 : Nat) (Option.some Jvm.ClassFile.FieldType.boolean) ∈ lw_g := List.mem_filter.mpr ⟨wt_643, rfl⟩
theorem wd_643 : Jvm.Cond.code ({ cls := "CallMelt$Machine", name := "pay", desc := "(II)Z" } : Jvm.MethodName) prog_4_method_11_code (3 : Nat) (Option.some Jvm.ClassFile.FieldType.boolean) ∈ lw_u := lw_in wt_643 rfl
theorem wt_644 : Jvm.Cond.methodLink "CallMelt$Machine" (120 : Nat) ({ cls := "CallMelt$Machine", name := "countOne", desc := "(I)V" } : Jvm.MethodName) ∈ lw_tbl := List.mem_of_getElem? (i := 644) (by decide +kernel)
theorem wd_644 : Jvm.Cond.methodLink "CallMelt$Machine" (120 : Nat) ({ cls := "CallMelt$Machine", name := "countOne", desc := "(I)V" } : Jvm.MethodName) ∈ lw_u := lw_in wt_644 rfl
theorem wt_646 : Jvm.Cond.instanceMethod ({ cls := "CallMelt$Machine", name := "countOne", desc := "(I)V" } : Jvm.MethodName) ∈ lw_tbl := List.mem_of_getElem? (i := 646) (by decide +kernel)
theorem wd_646 : Jvm.Cond.instanceMethod ({ cls := "CallMelt$Machine", name := "countOne", desc := "(I)V" } : Jvm.MethodName) ∈ lw_u := lw_in wt_646 rfl
theorem wt_647 : Jvm.Cond.code ({ cls := "CallMelt$Machine", name := "countOne", desc := "(I)V" } : Jvm.MethodName) prog_4_method_12_code (2 : Nat) (Option.none : Option Jvm.ClassFile.FieldType) ∈ lw_tbl := List.mem_of_getElem? (i := 647) (by decide +kernel)
theorem wg_647 : Jvm.Cond.code ({ cls := "CallMelt$Machine", name := "countOne", desc := "(I)V" } : Jvm.MethodName) prog_4_method_12_code (2 : Nat) (Option.none : Option Jvm.ClassFile.FieldType) ∈ lw_g := List.mem_filter.mpr ⟨wt_647, rfl⟩
theorem wd_647 : Jvm.Cond.code ({ cls := "CallMelt$Machine", name := "countOne", desc := "(I)V" } : Jvm.MethodName) prog_4_method_12_code (2 : Nat) (Option.none : Option Jvm.ClassFile.FieldType) ∈ lw_u := lw_in wt_647 rfl
theorem wt_648 : Jvm.Cond.methodLink "CallMelt$Machine" (123 : Nat) ({ cls := "CallMelt$Code", name := "numberOf", desc := "(I)I" } : Jvm.MethodName) ∈ lw_tbl := List.mem_of_getElem? (i := 648) (by decide +kernel)
theorem wd_648 : Jvm.Cond.methodLink "CallMelt$Machine" (123 : Nat) ({ cls := "CallMelt$Code", name := "numberOf", desc := "(I)I" } : Jvm.MethodName) ∈ lw_u := lw_in wt_648 rfl
theorem wt_649 : Jvm.Cond.methodLink "CallMelt$Machine" (126 : Nat) ({ cls := "CallMelt$Machine", name := "deliver", desc := "(I)V" } : Jvm.MethodName) ∈ lw_tbl := List.mem_of_getElem? (i := 649) (by decide +kernel)
theorem wd_649 : Jvm.Cond.methodLink "CallMelt$Machine" (126 : Nat) ({ cls := "CallMelt$Machine", name := "deliver", desc := "(I)V" } : Jvm.MethodName) ∈ lw_u := lw_in wt_649 rfl
theorem wt_651 : Jvm.Cond.instanceMethod ({ cls := "CallMelt$Machine", name := "deliver", desc := "(I)V" } : Jvm.MethodName) ∈ lw_tbl := List.mem_of_getElem? (i := 651) (by decide +kernel)
theorem wd_651 : Jvm.Cond.instanceMethod ({ cls := "CallMelt$Machine", name := "deliver", desc := "(I)V" } : Jvm.MethodName) ∈ lw_u := lw_in wt_651 rfl
theorem wt_652 : Jvm.Cond.code ({ cls := "CallMelt$Machine", name := "deliver", desc := "(I)V" } : Jvm.MethodName) prog_4_method_14_code (3 : Nat) (Option.none : Option Jvm.ClassFile.FieldType) ∈ lw_tbl := List.mem_of_getElem? (i := 652) (by decide +kernel)
theorem wg_652 : Jvm.Cond.code ({ cls := "CallMelt$Machine", name := "deliver", desc := "(I)V" } : Jvm.MethodName) prog_4_method_14_code (3 : Nat) (Option.none : Option Jvm.ClassFile.FieldType) ∈ lw_g := List.mem_filter.mpr ⟨wt_652, rfl⟩
theorem wd_652 : Jvm.Cond.code ({ cls := "CallMelt$Machine", name := "deliver", desc := "(I)V" } : Jvm.MethodName) prog_4_method_14_code (3 : Nat) (Option.none : Option Jvm.ClassFile.FieldType) ∈ lw_u := lw_in wt_652 rfl
theorem wt_653 : Jvm.Cond.methodLink "CallMelt$Machine" (129 : Nat) ({ cls := "CallMelt$Machine", name := "readName", desc := "(I)I" } : Jvm.MethodName) ∈ lw_tbl := List.mem_of_getElem? (i := 653) (by decide +kernel)
theorem wd_653 : Jvm.Cond.methodLink "CallMelt$Machine" (129 : Nat) ({ cls := "CallMelt$Machine", name := "readName", desc := "(I)I" } : Jvm.MethodName) ∈ lw_u := lw_in wt_653 rfl
theorem wt_655 : Jvm.Cond.instanceMethod ({ cls := "CallMelt$Machine", name := "readName", desc := "(I)I" } : Jvm.MethodName) ∈ lw_tbl := List.mem_of_getElem? (i := 655) (by decide +kernel)
theorem wd_655 : Jvm.Cond.instanceMethod ({ cls := "CallMelt$Machine", name := "readName", desc := "(I)I" } : Jvm.MethodName) ∈ lw_u := lw_in wt_655 rfl
theorem wt_656 : Jvm.Cond.code ({ cls := "CallMelt$Machine", name := "readName", desc := "(I)I" } : Jvm.MethodName) prog_4_method_16_code (2 : Nat) (Option.some Jvm.ClassFile.FieldType.int) ∈ lw_tbl := List.mem_of_getElem? (i := 656) (by decide +kernel)
theorem wg_656 : Jvm.Cond.code ({ cls := "CallMelt$Machine", name := "readName", desc := "(I)I" } : Jvm.MethodName) prog_4_method_16_code (2 : Nat) (Option.some Jvm.ClassFile.FieldType.int) ∈ lw_g := List.mem_filter.mpr ⟨wt_656, rfl⟩
theorem wd_656 : Jvm.Cond.code ({ cls := "CallMelt$Machine", name := "readName", desc := "(I)I" } : Jvm.MethodName) prog_4_method_16_code (2 : Nat) (Option.some Jvm.ClassFile.FieldType.int) ∈ lw_u := lw_in wt_656 rfl
theorem wt_657 : Jvm.Cond.constant "CallMelt$Machine" (106 : Nat) (10000000 : Int32) ∈ lw_tbl := List.mem_of_getElem? (i := 657) (by decide +kernel)
theorem wd_657 : Jvm.Cond.constant "CallMelt$Machine" (106 : Nat) (10000000 : Int32) ∈ lw_u := lw_in wt_657 rfl
theorem wt_658 : Jvm.Cond.methodLink "CallMelt$Machine" (107 : Nat) ({ cls := "CallMelt$Machine", name := "advance", desc := "(I)I" } : Jvm.MethodName) ∈ lw_tbl := List.mem_of_getElem? (i := 658) (by decide +kernel)
theorem wd_658 : Jvm.Cond.methodLink "CallMelt$Machine" (107 : Nat) ({ cls := "CallMelt$Machine", name := "advance", desc := "(I)I" } : Jvm.MethodName) ∈ lw_u := lw_in wt_658 rfl
theorem wt_660 : Jvm.Cond.instanceMethod ({ cls := "CallMelt$Machine", name := "advance", desc := "(I)I" } : Jvm.MethodName) ∈ lw_tbl := List.mem_of_getElem? (i := 660) (by decide +kernel)
theorem wd_660 : Jvm.Cond.instanceMethod ({ cls := "CallMelt$Machine", name := "advance", desc := "(I)I" } : Jvm.MethodName) ∈ lw_u := lw_in wt_660 rfl
theorem wt_661 : Jvm.Cond.code ({ cls := "CallMelt$Machine", name := "advance", desc := "(I)I" } : Jvm.MethodName) prog_4_method_18_code (5 : Nat) (Option.some Jvm.ClassFile.FieldType.int) ∈ lw_tbl := List.mem_of_getElem? (i := 661) (by decide +kernel)
theorem wg_661 : Jvm.Cond.code ({ cls := "CallMelt$Machine", name := "advance", desc := "(I)I" } : Jvm.MethodName) prog_4_method_18_code (5 : Nat) (Option.some Jvm.ClassFile.FieldType.int) ∈ lw_g := List.mem_filter.mpr ⟨wt_661, rfl⟩
theorem wd_661 : Jvm.Cond.code ({ cls := "CallMelt$Machine", name := "advance", desc := "(I)I" } : Jvm.MethodName) prog_4_method_18_code (5 : Nat) (Option.some Jvm.ClassFile.FieldType.int) ∈ lw_u := lw_in wt_661 rfl
theorem wt_662 : Jvm.Cond.fieldLinkNest "CallMelt$Machine" (132 : Nat) "CallMelt" "PARTS_OF_KIND" "[I" "CallMelt" ∈ lw_tbl := List.mem_of_getElem? (i := 662) (by decide +kernel)
theorem wd_662 : Jvm.Cond.fieldLinkNest "CallMelt$Machine" (132 : Nat) "CallMelt" "PARTS_OF_KIND" "[I" "CallMelt" ∈ lw_u := lw_inN wt_662 rfl
theorem wt_664 : Jvm.Cond.methodLink "CallMelt$Machine" (135 : Nat) ({ cls := "CallMelt$Machine", name := "advancePick", desc := "(II)I" } : Jvm.MethodName) ∈ lw_tbl := List.mem_of_getElem? (i := 664) (by decide +kernel)
theorem wd_664 : Jvm.Cond.methodLink "CallMelt$Machine" (135 : Nat) ({ cls := "CallMelt$Machine", name := "advancePick", desc := "(II)I" } : Jvm.MethodName) ∈ lw_u := lw_in wt_664 rfl
theorem wt_666 : Jvm.Cond.instanceMethod ({ cls := "CallMelt$Machine", name := "advancePick", desc := "(II)I" } : Jvm.MethodName) ∈ lw_tbl := List.mem_of_getElem? (i := 666) (by decide +kernel)
theorem wd_666 : Jvm.Cond.instanceMethod ({ cls := "CallMelt$Machine", name := "advancePick", desc := "(II)I" } : Jvm.MethodName) ∈ lw_u := lw_in wt_666 rfl
theorem wt_667 : Jvm.Cond.code ({ cls := "CallMelt$Machine", name := "advancePick", desc := "(II)I" } : Jvm.MethodName) prog_4_method_19_code (3 : Nat) (Option.some Jvm.ClassFile.FieldType.int) ∈ lw_tbl := List.mem_of_getElem? (i := 667) (by decide +kernel)
theorem wg_667 : Jvm.Cond.code ({ cls := "CallMelt$Machine", name := "advancePick", desc := "(II)I" } : Jvm.MethodName) prog_4_method_19_code (3 : Nat) (Option.some Jvm.ClassFile.FieldType.int) ∈ lw_g := List.mem_filter.mpr ⟨wt_667, rfl⟩
theorem wd_667 : Jvm.Cond.code ({ cls := "CallMelt$Machine", name := "advancePick", desc := "(II)I" } : Jvm.MethodName) prog_4_method_19_code (3 : Nat) (Option.some Jvm.ClassFile.FieldType.int) ∈ lw_u := lw_in wt_667 rfl
theorem wt_668 : Jvm.Cond.methodLink "CallMelt$Machine" (145 : Nat) ({ cls := "CallMelt$Code", name := "partOf", desc := "(II)I" } : Jvm.MethodName) ∈ lw_tbl := List.mem_of_getElem? (i := 668) (by decide +kernel)
theorem wd_668 : Jvm.Cond.methodLink "CallMelt$Machine" (145 : Nat) ({ cls := "CallMelt$Code", name := "partOf", desc := "(II)I" } : Jvm.MethodName) ∈ lw_u := lw_in wt_668 rfl
theorem wt_669 : Jvm.Cond.methodLink "CallMelt$Machine" (152 : Nat) ({ cls := "CallMelt$Machine", name := "finish", desc := "(I)V" } : Jvm.MethodName) ∈ lw_tbl := List.mem_of_getElem? (i := 669) (by decide +kernel)
theorem wd_669 : Jvm.Cond.methodLink "CallMelt$Machine" (152 : Nat) ({ cls := "CallMelt$Machine", name := "finish", desc := "(I)V" } : Jvm.MethodName) ∈ lw_u := lw_in wt_669 rfl
theorem wt_671 : Jvm.Cond.instanceMethod ({ cls := "CallMelt$Machine", name := "finish", desc := "(I)V" } : Jvm.MethodName) ∈ lw_tbl := List.mem_of_getElem? (i := 671) (by decide +kernel)
theorem wd_671 : Jvm.Cond.instanceMethod ({ cls := "CallMelt$Machine", name := "finish", desc := "(I)V" } : Jvm.MethodName) ∈ lw_u := lw_in wt_671 rfl
theorem wt_672 : Jvm.Cond.code ({ cls := "CallMelt$Machine", name := "finish", desc := "(I)V" } : Jvm.MethodName) prog_4_method_15_code (2 : Nat) (Option.none : Option Jvm.ClassFile.FieldType) ∈ lw_tbl := List.mem_of_getElem? (i := 672) (by decide +kernel)
theorem wg_672 : Jvm.Cond.code ({ cls := "CallMelt$Machine", name := "finish", desc := "(I)V" } : Jvm.MethodName) prog_4_method_15_code (2 : Nat) (Option.none : Option Jvm.ClassFile.FieldType) ∈ lw_g := List.mem_filter.mpr ⟨wt_672, rfl⟩
theorem wd_672 : Jvm.Cond.code ({ cls := "CallMelt$Machine", name := "finish", desc := "(I)V" } : Jvm.MethodName) prog_4_method_15_code (2 : Nat) (Option.none : Option Jvm.ClassFile.FieldType) ∈ lw_u := lw_in wt_672 rfl
theorem wt_673 : Jvm.Cond.methodLink "CallMelt$Machine" (139 : Nat) ({ cls := "CallMelt$Machine", name := "advanceWhile", desc := "(II)I" } : Jvm.MethodName) ∈ lw_tbl := List.mem_of_getElem? (i := 673) (by decide +kernel)
theorem wd_673 : Jvm.Cond.methodLink "CallMelt$Machine" (139 : Nat) ({ cls := "CallMelt$Machine", name := "advanceWhile", desc := "(II)I" } : Jvm.MethodName) ∈ lw_u := lw_in wt_673 rfl
theorem wt_675 : Jvm.Cond.instanceMethod ({ cls := "CallMelt$Machine", name := "advanceWhile", desc := "(II)I" } : Jvm.MethodName) ∈ lw_tbl := List.mem_of_getElem? (i := 675) (by decide +kernel)
theorem wd_675 : Jvm.Cond.instanceMethod ({ cls := "CallMelt$Machine", name := "advanceWhile", desc := "(II)I" } : Jvm.MethodName) ∈ lw_u := lw_in wt_675 rfl
theorem wt_676 : Jvm.Cond.code ({ cls := "CallMelt$Machine", name := "advanceWhile", desc := "(II)I" } : Jvm.MethodName) prog_4_method_20_code (3 : Nat) (Option.some Jvm.ClassFile.FieldType.int) ∈ lw_tbl := List.mem_of_getElem? (i := 676) (by decide +kernel)
theorem wg_676 : Jvm.Cond.code ({ cls := "CallMelt$Machine", name := "advanceWhile", desc := "(II)I" } : Jvm.MethodName) prog_4_method_20_code (3 : Nat) (Option.some Jvm.ClassFile.FieldType.int) ∈ lw_g := List.mem_filter.mpr ⟨wt_676, rfl⟩
theorem wd_676 : Jvm.Cond.code ({ cls := "CallMelt$Machine", name := "advanceWhile", desc := "(II)I" } : Jvm.MethodName) prog_4_method_20_code (3 : Nat) (Option.some Jvm.ClassFile.FieldType.int) ∈ lw_u := lw_in wt_676 rfl
theorem wt_677 : Jvm.Cond.methodLink "CallMelt$Machine" (142 : Nat) ({ cls := "CallMelt$Machine", name := "advanceCall", desc := "(II)I" } : Jvm.MethodName) ∈ lw_tbl := List.mem_of_getElem? (i := 677) (by decide +kernel)
theorem wd_677 : Jvm.Cond.methodLink "CallMelt$Machine" (142 : Nat) ({ cls := "CallMelt$Machine", name := "advanceCall", desc := "(II)I" } : Jvm.MethodName) ∈ lw_u := lw_in wt_677 rfl
theorem wt_679 : Jvm.Cond.instanceMethod ({ cls := "CallMelt$Machine", name := "advanceCall", desc := "(II)I" } : Jvm.MethodName) ∈ lw_tbl := List.mem_of_getElem? (i := 679) (by decide +kernel)
theorem wd_679 : Jvm.Cond.instanceMethod ({ cls := "CallMelt$Machine", name := "advanceCall", desc := "(II)I" } : Jvm.MethodName) ∈ lw_u := lw_in wt_679 rfl
theorem wt_680 : Jvm.Cond.code ({ cls := "CallMelt$Machine", name := "advanceCall", desc := "(II)I" } : Jvm.MethodName) prog_4_method_21_code (5 : Nat) (Option.some Jvm.ClassFile.FieldType.int) ∈ lw_tbl := List.mem_of_getElem? (i := 680) (by decide +kernel)
theorem wg_680 : Jvm.Cond.code ({ cls := "CallMelt$Machine", name := "advanceCall", desc := "(II)I" } : Jvm.MethodName) prog_4_method_21_code (5 : Nat) (Option.some Jvm.ClassFile.FieldType.int) ∈ lw_g := List.mem_filter.mpr ⟨wt_680, rfl⟩
theorem wd_680 : Jvm.Cond.code ({ cls := "CallMelt$Machine", name := "advanceCall", desc := "(II)I" } : Jvm.MethodName) prog_4_method_21_code (5 : Nat) (Option.some Jvm.ClassFile.FieldType.int) ∈ lw_u := lw_in wt_680 rfl
theorem wt_681 : Jvm.Cond.methodLink "CallMelt$Machine" (155 : Nat) ({ cls := "CallMelt$Machine", name := "enter", desc := "(III)Z" } : Jvm.MethodName) ∈ lw_tbl := List.mem_of_getElem? (i := 681) (by decide +kernel)
theorem wd_681 : Jvm.Cond.methodLink "CallMelt$Machine" (155 : Nat) ({ cls := "CallMelt$Machine", name := "enter", desc := "(III)Z" } : Jvm.MethodName) ∈ lw_u := lw_in wt_681 rfl
theorem wt_683 : Jvm.Cond.instanceMethod ({ cls := "CallMelt$Machine", name := "enter", desc := "(III)Z" } : Jvm.MethodName) ∈ lw_tbl := List.mem_of_getElem? (i := 683) (by decide +kernel)
theorem wd_683 : Jvm.Cond.instanceMethod ({ cls := "CallMelt$Machine", name := "enter", desc := "(III)Z" } : Jvm.MethodName) ∈ lw_u := lw_in wt_683 rfl
theorem wt_684 : Jvm.Cond.code ({ cls := "CallMelt$Machine", name := "enter", desc := "(III)Z" } : Jvm.MethodName) prog_4_method_22_code (5 : Nat) (Option.some Jvm.ClassFile.FieldType.boolean) ∈ lw_tbl := List.mem_of_getElem? (i := 684) (by decide +kernel)
theorem wg_684 : Jvm.Cond.code ({ cls := "CallMelt$Machine", name := "enter", desc := "(III)Z" } : Jvm.MethodName) prog_4_method_22_code (5 : Nat) (Option.some Jvm.ClassFile.FieldType.boolean) ∈ lw_g := List.mem_filter.mpr ⟨wt_684, rfl⟩
theorem wd_684 : Jvm.Cond.code ({ cls := "CallMelt$Machine", name := "enter", desc := "(III)Z" } : Jvm.MethodName) prog_4_method_22_code (5 : Nat) (Option.some Jvm.ClassFile.FieldType.boolean) ∈ lw_u := lw_in wt_684 rfl
theorem wt_685 : Jvm.Cond.methodLink "CallMelt$Machine" (159 : Nat) ({ cls := "java/lang/Math", name := "min", desc := "(II)I" } : Jvm.MethodName) ∈ lw_tbl := List.mem_of_getElem? (i := 685) (by decide +kernel)
theorem wd_685 : Jvm.Cond.methodLink "CallMelt$Machine" (159 : Nat) ({ cls := "java/lang/Math", name := "min", desc := "(II)I" } : Jvm.MethodName) ∈ lw_u := lw_in wt_685 rfl
theorem wt_686 : Jvm.Cond.static ({ cls := "java/lang/Math", name := "min", desc := "(II)I" } : Jvm.MethodName) ∈ lw_tbl := List.mem_of_getElem? (i := 686) (by decide +kernel)
theorem wd_686 : Jvm.Cond.static ({ cls := "java/lang/Math", name := "min", desc := "(II)I" } : Jvm.MethodName) ∈ lw_u := lw_in wt_686 rfl
theorem wt_687 : Jvm.Cond.code ({ cls := "java/lang/Math", name := "min", desc := "(II)I" } : Jvm.MethodName) prog_12_method_69_code (2 : Nat) (Option.some Jvm.ClassFile.FieldType.int) ∈ lw_tbl := List.mem_of_getElem? (i := 687) (by decide +kernel)
theorem wd_687 : Jvm.Cond.code ({ cls := "java/lang/Math", name := "min", desc := "(II)I" } : Jvm.MethodName) prog_12_method_69_code (2 : Nat) (Option.some Jvm.ClassFile.FieldType.int) ∈ lw_u := lw_in wt_687 rfl
theorem wt_688 : Jvm.Cond.methodLink "CallMelt$Machine" (148 : Nat) ({ cls := "CallMelt$Machine", name := "conclude", desc := "(III)V" } : Jvm.MethodName) ∈ lw_tbl := List.mem_of_getElem? (i := 688) (by decide +kernel)
theorem wd_688 : Jvm.Cond.methodLink "CallMelt$Machine" (148 : Nat) ({ cls := "CallMelt$Machine", name := "conclude", desc := "(III)V" } : Jvm.MethodName) ∈ lw_u := lw_in wt_688 rfl
theorem wt_690 : Jvm.Cond.instanceMethod ({ cls := "CallMelt$Machine", name := "conclude", desc := "(III)V" } : Jvm.MethodName) ∈ lw_tbl := List.mem_of_getElem? (i := 690) (by decide +kernel)
theorem wd_690 : Jvm.Cond.instanceMethod ({ cls := "CallMelt$Machine", name := "conclude", desc := "(III)V" } : Jvm.MethodName) ∈ lw_u := lw_in wt_690 rfl
theorem wt_691 : Jvm.Cond.code ({ cls := "CallMelt$Machine", name := "conclude", desc := "(III)V" } : Jvm.MethodName) prog_4_method_24_code (6 : Nat) (Option.none : Option Jvm.ClassFile.FieldType) ∈ lw_tbl := List.mem_of_getElem? (i := 691) (by decide +kernel)
theorem wg_691 : Jvm.Cond.code ({ cls := "CallMelt$Machine", name := "conclude", desc := "(III)V" } : Jvm.MethodName) prog_4_method_24_code (6 : Nat) (Option.none : Option Jvm.ClassFile.FieldType) ∈ lw_g := List.mem_filter.mpr ⟨wt_691, rfl⟩
theorem wd_691 : Jvm.Cond.code ({ cls := "CallMelt$Machine", name := "conclude", desc := "(III)V" } : Jvm.MethodName) prog_4_method_24_code (6 : Nat) (Option.none : Option Jvm.ClassFile.FieldType) ∈ lw_u := lw_in wt_691 rfl
theorem wt_692 : Jvm.Cond.methodLink "CallMelt$Machine" (173 : Nat) ({ cls := "CallMelt$Machine", name := "concludeAct", desc := "(III)V" } : Jvm.MethodName) ∈ lw_tbl := List.mem_of_getElem? (i := 692) (by decide +kernel)
theorem wd_692 : Jvm.Cond.methodLink "CallMelt$Machine" (173 : Nat) ({ cls := "CallMelt$Machine", name := "concludeAct", desc := "(III)V" } : Jvm.MethodName) ∈ lw_u := lw_in wt_692 rfl
theorem wt_694 : Jvm.Cond.instanceMethod ({ cls := "CallMelt$Machine", name := "concludeAct", desc := "(III)V" } : Jvm.MethodName) ∈ lw_tbl := List.mem_of_getElem? (i := 694) (by decide +kernel)
theorem wd_694 : Jvm.Cond.instanceMethod ({ cls := "CallMelt$Machine", name := "concludeAct", desc := "(III)V" } : Jvm.MethodName) ∈ lw_u := lw_in wt_694 rfl
theorem wt_695 : Jvm.Cond.code ({ cls := "CallMelt$Machine", name := "concludeAct", desc := "(III)V" } : Jvm.MethodName) prog_4_method_25_code (5 : Nat) (Option.none : Option Jvm.ClassFile.FieldType) ∈ lw_tbl := List.mem_of_getElem? (i := 695) (by decide +kernel)
theorem wg_695 : Jvm.Cond.code ({ cls := "CallMelt$Machine", name := "concludeAct", desc := "(III)V" } : Jvm.MethodName) prog_4_method_25_code (5 : Nat) (Option.none : Option Jvm.ClassFile.FieldType) ∈ lw_g := List.mem_filter.mpr ⟨wt_695, rfl⟩
theorem wd_695 : Jvm.Cond.code ({ cls := "CallMelt$Machine", name := "concludeAct", desc := "(III)V" } : Jvm.MethodName) prog_4_method_25_code (5 : Nat) (Option.none : Option Jvm.ClassFile.FieldType) ∈ lw_u := lw_in wt_695 rfl
theorem wt_696 : Jvm.Cond.methodLinkNest "CallMelt$Machine" (183 : Nat) ({ cls := "CallMelt", name := "reckon", desc := "(III)I" } : Jvm.MethodName) "CallMelt" ∈ lw_tbl := List.mem_of_getElem? (i := 696) (by decide +kernel)
theorem wd_696 : Jvm.Cond.methodLinkNest "CallMelt$Machine" (183 : Nat) ({ cls := "CallMelt", name := "reckon", desc := "(III)I" } : Jvm.MethodName) "CallMelt" ∈ lw_u := lw_inN wt_696 rfl
theorem wt_697 : Jvm.Cond.static ({ cls := "CallMelt", name := "reckon", desc := "(III)I" } : Jvm.MethodName) ∈ lw_tbl := List.mem_of_getElem? (i := 697) (by decide +kernel)
theorem wd_697 : Jvm.Cond.static ({ cls := "CallMelt", name := "reckon", desc := "(III)I" } : Jvm.MethodName) ∈ lw_u := lw_in wt_697 rfl
theorem wt_698 : Jvm.Cond.code ({ cls := "CallMelt", name := "reckon", desc := "(III)I" } : Jvm.MethodName) prog_1_method_31_code (3 : Nat) (Option.some Jvm.ClassFile.FieldType.int) ∈ lw_tbl := List.mem_of_getElem? (i := 698) (by decide +kernel)
theorem wg_698 : Jvm.Cond.code ({ cls := "CallMelt", name := "reckon", desc := "(III)I" } : Jvm.MethodName) prog_1_method_31_code (3 : Nat) (Option.some Jvm.ClassFile.FieldType.int) ∈ lw_g := List.mem_filter.mpr ⟨wt_698, rfl⟩
theorem wd_698 : Jvm.Cond.code ({ cls := "CallMelt", name := "reckon", desc := "(III)I" } : Jvm.MethodName) prog_1_method_31_code (3 : Nat) (Option.some Jvm.ClassFile.FieldType.int) ∈ lw_u := lw_in wt_698 rfl
theorem wt_699 : Jvm.Cond.methodLink "CallMelt$Machine" (176 : Nat) ({ cls := "CallMelt$Machine", name := "leaveWith", desc := "(I)V" } : Jvm.MethodName) ∈ lw_tbl := List.mem_of_getElem? (i := 699) (by decide +kernel)
theorem wd_699 : Jvm.Cond.methodLink "CallMelt$Machine" (176 : Nat) ({ cls := "CallMelt$Machine", name := "leaveWith", desc := "(I)V" } : Jvm.MethodName) ∈ lw_u := lw_in wt_699 rfl
theorem wt_701 : Jvm.Cond.instanceMethod ({ cls := "CallMelt$Machine", name := "leaveWith", desc := "(I)V" } : Jvm.MethodName) ∈ lw_tbl := List.mem_of_getElem? (i := 701) (by decide +kernel)
theorem wd_701 : Jvm.Cond.instanceMethod ({ cls := "CallMelt$Machine", name := "leaveWith", desc := "(I)V" } : Jvm.MethodName) ∈ lw_u := lw_in wt_701 rfl
theorem wt_702 : Jvm.Cond.code ({ cls := "CallMelt$Machine", name := "leaveWith", desc := "(I)V" } : Jvm.MethodName) prog_4_method_27_code (4 : Nat) (Option.none : Option Jvm.ClassFile.FieldType) ∈ lw_tbl := List.mem_of_getElem? (i := 702) (by decide +kernel)
theorem wg_702 : Jvm.Cond.code ({ cls := "CallMelt$Machine", name := "leaveWith", desc := "(I)V" } : Jvm.MethodName) prog_4_method_27_code (4 : Nat) (Option.none : Option Jvm.ClassFile.FieldType) ∈ lw_g := List.mem_filter.mpr ⟨wt_702, rfl⟩
theorem wd_702 : Jvm.Cond.code ({ cls := "CallMelt$Machine", name := "leaveWith", desc := "(I)V" } : Jvm.MethodName) prog_4_method_27_code (4 : Nat) (Option.none : Option Jvm.ClassFile.FieldType) ∈ lw_u := lw_in wt_702 rfl
theorem wt_703 : Jvm.Cond.methodLink "CallMelt$Machine" (179 : Nat) ({ cls := "CallMelt$Machine", name := "concludePlace", desc := "(IIII)V" } : Jvm.MethodName) ∈ lw_tbl := List.mem_of_getElem? (i := 703) (by decide +kernel)
theorem wd_703 : Jvm.Cond.methodLink "CallMelt$Machine" (179 : Nat) ({ cls := "CallMelt$Machine", name := "concludePlace", desc := "(IIII)V" } : Jvm.MethodName) ∈ lw_u := lw_in wt_703 rfl
theorem wt_705 : Jvm.Cond.instanceMethod ({ cls := "CallMelt$Machine", name := "concludePlace", desc := "(IIII)V" } : Jvm.MethodName) ∈ lw_tbl := List.mem_of_getElem? (i := 705) (by decide +kernel)
theorem wd_705 : Jvm.Cond.instanceMethod ({ cls := "CallMelt$Machine", name := "concludePlace", desc := "(IIII)V" } : Jvm.MethodName) ∈ lw_u := lw_in wt_705 rfl
theorem wt_706 : Jvm.Cond.code ({ cls := "CallMelt$Machine", name := "concludePlace", desc := "(IIII)V" } : Jvm.MethodName) prog_4_method_26_code (5 : Nat) (Option.none : Option Jvm.ClassFile.FieldType) ∈ lw_tbl := List.mem_of_getElem? (i := 706) (by decide +kernel)
theorem wg_706 : Jvm.Cond.code ({ cls := "CallMelt$Machine", name := "concludePlace", desc := "(IIII)V" } : Jvm.MethodName) prog_4_method_26_code (5 : Nat) (Option.none : Option Jvm.ClassFile.FieldType) ∈ lw_g := List.mem_filter.mpr ⟨wt_706, rfl⟩
theorem wd_706 : Jvm.Cond.code ({ cls := "CallMelt$Machine", name := "concludePlace", desc := "(IIII)V" } : Jvm.MethodName) prog_4_method_26_code (5 : Nat) (Option.none : Option Jvm.ClassFile.FieldType) ∈ lw_u := lw_in wt_706 rfl
theorem wt_707 : Jvm.Cond.methodLink "CallMelt$Machine" (187 : Nat) ({ cls := "CallMelt$Machine", name := "put", desc := "(II)Z" } : Jvm.MethodName) ∈ lw_tbl := List.mem_of_getElem? (i := 707) (by decide +kernel)
theorem wd_707 : Jvm.Cond.methodLink "CallMelt$Machine" (187 : Nat) ({ cls := "CallMelt$Machine", name := "put", desc := "(II)Z" } : Jvm.MethodName) ∈ lw_u := lw_in wt_707 rfl
theorem wt_708 : Jvm.Cond.instanceMethod ({ cls := "CallMelt$Machine", name := "put", desc := "(II)Z" } : Jvm.MethodName) ∈ lw_tbl := List.mem_of_getElem? (i := 708) (by decide +kernel)
theorem wd_708 : Jvm.Cond.instanceMethod ({ cls := "CallMelt$Machine", name := "put", desc := "(II)Z" } : Jvm.MethodName) ∈ lw_u := lw_in wt_708 rfl
theorem wt_709 : Jvm.Cond.selects "CallMelt$Machine" ({ cls := "CallMelt$Machine", name := "put", desc := "(II)Z" } : Jvm.MethodName) ({ cls := "CallMelt$Machine", name := "put", desc := "(II)Z" } : Jvm.MethodName) ∈ lw_tbl := List.mem_of_getElem? (i := 709) (by decide +kernel)
theorem wd_709 : Jvm.Cond.selects "CallMelt$Machine" ({ cls := "CallMelt$Machine", name := "put", desc := "(II)Z" } : Jvm.MethodName) ({ cls := "CallMelt$Machine", name := "put", desc := "(II)Z" } : Jvm.MethodName) ∈ lw_u := lw_in wt_709 rfl
theorem wt_710 : Jvm.Cond.code ({ cls := "CallMelt$Machine", name := "put", desc := "(II)Z" } : Jvm.MethodName) prog_4_method_7_code (3 : Nat) (Option.some Jvm.ClassFile.FieldType.boolean) ∈ lw_tbl := List.mem_of_getElem? (i := 710) (by decide +kernel)
theorem wg_710 : Jvm.Cond.code ({ cls := "CallMelt$Machine", name := "put", desc := "(II)Z" } : Jvm.MethodName) prog_4_method_7_code (3 : Nat) (Option.some Jvm.ClassFile.FieldType.boolean) ∈ lw_g := List.mem_filter.mpr ⟨wt_710, rfl⟩
theorem wd_710 : Jvm.Cond.code ({ cls := "CallMelt$Machine", name := "put", desc := "(II)Z" } : Jvm.MethodName) prog_4_method_7_code (3 : Nat) (Option.some Jvm.ClassFile.FieldType.boolean) ∈ lw_u := lw_in wt_710 rfl
theorem wt_711 : Jvm.Cond.methodLink "CallMelt$Machine" (190 : Nat) ({ cls := "CallMelt$Machine", name := "reach", desc := "(I)I" } : Jvm.MethodName) ∈ lw_tbl := List.mem_of_getElem? (i := 711) (by decide +kernel)
theorem wd_711 : Jvm.Cond.methodLink "CallMelt$Machine" (190 : Nat) ({ cls := "CallMelt$Machine", name := "reach", desc := "(I)I" } : Jvm.MethodName) ∈ lw_u := lw_in wt_711 rfl
theorem wt_712 : Jvm.Cond.instanceMethod ({ cls := "CallMelt$Machine", name := "reach", desc := "(I)I" } : Jvm.MethodName) ∈ lw_tbl := List.mem_of_getElem? (i := 712) (by decide +kernel)
theorem wd_712 : Jvm.Cond.instanceMethod ({ cls := "CallMelt$Machine", name := "reach", desc := "(I)I" } : Jvm.MethodName) ∈ lw_u := lw_in wt_712 rfl
theorem wt_713 : Jvm.Cond.selects "CallMelt$Machine" ({ cls := "CallMelt$Machine", name := "reach", desc := "(I)I" } : Jvm.MethodName) ({ cls := "CallMelt$Machine", name := "reach", desc := "(I)I" } : Jvm.MethodName) ∈ lw_tbl := List.mem_of_getElem? (i := 713) (by decide +kernel)
theorem wd_713 : Jvm.Cond.selects "CallMelt$Machine" ({ cls := "CallMelt$Machine", name := "reach", desc := "(I)I" } : Jvm.MethodName) ({ cls := "CallMelt$Machine", name := "reach", desc := "(I)I" } : Jvm.MethodName) ∈ lw_u := lw_in wt_713 rfl
theorem wt_714 : Jvm.Cond.code ({ cls := "CallMelt$Machine", name := "reach", desc := "(I)I" } : Jvm.MethodName) prog_4_method_6_code (2 : Nat) (Option.some Jvm.ClassFile.FieldType.int) ∈ lw_tbl := List.mem_of_getElem? (i := 714) (by decide +kernel)
theorem wg_714 : Jvm.Cond.code ({ cls := "CallMelt$Machine", name := "reach", desc := "(I)I" } : Jvm.MethodName) prog_4_method_6_code (2 : Nat) (Option.some Jvm.ClassFile.FieldType.int) ∈ lw_g := List.mem_filter.mpr ⟨wt_714, rfl⟩
theorem wd_714 : Jvm.Cond.code ({ cls := "CallMelt$Machine", name := "reach", desc := "(I)I" } : Jvm.MethodName) prog_4_method_6_code (2 : Nat) (Option.some Jvm.ClassFile.FieldType.int) ∈ lw_u := lw_in wt_714 rfl
theorem wt_718 : Jvm.Cond.code ({ cls := "CallMelt", name := "ran", desc := "(I)I" } : Jvm.MethodName) prog_1_method_14_code (2 : Nat) (Option.some Jvm.ClassFile.FieldType.int) ∈ lw_tbl := List.mem_of_getElem? (i := 718) (by decide +kernel)
theorem wg_718 : Jvm.Cond.code ({ cls := "CallMelt", name := "ran", desc := "(I)I" } : Jvm.MethodName) prog_1_method_14_code (2 : Nat) (Option.some Jvm.ClassFile.FieldType.int) ∈ lw_g := List.mem_filter.mpr ⟨wt_718, rfl⟩
theorem wd_718 : Jvm.Cond.code ({ cls := "CallMelt", name := "ran", desc := "(I)I" } : Jvm.MethodName) prog_1_method_14_code (2 : Nat) (Option.some Jvm.ClassFile.FieldType.int) ∈ lw_u := lw_in wt_718 rfl
theorem wt_719 : Jvm.Cond.methodLink "CallMelt" (147 : Nat) ({ cls := "CallMelt$Machine", name := "latest", desc := "(I)I" } : Jvm.MethodName) ∈ lw_tbl := List.mem_of_getElem? (i := 719) (by decide +kernel)
theorem wd_719 : Jvm.Cond.methodLink "CallMelt" (147 : Nat) ({ cls := "CallMelt$Machine", name := "latest", desc := "(I)I" } : Jvm.MethodName) ∈ lw_u := lw_in wt_719 rfl
theorem wt_720 : Jvm.Cond.instanceMethod ({ cls := "CallMelt$Machine", name := "latest", desc := "(I)I" } : Jvm.MethodName) ∈ lw_tbl := List.mem_of_getElem? (i := 720) (by decide +kernel)
theorem wd_720 : Jvm.Cond.instanceMethod ({ cls := "CallMelt$Machine", name := "latest", desc := "(I)I" } : Jvm.MethodName) ∈ lw_u := lw_in wt_720 rfl
theorem wt_721 : Jvm.Cond.selects "CallMelt$Machine" ({ cls := "CallMelt$Machine", name := "latest", desc := "(I)I" } : Jvm.MethodName) ({ cls := "CallMelt$Machine", name := "latest", desc := "(I)I" } : Jvm.MethodName) ∈ lw_tbl := List.mem_of_getElem? (i := 721) (by decide +kernel)
theorem wd_721 : Jvm.Cond.selects "CallMelt$Machine" ({ cls := "CallMelt$Machine", name := "latest", desc := "(I)I" } : Jvm.MethodName) ({ cls := "CallMelt$Machine", name := "latest", desc := "(I)I" } : Jvm.MethodName) ∈ lw_u := lw_in wt_721 rfl
theorem wt_722 : Jvm.Cond.code ({ cls := "CallMelt$Machine", name := "latest", desc := "(I)I" } : Jvm.MethodName) prog_4_method_8_code (2 : Nat) (Option.some Jvm.ClassFile.FieldType.int) ∈ lw_tbl := List.mem_of_getElem? (i := 722) (by decide +kernel)
theorem wg_722 : Jvm.Cond.code ({ cls := "CallMelt$Machine", name := "latest", desc := "(I)I" } : Jvm.MethodName) prog_4_method_8_code (2 : Nat) (Option.some Jvm.ClassFile.FieldType.int) ∈ lw_g := List.mem_filter.mpr ⟨wt_722, rfl⟩
theorem wd_722 : Jvm.Cond.code ({ cls := "CallMelt$Machine", name := "latest", desc := "(I)I" } : Jvm.MethodName) prog_4_method_8_code (2 : Nat) (Option.some Jvm.ClassFile.FieldType.int) ∈ lw_u := lw_in wt_722 rfl
theorem wt_726 : Jvm.Cond.code ({ cls := "CallMelt", name := "row", desc := "(I)I" } : Jvm.MethodName) prog_1_method_15_code (2 : Nat) (Option.some Jvm.ClassFile.FieldType.int) ∈ lw_tbl := List.mem_of_getElem? (i := 726) (by decide +kernel)
theorem wg_726 : Jvm.Cond.code ({ cls := "CallMelt", name := "row", desc := "(I)I" } : Jvm.MethodName) prog_1_method_15_code (2 : Nat) (Option.some Jvm.ClassFile.FieldType.int) ∈ lw_g := List.mem_filter.mpr ⟨wt_726, rfl⟩
theorem wd_726 : Jvm.Cond.code ({ cls := "CallMelt", name := "row", desc := "(I)I" } : Jvm.MethodName) prog_1_method_15_code (2 : Nat) (Option.some Jvm.ClassFile.FieldType.int) ∈ lw_u := lw_in wt_726 rfl
theorem wt_727 : Jvm.Cond.methodLink "CallMelt" (150 : Nat) ({ cls := "CallMelt$Machine", name := "reach", desc := "(I)I" } : Jvm.MethodName) ∈ lw_tbl := List.mem_of_getElem? (i := 727) (by decide +kernel)
theorem wd_727 : Jvm.Cond.methodLink "CallMelt" (150 : Nat) ({ cls := "CallMelt$Machine", name := "reach", desc := "(I)I" } : Jvm.MethodName) ∈ lw_u := lw_in wt_727 rfl
theorem wt_731 : Jvm.Cond.code ({ cls := "CallMelt", name := "lay", desc := "(II)I" } : Jvm.MethodName) prog_1_method_16_code (3 : Nat) (Option.some Jvm.ClassFile.FieldType.int) ∈ lw_tbl := List.mem_of_getElem? (i := 731) (by decide +kernel)
theorem wg_731 : Jvm.Cond.code ({ cls := "CallMelt", name := "lay", desc := "(II)I" } : Jvm.MethodName) prog_1_method_16_code (3 : Nat) (Option.some Jvm.ClassFile.FieldType.int) ∈ lw_g := List.mem_filter.mpr ⟨wt_731, rfl⟩
theorem wd_731 : Jvm.Cond.code ({ cls := "CallMelt", name := "lay", desc := "(II)I" } : Jvm.MethodName) prog_1_method_16_code (3 : Nat) (Option.some Jvm.ClassFile.FieldType.int) ∈ lw_u := lw_in wt_731 rfl
theorem wt_732 : Jvm.Cond.methodLink "CallMelt" (153 : Nat) ({ cls := "CallMelt$Machine", name := "put", desc := "(II)Z" } : Jvm.MethodName) ∈ lw_tbl := List.mem_of_getElem? (i := 732) (by decide +kernel)
theorem wd_732 : Jvm.Cond.methodLink "CallMelt" (153 : Nat) ({ cls := "CallMelt$Machine", name := "put", desc := "(II)Z" } : Jvm.MethodName) ∈ lw_u := lw_in wt_732 rfl
theorem wt_736 : Jvm.Cond.code ({ cls := "CallMelt", name := "clearCounts", desc := "()I" } : Jvm.MethodName) prog_1_method_17_code (1 : Nat) (Option.some Jvm.ClassFile.FieldType.int) ∈ lw_tbl := List.mem_of_getElem? (i := 736) (by decide +kernel)
theorem wg_736 : Jvm.Cond.code ({ cls := "CallMelt", name := "clearCounts", desc := "()I" } : Jvm.MethodName) prog_1_method_17_code (1 : Nat) (Option.some Jvm.ClassFile.FieldType.int) ∈ lw_g := List.mem_filter.mpr ⟨wt_736, rfl⟩
theorem wd_736 : Jvm.Cond.code ({ cls := "CallMelt", name := "clearCounts", desc := "()I" } : Jvm.MethodName) prog_1_method_17_code (1 : Nat) (Option.some Jvm.ClassFile.FieldType.int) ∈ lw_u := lw_in wt_736 rfl
theorem wt_737 : Jvm.Cond.methodLink "CallMelt" (156 : Nat) ({ cls := "CallMelt$Machine", name := "forgetCounts", desc := "()V" } : Jvm.MethodName) ∈ lw_tbl := List.mem_of_getElem? (i := 737) (by decide +kernel)
theorem wd_737 : Jvm.Cond.methodLink "CallMelt" (156 : Nat) ({ cls := "CallMelt$Machine", name := "forgetCounts", desc := "()V" } : Jvm.MethodName) ∈ lw_u := lw_in wt_737 rfl
theorem wt_738 : Jvm.Cond.instanceMethod ({ cls := "CallMelt$Machine", name := "forgetCounts", desc := "()V" } : Jvm.MethodName) ∈ lw_tbl := List.mem_of_getElem? (i := 738) (by decide +kernel)
theorem wd_738 : Jvm.Cond.instanceMethod ({ cls := "CallMelt$Machine", name := "forgetCounts", desc := "()V" } : Jvm.MethodName) ∈ lw_u := lw_in wt_738 rfl
theorem wt_739 : Jvm.Cond.selects "CallMelt$Machine" ({ cls := "CallMelt$Machine", name := "forgetCounts", desc := "()V" } : Jvm.MethodName) ({ cls := "CallMelt$Machine", name := "forgetCounts", desc := "()V" } : Jvm.MethodName) ∈ lw_tbl := List.mem_of_getElem? (i := 739) (by decide +kernel)
theorem wd_739 : Jvm.Cond.selects "CallMelt$Machine" ({ cls := "CallMelt$Machine", name := "forgetCounts", desc := "()V" } : Jvm.MethodName) ({ cls := "CallMelt$Machine", name := "forgetCounts", desc := "()V" } : Jvm.MethodName) ∈ lw_u := lw_in wt_739 rfl
theorem wt_740 : Jvm.Cond.code ({ cls := "CallMelt$Machine", name := "forgetCounts", desc := "()V" } : Jvm.MethodName) prog_4_method_5_code (1 : Nat) (Option.none : Option Jvm.ClassFile.FieldType) ∈ lw_tbl := List.mem_of_getElem? (i := 740) (by decide +kernel)
theorem wg_740 : Jvm.Cond.code ({ cls := "CallMelt$Machine", name := "forgetCounts", desc := "()V" } : Jvm.MethodName) prog_4_method_5_code (1 : Nat) (Option.none : Option Jvm.ClassFile.FieldType) ∈ lw_g := List.mem_filter.mpr ⟨wt_740, rfl⟩
theorem wd_740 : Jvm.Cond.code ({ cls := "CallMelt$Machine", name := "forgetCounts", desc := "()V" } : Jvm.MethodName) prog_4_method_5_code (1 : Nat) (Option.none : Option Jvm.ClassFile.FieldType) ∈ lw_u := lw_in wt_740 rfl
theorem wt_741 : Jvm.Cond.methodLink "CallMelt$Machine" (49 : Nat) ({ cls := "java/util/Arrays", name := "fill", desc := "([II)V" } : Jvm.MethodName) ∈ lw_tbl := List.mem_of_getElem? (i := 741) (by decide +kernel)
theorem wd_741 : Jvm.Cond.methodLink "CallMelt$Machine" (49 : Nat) ({ cls := "java/util/Arrays", name := "fill", desc := "([II)V" } : Jvm.MethodName) ∈ lw_u := lw_in wt_741 rfl
theorem wt_742 : Jvm.Cond.static ({ cls := "java/util/Arrays", name := "fill", desc := "([II)V" } : Jvm.MethodName) ∈ lw_tbl := List.mem_of_getElem? (i := 742) (by decide +kernel)
theorem wd_742 : Jvm.Cond.static ({ cls := "java/util/Arrays", name := "fill", desc := "([II)V" } : Jvm.MethodName) ∈ lw_u := lw_in wt_742 rfl
theorem wt_743 : Jvm.Cond.code ({ cls := "java/util/Arrays", name := "fill", desc := "([II)V" } : Jvm.MethodName) prog_14_method_103_code (4 : Nat) (Option.none : Option Jvm.ClassFile.FieldType) ∈ lw_tbl := List.mem_of_getElem? (i := 743) (by decide +kernel)
theorem wg_743 : Jvm.Cond.code ({ cls := "java/util/Arrays", name := "fill", desc := "([II)V" } : Jvm.MethodName) prog_14_method_103_code (4 : Nat) (Option.none : Option Jvm.ClassFile.FieldType) ∈ lw_g := List.mem_filter.mpr ⟨wt_743, rfl⟩
theorem wd_743 : Jvm.Cond.code ({ cls := "java/util/Arrays", name := "fill", desc := "([II)V" } : Jvm.MethodName) prog_14_method_103_code (4 : Nat) (Option.none : Option Jvm.ClassFile.FieldType) ∈ lw_u := lw_in wt_743 rfl
theorem wt_747 : Jvm.Cond.code ({ cls := "CallMelt", name := "melt", desc := "(I)I" } : Jvm.MethodName) prog_1_method_18_code (2 : Nat) (Option.some Jvm.ClassFile.FieldType.int) ∈ lw_tbl := List.mem_of_getElem? (i := 747) (by decide +kernel)
theorem wg_747 : Jvm.Cond.code ({ cls := "CallMelt", name := "melt", desc := "(I)I" } : Jvm.MethodName) prog_1_method_18_code (2 : Nat) (Option.some Jvm.ClassFile.FieldType.int) ∈ lw_g := List.mem_filter.mpr ⟨wt_747, rfl⟩
theorem wd_747 : Jvm.Cond.code ({ cls := "CallMelt", name := "melt", desc := "(I)I" } : Jvm.MethodName) prog_1_method_18_code (2 : Nat) (Option.some Jvm.ClassFile.FieldType.int) ∈ lw_u := lw_in wt_747 rfl
theorem wt_748 : Jvm.Cond.methodLink "CallMelt" (159 : Nat) ({ cls := "CallMelt$Code", name := "isCallInBody", desc := "(I)Z" } : Jvm.MethodName) ∈ lw_tbl := List.mem_of_getElem? (i := 748) (by decide +kernel)
theorem wd_748 : Jvm.Cond.methodLink "CallMelt" (159 : Nat) ({ cls := "CallMelt$Code", name := "isCallInBody", desc := "(I)Z" } : Jvm.MethodName) ∈ lw_u := lw_in wt_748 rfl
theorem wt_749 : Jvm.Cond.methodLink "CallMelt" (162 : Nat) ({ cls := "CallMelt$Code", name := "isMissing", desc := "(I)Z" } : Jvm.MethodName) ∈ lw_tbl := List.mem_of_getElem? (i := 749) (by decide +kernel)
theorem wd_749 : Jvm.Cond.methodLink "CallMelt" (162 : Nat) ({ cls := "CallMelt$Code", name := "isMissing", desc := "(I)Z" } : Jvm.MethodName) ∈ lw_u := lw_in wt_749 rfl
theorem wt_750 : Jvm.Cond.methodLink "CallMelt" (165 : Nat) ({ cls := "CallMelt$Melter", name := "fits", desc := "(I)Z" } : Jvm.MethodName) ∈ lw_tbl := List.mem_of_getElem? (i := 750) (by decide +kernel)
theorem wd_750 : Jvm.Cond.methodLink "CallMelt" (165 : Nat) ({ cls := "CallMelt$Melter", name := "fits", desc := "(I)Z" } : Jvm.MethodName) ∈ lw_u := lw_in wt_750 rfl
theorem wt_751 : Jvm.Cond.instanceMethod ({ cls := "CallMelt$Melter", name := "fits", desc := "(I)Z" } : Jvm.MethodName) ∈ lw_tbl := List.mem_of_getElem? (i := 751) (by decide +kernel)
theorem wd_751 : Jvm.Cond.instanceMethod ({ cls := "CallMelt$Melter", name := "fits", desc := "(I)Z" } : Jvm.MethodName) ∈ lw_u := lw_in wt_751 rfl
theorem wt_752 : Jvm.Cond.selects "CallMelt$Melter" ({ cls := "CallMelt$Melter", name := "fits", desc := "(I)Z" } : Jvm.MethodName) ({ cls := "CallMelt$Melter", name := "fits", desc := "(I)Z" } : Jvm.MethodName) ∈ lw_tbl := List.mem_of_getElem? (i := 752) (by decide +kernel)
theorem wd_752 : Jvm.Cond.selects "CallMelt$Melter" ({ cls := "CallMelt$Melter", name := "fits", desc := "(I)Z" } : Jvm.MethodName) ({ cls := "CallMelt$Melter", name := "fits", desc := "(I)Z" } : Jvm.MethodName) ∈ lw_u := lw_in wt_752 rfl
theorem wt_753 : Jvm.Cond.code ({ cls := "CallMelt$Melter", name := "fits", desc := "(I)Z" } : Jvm.MethodName) prog_5_method_3_code (6 : Nat) (Option.some Jvm.ClassFile.FieldType.boolean) ∈ lw_tbl := List.mem_of_getElem? (i := 753) (by decide +kernel)
theorem wg_753 : Jvm.Cond.code ({ cls := "CallMelt$Melter", name := "fits", desc := "(I)Z" } : Jvm.MethodName) prog_5_method_3_code (6 : Nat) (Option.some Jvm.ClassFile.FieldType.boolean) ∈ lw_g := List.mem_filter.mpr ⟨wt_753, rfl⟩
theorem wd_753 : Jvm.Cond.code ({ cls := "CallMelt$Melter", name := "fits", desc := "(I)Z" } : Jvm.MethodName) prog_5_method_3_code (6 : Nat) (Option.some Jvm.ClassFile.FieldType.boolean) ∈ lw_u := lw_in wt_753 rfl
theorem wt_754 : Jvm.Cond.methodLink "CallMelt$Melter" (28 : Nat) ({ cls := "CallMelt$Code", name := "numberOf", desc := "(I)I" } : Jvm.MethodName) ∈ lw_tbl := List.mem_of_getElem? (i := 754) (by decide +kernel)
theorem wd_754 : Jvm.Cond.methodLink "CallMelt$Melter" (28 : Nat) ({ cls := "CallMelt$Code", name := "numberOf", desc := "(I)I" } : Jvm.MethodName) ∈ lw_u := lw_in wt_754 rfl
theorem wt_755 : Jvm.Cond.methodLink "CallMelt$Melter" (35 : Nat) ({ cls := "CallMelt$Code", name := "usesOf", desc := "(I)I" } : Jvm.MethodName) ∈ lw_tbl := List.mem_of_getElem? (i := 755) (by decide +kernel)
theorem wd_755 : Jvm.Cond.methodLink "CallMelt$Melter" (35 : Nat) ({ cls := "CallMelt$Code", name := "usesOf", desc := "(I)I" } : Jvm.MethodName) ∈ lw_u := lw_in wt_755 rfl
theorem wt_756 : Jvm.Cond.methodLink "CallMelt$Melter" (44 : Nat) ({ cls := "CallMelt$Code", name := "routineOf", desc := "(I)I" } : Jvm.MethodName) ∈ lw_tbl := List.mem_of_getElem? (i := 756) (by decide +kernel)
theorem wd_756 : Jvm.Cond.methodLink "CallMelt$Melter" (44 : Nat) ({ cls := "CallMelt$Code", name := "routineOf", desc := "(I)I" } : Jvm.MethodName) ∈ lw_u := lw_in wt_756 rfl
theorem wt_757 : Jvm.Cond.methodLink "CallMelt$Melter" (57 : Nat) ({ cls := "CallMelt$Melter", name := "weightOf", desc := "(I)I" } : Jvm.MethodName) ∈ lw_tbl := List.mem_of_getElem? (i := 757) (by decide +kernel)
theorem wd_757 : Jvm.Cond.methodLink "CallMelt$Melter" (57 : Nat) ({ cls := "CallMelt$Melter", name := "weightOf", desc := "(I)I" } : Jvm.MethodName) ∈ lw_u := lw_in wt_757 rfl
theorem wt_758 : Jvm.Cond.instanceMethod ({ cls := "CallMelt$Melter", name := "weightOf", desc := "(I)I" } : Jvm.MethodName) ∈ lw_tbl := List.mem_of_getElem? (i := 758) (by decide +kernel)
theorem wd_758 : Jvm.Cond.instanceMethod ({ cls := "CallMelt$Melter", name := "weightOf", desc := "(I)I" } : Jvm.MethodName) ∈ lw_u := lw_in wt_758 rfl
theorem wt_759 : Jvm.Cond.selects "CallMelt$Melter" ({ cls := "CallMelt$Melter", name := "weightOf", desc := "(I)I" } : Jvm.MethodName) ({ cls := "CallMelt$Melter", name := "weightOf", desc := "(I)I" } : Jvm.MethodName) ∈ lw_tbl := List.mem_of_getElem? (i := 759) (by decide +kernel)
theorem wd_759 : Jvm.Cond.selects "CallMelt$Melter" ({ cls := "CallMelt$Melter", name := "weightOf", desc := "(I)I" } : Jvm.MethodName) ({ cls := "CallMelt$Melter", name := "weightOf", desc := "(I)I" } : Jvm.MethodName) ∈ lw_u := lw_in wt_759 rfl
theorem wt_760 : Jvm.Cond.code ({ cls := "CallMelt$Melter", name := "weightOf", desc := "(I)I" } : Jvm.MethodName) prog_5_method_2_code (5 : Nat) (Option.some Jvm.ClassFile.FieldType.int) ∈ lw_tbl := List.mem_of_getElem? (i := 760) (by decide +kernel)
theorem wg_760 : Jvm.Cond.code ({ cls := "CallMelt$Melter", name := "weightOf", desc := "(I)I" } : Jvm.MethodName) prog_5_method_2_code (5 : Nat) (Option.some Jvm.ClassFile.FieldType.int) ∈ lw_g := List.mem_filter.mpr ⟨wt_760, rfl⟩
theorem wd_760 : Jvm.Cond.code ({ cls := "CallMelt$Melter", name := "weightOf", desc := "(I)I" } : Jvm.MethodName) prog_5_method_2_code (5 : Nat) (Option.some Jvm.ClassFile.FieldType.int) ∈ lw_u := lw_in wt_760 rfl
theorem wt_761 : Jvm.Cond.methodLink "CallMelt$Melter" (32 : Nat) ({ cls := "CallMelt$Code", name := "paramsOf", desc := "(I)I" } : Jvm.MethodName) ∈ lw_tbl := List.mem_of_getElem? (i := 761) (by decide +kernel)
theorem wd_761 : Jvm.Cond.methodLink "CallMelt$Melter" (32 : Nat) ({ cls := "CallMelt$Code", name := "paramsOf", desc := "(I)I" } : Jvm.MethodName) ∈ lw_u := lw_in wt_761 rfl
theorem wt_762 : Jvm.Cond.methodLink "CallMelt$Melter" (38 : Nat) ({ cls := "CallMelt$Code", name := "bodyOf", desc := "(I)I" } : Jvm.MethodName) ∈ lw_tbl := List.mem_of_getElem? (i := 762) (by decide +kernel)
theorem wd_762 : Jvm.Cond.methodLink "CallMelt$Melter" (38 : Nat) ({ cls := "CallMelt$Code", name := "bodyOf", desc := "(I)I" } : Jvm.MethodName) ∈ lw_u := lw_in wt_762 rfl
theorem wt_763 : Jvm.Cond.methodLink "CallMelt$Melter" (41 : Nat) ({ cls := "CallMelt$Code", name := "sizeOf", desc := "(I)I" } : Jvm.MethodName) ∈ lw_tbl := List.mem_of_getElem? (i := 763) (by decide +kernel)
theorem wd_763 : Jvm.Cond.methodLink "CallMelt$Melter" (41 : Nat) ({ cls := "CallMelt$Code", name := "sizeOf", desc := "(I)I" } : Jvm.MethodName) ∈ lw_u := lw_in wt_763 rfl
theorem wt_764 : Jvm.Cond.methodLink "CallMelt$Melter" (60 : Nat) ({ cls := "CallMelt$Code", name := "stepsAbove", desc := "(I)I" } : Jvm.MethodName) ∈ lw_tbl := List.mem_of_getElem? (i := 764) (by decide +kernel)
theorem wd_764 : Jvm.Cond.methodLink "CallMelt$Melter" (60 : Nat) ({ cls := "CallMelt$Code", name := "stepsAbove", desc := "(I)I" } : Jvm.MethodName) ∈ lw_u := lw_in wt_764 rfl
theorem wt_765 : Jvm.Cond.instanceMethod ({ cls := "CallMelt$Code", name := "stepsAbove", desc := "(I)I" } : Jvm.MethodName) ∈ lw_tbl := List.mem_of_getElem? (i := 765) (by decide +kernel)
theorem wd_765 : Jvm.Cond.instanceMethod ({ cls := "CallMelt$Code", name := "stepsAbove", desc := "(I)I" } : Jvm.MethodName) ∈ lw_u := lw_in wt_765 rfl
theorem wt_766 : Jvm.Cond.selects "CallMelt$Code" ({ cls := "CallMelt$Code", name := "stepsAbove", desc := "(I)I" } : Jvm.MethodName) ({ cls := "CallMelt$Code", name := "stepsAbove", desc := "(I)I" } : Jvm.MethodName) ∈ lw_tbl := List.mem_of_getElem? (i := 766) (by decide +kernel)
theorem wd_766 : Jvm.Cond.selects "CallMelt$Code" ({ cls := "CallMelt$Code", name := "stepsAbove", desc := "(I)I" } : Jvm.MethodName) ({ cls := "CallMelt$Code", name := "stepsAbove", desc := "(I)I" } : Jvm.MethodName) ∈ lw_u := lw_in wt_766 rfl
theorem wt_767 : Jvm.Cond.code ({ cls := "CallMelt$Code", name := "stepsAbove", desc := "(I)I" } : Jvm.MethodName) prog_3_method_16_code (4 : Nat) (Option.some Jvm.ClassFile.FieldType.int) ∈ lw_tbl := List.mem_of_getElem? (i := 767) (by decide +kernel)
theorem wg_767 : Jvm.Cond.code ({ cls := "CallMelt$Code", name := "stepsAbove", desc := "(I)I" } : Jvm.MethodName) prog_3_method_16_code (4 : Nat) (Option.some Jvm.ClassFile.FieldType.int) ∈ lw_g := List.mem_filter.mpr ⟨wt_767, rfl⟩
theorem wd_767 : Jvm.Cond.code ({ cls := "CallMelt$Code", name := "stepsAbove", desc := "(I)I" } : Jvm.MethodName) prog_3_method_16_code (4 : Nat) (Option.some Jvm.ClassFile.FieldType.int) ∈ lw_u := lw_in wt_767 rfl
theorem wt_768 : Jvm.Cond.methodLink "CallMelt$Melter" (63 : Nat) ({ cls := "CallMelt$Melter", name := "highWrittenOut", desc := "(II)I" } : Jvm.MethodName) ∈ lw_tbl := List.mem_of_getElem? (i := 768) (by decide +kernel)
theorem wd_768 : Jvm.Cond.methodLink "CallMelt$Melter" (63 : Nat) ({ cls := "CallMelt$Melter", name := "highWrittenOut", desc := "(II)I" } : Jvm.MethodName) ∈ lw_u := lw_in wt_768 rfl
theorem wt_770 : Jvm.Cond.instanceMethod ({ cls := "CallMelt$Melter", name := "highWrittenOut", desc := "(II)I" } : Jvm.MethodName) ∈ lw_tbl := List.mem_of_getElem? (i := 770) (by decide +kernel)
theorem wd_770 : Jvm.Cond.instanceMethod ({ cls := "CallMelt$Melter", name := "highWrittenOut", desc := "(II)I" } : Jvm.MethodName) ∈ lw_u := lw_in wt_770 rfl
theorem wt_771 : Jvm.Cond.code ({ cls := "CallMelt$Melter", name := "highWrittenOut", desc := "(II)I" } : Jvm.MethodName) prog_5_method_4_code (6 : Nat) (Option.some Jvm.ClassFile.FieldType.int) ∈ lw_tbl := List.mem_of_getElem? (i := 771) (by decide +kernel)
theorem wg_771 : Jvm.Cond.code ({ cls := "CallMelt$Melter", name := "highWrittenOut", desc := "(II)I" } : Jvm.MethodName) prog_5_method_4_code (6 : Nat) (Option.some Jvm.ClassFile.FieldType.int) ∈ lw_g := List.mem_filter.mpr ⟨wt_771, rfl⟩
theorem wd_771 : Jvm.Cond.code ({ cls := "CallMelt$Melter", name := "highWrittenOut", desc := "(II)I" } : Jvm.MethodName) prog_5_method_4_code (6 : Nat) (Option.some Jvm.ClassFile.FieldType.int) ∈ lw_u := lw_in wt_771 rfl
theorem wt_772 : Jvm.Cond.methodLink "CallMelt$Melter" (67 : Nat) ({ cls := "CallMelt$Code", name := "highOf", desc := "(I)I" } : Jvm.MethodName) ∈ lw_tbl := List.mem_of_getElem? (i := 772) (by decide +kernel)
theorem wd_772 : Jvm.Cond.methodLink "CallMelt$Melter" (67 : Nat) ({ cls := "CallMelt$Code", name := "highOf", desc := "(I)I" } : Jvm.MethodName) ∈ lw_u := lw_in wt_772 rfl
theorem wt_773 : Jvm.Cond.methodLink "CallMelt$Melter" (70 : Nat) ({ cls := "CallMelt$Code", name := "partOf", desc := "(II)I" } : Jvm.MethodName) ∈ lw_tbl := List.mem_of_getElem? (i := 773) (by decide +kernel)
theorem wd_773 : Jvm.Cond.methodLink "CallMelt$Melter" (70 : Nat) ({ cls := "CallMelt$Code", name := "partOf", desc := "(II)I" } : Jvm.MethodName) ∈ lw_u := lw_in wt_773 rfl
theorem wt_774 : Jvm.Cond.methodLink "CallMelt$Melter" (73 : Nat) ({ cls := "java/lang/Math", name := "max", desc := "(II)I" } : Jvm.MethodName) ∈ lw_tbl := List.mem_of_getElem? (i := 774) (by decide +kernel)
theorem wd_774 : Jvm.Cond.methodLink "CallMelt$Melter" (73 : Nat) ({ cls := "java/lang/Math", name := "max", desc := "(II)I" } : Jvm.MethodName) ∈ lw_u := lw_in wt_774 rfl
theorem wt_775 : Jvm.Cond.methodLink "CallMelt" (168 : Nat) ({ cls := "CallMelt$Melter", name := "writeOut", desc := "(I)I" } : Jvm.MethodName) ∈ lw_tbl := List.mem_of_getElem? (i := 775) (by decide +kernel)
theorem wd_775 : Jvm.Cond.methodLink "CallMelt" (168 : Nat) ({ cls := "CallMelt$Melter", name := "writeOut", desc := "(I)I" } : Jvm.MethodName) ∈ lw_u := lw_in wt_775 rfl
theorem wt_776 : Jvm.Cond.instanceMethod ({ cls := "CallMelt$Melter", name := "writeOut", desc := "(I)I" } : Jvm.MethodName) ∈ lw_tbl := List.mem_of_getElem? (i := 776) (by decide +kernel)
theorem wd_776 : Jvm.Cond.instanceMethod ({ cls := "CallMelt$Melter", name := "writeOut", desc := "(I)I" } : Jvm.MethodName) ∈ lw_u := lw_in wt_776 rfl
theorem wt_777 : Jvm.Cond.selects "CallMelt$Melter" ({ cls := "CallMelt$Melter", name := "writeOut", desc := "(I)I" } : Jvm.MethodName) ({ cls := "CallMelt$Melter", name := "writeOut", desc := "(I)I" } : Jvm.MethodName) ∈ lw_tbl := List.mem_of_getElem? (i := 777) (by decide +kernel)
theorem wd_777 : Jvm.Cond.selects "CallMelt$Melter" ({ cls := "CallMelt$Melter", name := "writeOut", desc := "(I)I" } : Jvm.MethodName) ({ cls := "CallMelt$Melter", name := "writeOut", desc := "(I)I" } : Jvm.MethodName) ∈ lw_u := lw_in wt_777 rfl
theorem wt_778 : Jvm.Cond.code ({ cls := "CallMelt$Melter", name := "writeOut", desc := "(I)I" } : Jvm.MethodName) prog_5_method_5_code (11 : Nat) (Option.some Jvm.ClassFile.FieldType.int) ∈ lw_tbl := List.mem_of_getElem? (i := 778) (by decide +kernel)
theorem wg_778 : Jvm.Cond.code ({ cls := "CallMelt$Melter", name := "writeOut", desc := "(I)I" } : Jvm.MethodName) prog_5_method_5_code (11 : Nat) (Option.some Jvm.ClassFile.FieldType.int) ∈ lw_g := List.mem_filter.mpr ⟨wt_778, rfl⟩
theorem wd_778 : Jvm.Cond.code ({ cls := "CallMelt$Melter", name := "writeOut", desc := "(I)I" } : Jvm.MethodName) prog_5_method_5_code (11 : Nat) (Option.some Jvm.ClassFile.FieldType.int) ∈ lw_u := lw_in wt_778 rfl
theorem wt_779 : Jvm.Cond.methodLink "CallMelt$Melter" (78 : Nat) ({ cls := "CallMelt$Walk", name := "over", desc := "(LCallMelt$Rows;I)V" } : Jvm.MethodName) ∈ lw_tbl := List.mem_of_getElem? (i := 779) (by decide +kernel)
theorem wd_779 : Jvm.Cond.methodLink "CallMelt$Melter" (78 : Nat) ({ cls := "CallMelt$Walk", name := "over", desc := "(LCallMelt$Rows;I)V" } : Jvm.MethodName) ∈ lw_u := lw_in wt_779 rfl
theorem wt_780 : Jvm.Cond.methodLink "CallMelt$Melter" (84 : Nat) ({ cls := "CallMelt$Code", name := "add", desc := "(II)I" } : Jvm.MethodName) ∈ lw_tbl := List.mem_of_getElem? (i := 780) (by decide +kernel)
theorem wd_780 : Jvm.Cond.methodLink "CallMelt$Melter" (84 : Nat) ({ cls := "CallMelt$Code", name := "add", desc := "(II)I" } : Jvm.MethodName) ∈ lw_u := lw_in wt_780 rfl
theorem wt_781 : Jvm.Cond.methodLink "CallMelt$Melter" (87 : Nat) ({ cls := "CallMelt$Code", name := "append", desc := "(II)V" } : Jvm.MethodName) ∈ lw_tbl := List.mem_of_getElem? (i := 781) (by decide +kernel)
theorem wd_781 : Jvm.Cond.methodLink "CallMelt$Melter" (87 : Nat) ({ cls := "CallMelt$Code", name := "append", desc := "(II)V" } : Jvm.MethodName) ∈ lw_u := lw_in wt_781 rfl
theorem wt_782 : Jvm.Cond.methodLink "CallMelt$Melter" (91 : Nat) ({ cls := "CallMelt$Melter", name := "moveOrZero", desc := "(II)V" } : Jvm.MethodName) ∈ lw_tbl := List.mem_of_getElem? (i := 782) (by decide +kernel)
theorem wd_782 : Jvm.Cond.methodLink "CallMelt$Melter" (91 : Nat) ({ cls := "CallMelt$Melter", name := "moveOrZero", desc := "(II)V" } : Jvm.MethodName) ∈ lw_u := lw_in wt_782 rfl
theorem wt_784 : Jvm.Cond.instanceMethod ({ cls := "CallMelt$Melter", name := "moveOrZero", desc := "(II)V" } : Jvm.MethodName) ∈ lw_tbl := List.mem_of_getElem? (i := 784) (by decide +kernel)
theorem wd_784 : Jvm.Cond.instanceMethod ({ cls := "CallMelt$Melter", name := "moveOrZero", desc := "(II)V" } : Jvm.MethodName) ∈ lw_u := lw_in wt_784 rfl
theorem wt_785 : Jvm.Cond.code ({ cls := "CallMelt$Melter", name := "moveOrZero", desc := "(II)V" } : Jvm.MethodName) prog_5_method_6_code (3 : Nat) (Option.none : Option Jvm.ClassFile.FieldType) ∈ lw_tbl := List.mem_of_getElem? (i := 785) (by decide +kernel)
theorem wg_785 : Jvm.Cond.code ({ cls := "CallMelt$Melter", name := "moveOrZero", desc := "(II)V" } : Jvm.MethodName) prog_5_method_6_code (3 : Nat) (Option.none : Option Jvm.ClassFile.FieldType) ∈ lw_g := List.mem_filter.mpr ⟨wt_785, rfl⟩
theorem wd_785 : Jvm.Cond.code ({ cls := "CallMelt$Melter", name := "moveOrZero", desc := "(II)V" } : Jvm.MethodName) prog_5_method_6_code (3 : Nat) (Option.none : Option Jvm.ClassFile.FieldType) ∈ lw_u := lw_in wt_785 rfl
theorem wt_786 : Jvm.Cond.methodLink "CallMelt$Melter" (104 : Nat) ({ cls := "CallMelt$Code", name := "loosen", desc := "(I)V" } : Jvm.MethodName) ∈ lw_tbl := List.mem_of_getElem? (i := 786) (by decide +kernel)
theorem wd_786 : Jvm.Cond.methodLink "CallMelt$Melter" (104 : Nat) ({ cls := "CallMelt$Code", name := "loosen", desc := "(I)V" } : Jvm.MethodName) ∈ lw_u := lw_in wt_786 rfl
theorem wt_787 : Jvm.Cond.instanceMethod ({ cls := "CallMelt$Code", name := "loosen", desc := "(I)V" } : Jvm.MethodName) ∈ lw_tbl := List.mem_of_getElem? (i := 787) (by decide +kernel)
theorem wd_787 : Jvm.Cond.instanceMethod ({ cls := "CallMelt$Code", name := "loosen", desc := "(I)V" } : Jvm.MethodName) ∈ lw_u := lw_in wt_787 rfl
theorem wt_788 : Jvm.Cond.selects "CallMelt$Code" ({ cls := "CallMelt$Code", name := "loosen", desc := "(I)V" } : Jvm.MethodName) ({ cls := "CallMelt$Code", name := "loosen", desc := "(I)V" } : Jvm.MethodName) ∈ lw_tbl := List.mem_of_getElem? (i := 788) (by decide +kernel)
theorem wd_788 : Jvm.Cond.selects "CallMelt$Code" ({ cls := "CallMelt$Code", name := "loosen", desc := "(I)V" } : Jvm.MethodName) ({ cls := "CallMelt$Code", name := "loosen", desc := "(I)V" } : Jvm.MethodName) ∈ lw_u := lw_in wt_788 rfl
theorem wt_789 : Jvm.Cond.code ({ cls := "CallMelt$Code", name := "loosen", desc := "(I)V" } : Jvm.MethodName) prog_3_method_30_code (4 : Nat) (Option.none : Option Jvm.ClassFile.FieldType) ∈ lw_tbl := List.mem_of_getElem? (i := 789) (by decide +kernel)
theorem wg_789 : Jvm.Cond.code ({ cls := "CallMelt$Code", name := "loosen", desc := "(I)V" } : Jvm.MethodName) prog_3_method_30_code (4 : Nat) (Option.none : Option Jvm.ClassFile.FieldType) ∈ lw_g := List.mem_filter.mpr ⟨wt_789, rfl⟩
theorem wd_789 : Jvm.Cond.code ({ cls := "CallMelt$Code", name := "loosen", desc := "(I)V" } : Jvm.MethodName) prog_3_method_30_code (4 : Nat) (Option.none : Option Jvm.ClassFile.FieldType) ∈ lw_u := lw_in wt_789 rfl
theorem wt_790 : Jvm.Cond.methodLink "CallMelt$Melter" (94 : Nat) ({ cls := "CallMelt$Melter", name := "writeOff", desc := "(II)V" } : Jvm.MethodName) ∈ lw_tbl := List.mem_of_getElem? (i := 790) (by decide +kernel)
theorem wd_790 : Jvm.Cond.methodLink "CallMelt$Melter" (94 : Nat) ({ cls := "CallMelt$Melter", name := "writeOff", desc := "(II)V" } : Jvm.MethodName) ∈ lw_u := lw_in wt_790 rfl
theorem wt_792 : Jvm.Cond.instanceMethod ({ cls := "CallMelt$Melter", name := "writeOff", desc := "(II)V" } : Jvm.MethodName) ∈ lw_tbl := List.mem_of_getElem? (i := 792) (by decide +kernel)
theorem wd_792 : Jvm.Cond.instanceMethod ({ cls := "CallMelt$Melter", name := "writeOff", desc := "(II)V" } : Jvm.MethodName) ∈ lw_u := lw_in wt_792 rfl
theorem wt_793 : Jvm.Cond.code ({ cls := "CallMelt$Melter", name := "writeOff", desc := "(II)V" } : Jvm.MethodName) prog_5_method_7_code (9 : Nat) (Option.none : Option Jvm.ClassFile.FieldType) ∈ lw_tbl := List.mem_of_getElem? (i := 793) (by decide +kernel)
theorem wg_793 : Jvm.Cond.code ({ cls := "CallMelt$Melter", name := "writeOff", desc := "(II)V" } : Jvm.MethodName) prog_5_method_7_code (9 : Nat) (Option.none : Option Jvm.ClassFile.FieldType) ∈ lw_g := List.mem_filter.mpr ⟨wt_793, rfl⟩
theorem wd_793 : Jvm.Cond.code ({ cls := "CallMelt$Melter", name := "writeOff", desc := "(II)V" } : Jvm.MethodName) prog_5_method_7_code (9 : Nat) (Option.none : Option Jvm.ClassFile.FieldType) ∈ lw_u := lw_in wt_793 rfl
theorem wt_794 : Jvm.Cond.methodLink "CallMelt$Melter" (116 : Nat) ({ cls := "CallMelt$Code", name := "kindOf", desc := "(I)I" } : Jvm.MethodName) ∈ lw_tbl := List.mem_of_getElem? (i := 794) (by decide +kernel)
theorem wd_794 : Jvm.Cond.methodLink "CallMelt$Melter" (116 : Nat) ({ cls := "CallMelt$Code", name := "kindOf", desc := "(I)I" } : Jvm.MethodName) ∈ lw_u := lw_in wt_794 rfl
theorem wt_795 : Jvm.Cond.methodLink "CallMelt$Melter" (97 : Nat) ({ cls := "CallMelt$Code", name := "takePlace", desc := "(II)V" } : Jvm.MethodName) ∈ lw_tbl := List.mem_of_getElem? (i := 795) (by decide +kernel)
theorem wd_795 : Jvm.Cond.methodLink "CallMelt$Melter" (97 : Nat) ({ cls := "CallMelt$Code", name := "takePlace", desc := "(II)V" } : Jvm.MethodName) ∈ lw_u := lw_in wt_795 rfl
theorem wt_796 : Jvm.Cond.instanceMethod ({ cls := "CallMelt$Code", name := "takePlace", desc := "(II)V" } : Jvm.MethodName) ∈ lw_tbl := List.mem_of_getElem? (i := 796) (by decide +kernel)
theorem wd_796 : Jvm.Cond.instanceMethod ({ cls := "CallMelt$Code", name := "takePlace", desc := "(II)V" } : Jvm.MethodName) ∈ lw_u := lw_in wt_796 rfl
theorem wt_797 : Jvm.Cond.selects "CallMelt$Code" ({ cls := "CallMelt$Code", name := "takePlace", desc := "(II)V" } : Jvm.MethodName) ({ cls := "CallMelt$Code", name := "takePlace", desc := "(II)V" } : Jvm.MethodName) ∈ lw_tbl := List.mem_of_getElem? (i := 797) (by decide +kernel)
theorem wd_797 : Jvm.Cond.selects "CallMelt$Code" ({ cls := "CallMelt$Code", name := "takePlace", desc := "(II)V" } : Jvm.MethodName) ({ cls := "CallMelt$Code", name := "takePlace", desc := "(II)V" } : Jvm.MethodName) ∈ lw_u := lw_in wt_797 rfl
theorem wt_798 : Jvm.Cond.code ({ cls := "CallMelt$Code", name := "takePlace", desc := "(II)V" } : Jvm.MethodName) prog_3_method_31_code (5 : Nat) (Option.none : Option Jvm.ClassFile.FieldType) ∈ lw_tbl := List.mem_of_getElem? (i := 798) (by decide +kernel)
theorem wg_798 : Jvm.Cond.code ({ cls := "CallMelt$Code", name := "takePlace", desc := "(II)V" } : Jvm.MethodName) prog_3_method_31_code (5 : Nat) (Option.none : Option Jvm.ClassFile.FieldType) ∈ lw_g := List.mem_filter.mpr ⟨wt_798, rfl⟩
theorem wd_798 : Jvm.Cond.code ({ cls := "CallMelt$Code", name := "takePlace", desc := "(II)V" } : Jvm.MethodName) prog_3_method_31_code (5 : Nat) (Option.none : Option Jvm.ClassFile.FieldType) ∈ lw_u := lw_in wt_798 rfl
theorem wt_799 : Jvm.Cond.methodLink "CallMelt$Code" (116 : Nat) ({ cls := "CallMelt$Code", name := "loosen", desc := "(I)V" } : Jvm.MethodName) ∈ lw_tbl := List.mem_of_getElem? (i := 799) (by decide +kernel)
theorem wd_799 : Jvm.Cond.methodLink "CallMelt$Code" (116 : Nat) ({ cls := "CallMelt$Code", name := "loosen", desc := "(I)V" } : Jvm.MethodName) ∈ lw_u := lw_in wt_799 rfl
theorem wt_800 : Jvm.Cond.methodLink "CallMelt$Code" (120 : Nat) ({ cls := "CallMelt$Code", name := "setBody", desc := "(II)V" } : Jvm.MethodName) ∈ lw_tbl := List.mem_of_getElem? (i := 800) (by decide +kernel)
theorem wd_800 : Jvm.Cond.methodLink "CallMelt$Code" (120 : Nat) ({ cls := "CallMelt$Code", name := "setBody", desc := "(II)V" } : Jvm.MethodName) ∈ lw_u := lw_in wt_800 rfl
theorem wt_801 : Jvm.Cond.methodLink "CallMelt$Melter" (100 : Nat) ({ cls := "CallMelt$Code", name := "endTree", desc := "(I)V" } : Jvm.MethodName) ∈ lw_tbl := List.mem_of_getElem? (i := 801) (by decide +kernel)
theorem wd_801 : Jvm.Cond.methodLink "CallMelt$Melter" (100 : Nat) ({ cls := "CallMelt$Code", name := "endTree", desc := "(I)V" } : Jvm.MethodName) ∈ lw_u := lw_in wt_801 rfl
theorem wt_802 : Jvm.Cond.instanceMethod ({ cls := "CallMelt$Code", name := "endTree", desc := "(I)V" } : Jvm.MethodName) ∈ lw_tbl := List.mem_of_getElem? (i := 802) (by decide +kernel)
theorem wd_802 : Jvm.Cond.instanceMethod ({ cls := "CallMelt$Code", name := "endTree", desc := "(I)V" } : Jvm.MethodName) ∈ lw_u := lw_in wt_802 rfl
theorem wt_803 : Jvm.Cond.selects "CallMelt$Code" ({ cls := "CallMelt$Code", name := "endTree", desc := "(I)V" } : Jvm.MethodName) ({ cls := "CallMelt$Code", name := "endTree", desc := "(I)V" } : Jvm.MethodName) ∈ lw_tbl := List.mem_of_getElem? (i := 803) (by decide +kernel)
theorem wd_803 : Jvm.Cond.selects "CallMelt$Code" ({ cls := "CallMelt$Code", name := "endTree", desc := "(I)V" } : Jvm.MethodName) ({ cls := "CallMelt$Code", name := "endTree", desc := "(I)V" } : Jvm.MethodName) ∈ lw_u := lw_in wt_803 rfl
theorem wt_804 : Jvm.Cond.code ({ cls := "CallMelt$Code", name := "endTree", desc := "(I)V" } : Jvm.MethodName) prog_3_method_32_code (3 : Nat) (Option.none : Option Jvm.ClassFile.FieldType) ∈ lw_tbl := List.mem_of_getElem? (i := 804) (by decide +kernel)
theorem wg_804 : Jvm.Cond.code ({ cls := "CallMelt$Code", name := "endTree", desc := "(I)V" } : Jvm.MethodName) prog_3_method_32_code (3 : Nat) (Option.none : Option Jvm.ClassFile.FieldType) ∈ lw_g := List.mem_filter.mpr ⟨wt_804, rfl⟩
theorem wd_804 : Jvm.Cond.code ({ cls := "CallMelt$Code", name := "endTree", desc := "(I)V" } : Jvm.MethodName) prog_3_method_32_code (3 : Nat) (Option.none : Option Jvm.ClassFile.FieldType) ∈ lw_u := lw_in wt_804 rfl
theorem wt_808 : Jvm.Cond.code ({ cls := "CallMelt", name := "gain", desc := "(I)I" } : Jvm.MethodName) prog_1_method_19_code (2 : Nat) (Option.some Jvm.ClassFile.FieldType.int) ∈ lw_tbl := List.mem_of_getElem? (i := 808) (by decide +kernel)
theorem wg_808 : Jvm.Cond.code ({ cls := "CallMelt", name := "gain", desc := "(I)I" } : Jvm.MethodName) prog_1_method_19_code (2 : Nat) (Option.some Jvm.ClassFile.FieldType.int) ∈ lw_g := List.mem_filter.mpr ⟨wt_808, rfl⟩
theorem wd_808 : Jvm.Cond.code ({ cls := "CallMelt", name := "gain", desc := "(I)I" } : Jvm.MethodName) prog_1_method_19_code (2 : Nat) (Option.some Jvm.ClassFile.FieldType.int) ∈ lw_u := lw_in wt_808 rfl
theorem wt_809 : Jvm.Cond.methodLink "CallMelt" (171 : Nat) ({ cls := "CallMelt$Machine", name := "gainOf", desc := "(I)I" } : Jvm.MethodName) ∈ lw_tbl := List.mem_of_getElem? (i := 809) (by decide +kernel)
theorem wd_809 : Jvm.Cond.methodLink "CallMelt" (171 : Nat) ({ cls := "CallMelt$Machine", name := "gainOf", desc := "(I)I" } : Jvm.MethodName) ∈ lw_u := lw_in wt_809 rfl
theorem wt_810 : Jvm.Cond.instanceMethod ({ cls := "CallMelt$Machine", name := "gainOf", desc := "(I)I" } : Jvm.MethodName) ∈ lw_tbl := List.mem_of_getElem? (i := 810) (by decide +kernel)
theorem wd_810 : Jvm.Cond.instanceMethod ({ cls := "CallMelt$Machine", name := "gainOf", desc := "(I)I" } : Jvm.MethodName) ∈ lw_u := lw_in wt_810 rfl
theorem wt_811 : Jvm.Cond.selects "CallMelt$Machine" ({ cls := "CallMelt$Machine", name := "gainOf", desc := "(I)I" } : Jvm.MethodName) ({ cls := "CallMelt$Machine", name := "gainOf", desc := "(I)I" } : Jvm.MethodName) ∈ lw_tbl := List.mem_of_getElem? (i := 811) (by decide +kernel)
theorem wd_811 : Jvm.Cond.selects "CallMelt$Machine" ({ cls := "CallMelt$Machine", name := "gainOf", desc := "(I)I" } : Jvm.MethodName) ({ cls := "CallMelt$Machine", name := "gainOf", desc := "(I)I" } : Jvm.MethodName) ∈ lw_u := lw_in wt_811 rfl
theorem wt_812 : Jvm.Cond.code ({ cls := "CallMelt$Machine", name := "gainOf", desc := "(I)I" } : Jvm.MethodName) prog_4_method_4_code (2 : Nat) (Option.some Jvm.ClassFile.FieldType.int) ∈ lw_tbl := List.mem_of_getElem? (i := 812) (by decide +kernel)
theorem wg_812 : Jvm.Cond.code ({ cls := "CallMelt$Machine", name := "gainOf", desc := "(I)I" } : Jvm.MethodName) prog_4_method_4_code (2 : Nat) (Option.some Jvm.ClassFile.FieldType.int) ∈ lw_g := List.mem_filter.mpr ⟨wt_812, rfl⟩
theorem wd_812 : Jvm.Cond.code ({ cls := "CallMelt$Machine", name := "gainOf", desc := "(I)I" } : Jvm.MethodName) prog_4_method_4_code (2 : Nat) (Option.some Jvm.ClassFile.FieldType.int) ∈ lw_u := lw_in wt_812 rfl
theorem wt_813 : Jvm.Cond.methodLink "CallMelt$Machine" (45 : Nat) ({ cls := "CallMelt$Machine", name := "countOf", desc := "(I)I" } : Jvm.MethodName) ∈ lw_tbl := List.mem_of_getElem? (i := 813) (by decide +kernel)
theorem wd_813 : Jvm.Cond.methodLink "CallMelt$Machine" (45 : Nat) ({ cls := "CallMelt$Machine", name := "countOf", desc := "(I)I" } : Jvm.MethodName) ∈ lw_u := lw_in wt_813 rfl
theorem wt_817 : Jvm.Cond.code ({ cls := "CallMelt", name := "weight", desc := "(I)I" } : Jvm.MethodName) prog_1_method_20_code (2 : Nat) (Option.some Jvm.ClassFile.FieldType.int) ∈ lw_tbl := List.mem_of_getElem? (i := 817) (by decide +kernel)
theorem wg_817 : Jvm.Cond.code ({ cls := "CallMelt", name := "weight", desc := "(I)I" } : Jvm.MethodName) prog_1_method_20_code (2 : Nat) (Option.some Jvm.ClassFile.FieldType.int) ∈ lw_g := List.mem_filter.mpr ⟨wt_817, rfl⟩
theorem wd_817 : Jvm.Cond.code ({ cls := "CallMelt", name := "weight", desc := "(I)I" } : Jvm.MethodName) prog_1_method_20_code (2 : Nat) (Option.some Jvm.ClassFile.FieldType.int) ∈ lw_u := lw_in wt_817 rfl
theorem wt_818 : Jvm.Cond.methodLink "CallMelt" (174 : Nat) ({ cls := "CallMelt$Melter", name := "weightOf", desc := "(I)I" } : Jvm.MethodName) ∈ lw_tbl := List.mem_of_getElem? (i := 818) (by decide +kernel)
theorem wd_818 : Jvm.Cond.methodLink "CallMelt" (174 : Nat) ({ cls := "CallMelt$Melter", name := "weightOf", desc := "(I)I" } : Jvm.MethodName) ∈ lw_u := lw_in wt_818 rfl
theorem wt_822 : Jvm.Cond.code ({ cls := "CallMelt", name := "ahead", desc := "(I)I" } : Jvm.MethodName) prog_1_method_21_code (3 : Nat) (Option.some Jvm.ClassFile.FieldType.int) ∈ lw_tbl := List.mem_of_getElem? (i := 822) (by decide +kernel)
theorem wg_822 : Jvm.Cond.code ({ cls := "CallMelt", name := "ahead", desc := "(I)I" } : Jvm.MethodName) prog_1_method_21_code (3 : Nat) (Option.some Jvm.ClassFile.FieldType.int) ∈ lw_g := List.mem_filter.mpr ⟨wt_822, rfl⟩
theorem wd_822 : Jvm.Cond.code ({ cls := "CallMelt", name := "ahead", desc := "(I)I" } : Jvm.MethodName) prog_1_method_21_code (3 : Nat) (Option.some Jvm.ClassFile.FieldType.int) ∈ lw_u := lw_in wt_822 rfl
theorem wt_823 : Jvm.Cond.methodLink "CallMelt" (177 : Nat) ({ cls := "CallMelt$Worker", name := "workAhead", desc := "(I)Z" } : Jvm.MethodName) ∈ lw_tbl := List.mem_of_getElem? (i := 823) (by decide +kernel)
theorem wd_823 : Jvm.Cond.methodLink "CallMelt" (177 : Nat) ({ cls := "CallMelt$Worker", name := "workAhead", desc := "(I)Z" } : Jvm.MethodName) ∈ lw_u := lw_in wt_823 rfl
theorem wt_824 : Jvm.Cond.instanceMethod ({ cls := "CallMelt$Worker", name := "workAhead", desc := "(I)Z" } : Jvm.MethodName) ∈ lw_tbl := List.mem_of_getElem? (i := 824) (by decide +kernel)
theorem wd_824 : Jvm.Cond.instanceMethod ({ cls := "CallMelt$Worker", name := "workAhead", desc := "(I)Z" } : Jvm.MethodName) ∈ lw_u := lw_in wt_824 rfl
theorem wt_825 : Jvm.Cond.selects "CallMelt$Worker" ({ cls := "CallMelt$Worker", name := "workAhead", desc := "(I)Z" } : Jvm.MethodName) ({ cls := "CallMelt$Worker", name := "workAhead", desc := "(I)Z" } : Jvm.MethodName) ∈ lw_tbl := List.mem_of_getElem? (i := 825) (by decide +kernel)
theorem wd_825 : Jvm.Cond.selects "CallMelt$Worker" ({ cls := "CallMelt$Worker", name := "workAhead", desc := "(I)Z" } : Jvm.MethodName) ({ cls := "CallMelt$Worker", name := "workAhead", desc := "(I)Z" } : Jvm.MethodName) ∈ lw_u := lw_in wt_825 rfl
theorem wt_826 : Jvm.Cond.code ({ cls := "CallMelt$Worker", name := "workAhead", desc := "(I)Z" } : Jvm.MethodName) prog_9_method_2_code (4 : Nat) (Option.some Jvm.ClassFile.FieldType.boolean) ∈ lw_tbl := List.mem_of_getElem? (i := 826) (by decide +kernel)
theorem wg_826 : Jvm.Cond.code ({ cls := "CallMelt$Worker", name := "workAhead", desc := "(I)Z" } : Jvm.MethodName) prog_9_method_2_code (4 : Nat) (Option.some Jvm.ClassFile.FieldType.boolean) ∈ lw_g := List.mem_filter.mpr ⟨wt_826, rfl⟩
theorem wd_826 : Jvm.Cond.code ({ cls := "CallMelt$Worker", name := "workAhead", desc := "(I)Z" } : Jvm.MethodName) prog_9_method_2_code (4 : Nat) (Option.some Jvm.ClassFile.FieldType.boolean) ∈ lw_u := lw_in wt_826 rfl
theorem wt_827 : Jvm.Cond.methodLink "CallMelt$Worker" (41 : Nat) ({ cls := "CallMelt$Worker", name := "firstToChange", desc := "(I)I" } : Jvm.MethodName) ∈ lw_tbl := List.mem_of_getElem? (i := 827) (by decide +kernel)
theorem wd_827 : Jvm.Cond.methodLink "CallMelt$Worker" (41 : Nat) ({ cls := "CallMelt$Worker", name := "firstToChange", desc := "(I)I" } : Jvm.MethodName) ∈ lw_u := lw_in wt_827 rfl
theorem wt_829 : Jvm.Cond.instanceMethod ({ cls := "CallMelt$Worker", name := "firstToChange", desc := "(I)I" } : Jvm.MethodName) ∈ lw_tbl := List.mem_of_getElem? (i := 829) (by decide +kernel)
theorem wd_829 : Jvm.Cond.instanceMethod ({ cls := "CallMelt$Worker", name := "firstToChange", desc := "(I)I" } : Jvm.MethodName) ∈ lw_u := lw_in wt_829 rfl
theorem wt_830 : Jvm.Cond.code ({ cls := "CallMelt$Worker", name := "firstToChange", desc := "(I)I" } : Jvm.MethodName) prog_9_method_3_code (3 : Nat) (Option.some Jvm.ClassFile.FieldType.int) ∈ lw_tbl := List.mem_of_getElem? (i := 830) (by decide +kernel)
theorem wg_830 : Jvm.Cond.code ({ cls := "CallMelt$Worker", name := "firstToChange", desc := "(I)I" } : Jvm.MethodName) prog_9_method_3_code (3 : Nat) (Option.some Jvm.ClassFile.FieldType.int) ∈ lw_g := List.mem_filter.mpr ⟨wt_830, rfl⟩
theorem wd_830 : Jvm.Cond.code ({ cls := "CallMelt$Worker", name := "firstToChange", desc := "(I)I" } : Jvm.MethodName) prog_9_method_3_code (3 : Nat) (Option.some Jvm.ClassFile.FieldType.int) ∈ lw_u := lw_in wt_830 rfl
theorem wt_831 : Jvm.Cond.methodLink "CallMelt$Worker" (60 : Nat) ({ cls := "CallMelt$Code", name := "bodyOf", desc := "(I)I" } : Jvm.MethodName) ∈ lw_tbl := List.mem_of_getElem? (i := 831) (by decide +kernel)
theorem wd_831 : Jvm.Cond.methodLink "CallMelt$Worker" (60 : Nat) ({ cls := "CallMelt$Code", name := "bodyOf", desc := "(I)I" } : Jvm.MethodName) ∈ lw_u := lw_in wt_831 rfl
theorem wt_832 : Jvm.Cond.methodLink "CallMelt$Worker" (63 : Nat) ({ cls := "CallMelt$Walk", name := "over", desc := "(LCallMelt$Rows;I)V" } : Jvm.MethodName) ∈ lw_tbl := List.mem_of_getElem? (i := 832) (by decide +kernel)
theorem wd_832 : Jvm.Cond.methodLink "CallMelt$Worker" (63 : Nat) ({ cls := "CallMelt$Walk", name := "over", desc := "(LCallMelt$Rows;I)V" } : Jvm.MethodName) ∈ lw_u := lw_in wt_832 rfl
theorem wt_833 : Jvm.Cond.methodLink "CallMelt$Worker" (67 : Nat) ({ cls := "CallMelt$Worker", name := "tallyNames", desc := "()V" } : Jvm.MethodName) ∈ lw_tbl := List.mem_of_getElem? (i := 833) (by decide +kernel)
theorem wd_833 : Jvm.Cond.methodLink "CallMelt$Worker" (67 : Nat) ({ cls := "CallMelt$Worker", name := "tallyNames", desc := "()V" } : Jvm.MethodName) ∈ lw_u := lw_in wt_833 rfl
theorem wt_835 : Jvm.Cond.instanceMethod ({ cls := "CallMelt$Worker", name := "tallyNames", desc := "()V" } : Jvm.MethodName) ∈ lw_tbl := List.mem_of_getElem? (i := 835) (by decide +kernel)
theorem wd_835 : Jvm.Cond.instanceMethod ({ cls := "CallMelt$Worker", name := "tallyNames", desc := "()V" } : Jvm.MethodName) ∈ lw_u := lw_in wt_835 rfl
theorem wt_836 : Jvm.Cond.code ({ cls := "CallMelt$Worker", name := "tallyNames", desc := "()V" } : Jvm.MethodName) prog_9_method_4_code (4 : Nat) (Option.none : Option Jvm.ClassFile.FieldType) ∈ lw_tbl := List.mem_of_getElem? (i := 836) (by decide +kernel)
theorem wg_836 : Jvm.Cond.code ({ cls := "CallMelt$Worker", name := "tallyNames", desc := "()V" } : Jvm.MethodName) prog_9_method_4_code (4 : Nat) (Option.none : Option Jvm.ClassFile.FieldType) ∈ lw_g := List.mem_filter.mpr ⟨wt_836, rfl⟩
theorem wd_836 : Jvm.Cond.code ({ cls := "CallMelt$Worker", name := "tallyNames", desc := "()V" } : Jvm.MethodName) prog_9_method_4_code (4 : Nat) (Option.none : Option Jvm.ClassFile.FieldType) ∈ lw_u := lw_in wt_836 rfl
theorem wt_837 : Jvm.Cond.methodLink "CallMelt$Worker" (83 : Nat) ({ cls := "java/util/Arrays", name := "fill", desc := "([II)V" } : Jvm.MethodName) ∈ lw_tbl := List.mem_of_getElem? (i := 837) (by decide +kernel)
theorem wd_837 : Jvm.Cond.methodLink "CallMelt$Worker" (83 : Nat) ({ cls := "java/util/Arrays", name := "fill", desc := "([II)V" } : Jvm.MethodName) ∈ lw_u := lw_in wt_837 rfl
theorem wt_838 : Jvm.Cond.methodLink "CallMelt$Worker" (89 : Nat) ({ cls := "CallMelt$Code", name := "numberOf", desc := "(I)I" } : Jvm.MethodName) ∈ lw_tbl := List.mem_of_getElem? (i := 838) (by decide +kernel)
theorem wd_838 : Jvm.Cond.methodLink "CallMelt$Worker" (89 : Nat) ({ cls := "CallMelt$Code", name := "numberOf", desc := "(I)I" } : Jvm.MethodName) ∈ lw_u := lw_in wt_838 rfl
theorem wt_839 : Jvm.Cond.methodLink "CallMelt$Worker" (92 : Nat) ({ cls := "CallMelt$Code", name := "kindOf", desc := "(I)I" } : Jvm.MethodName) ∈ lw_tbl := List.mem_of_getElem? (i := 839) (by decide +kernel)
theorem wd_839 : Jvm.Cond.methodLink "CallMelt$Worker" (92 : Nat) ({ cls := "CallMelt$Code", name := "kindOf", desc := "(I)I" } : Jvm.MethodName) ∈ lw_u := lw_in wt_839 rfl
theorem wt_840 : Jvm.Cond.methodLinkNest "CallMelt$Worker" (95 : Nat) ({ cls := "CallMelt", name := "isName", desc := "(I)Z" } : Jvm.MethodName) "CallMelt" ∈ lw_tbl := List.mem_of_getElem? (i := 840) (by decide +kernel)
theorem wd_840 : Jvm.Cond.methodLinkNest "CallMelt$Worker" (95 : Nat) ({ cls := "CallMelt", name := "isName", desc := "(I)Z" } : Jvm.MethodName) "CallMelt" ∈ lw_u := lw_inN wt_840 rfl
theorem wt_841 : Jvm.Cond.methodLink "CallMelt$Worker" (76 : Nat) ({ cls := "CallMelt$Code", name := "paramsOf", desc := "(I)I" } : Jvm.MethodName) ∈ lw_tbl := List.mem_of_getElem? (i := 841) (by decide +kernel)
theorem wd_841 : Jvm.Cond.methodLink "CallMelt$Worker" (76 : Nat) ({ cls := "CallMelt$Code", name := "paramsOf", desc := "(I)I" } : Jvm.MethodName) ∈ lw_u := lw_in wt_841 rfl
theorem wt_842 : Jvm.Cond.methodLink "CallMelt$Worker" (79 : Nat) ({ cls := "CallMelt$Worker", name := "canChange", desc := "(II)Z" } : Jvm.MethodName) ∈ lw_tbl := List.mem_of_getElem? (i := 842) (by decide +kernel)
theorem wd_842 : Jvm.Cond.methodLink "CallMelt$Worker" (79 : Nat) ({ cls := "CallMelt$Worker", name := "canChange", desc := "(II)Z" } : Jvm.MethodName) ∈ lw_u := lw_in wt_842 rfl
theorem wt_844 : Jvm.Cond.instanceMethod ({ cls := "CallMelt$Worker", name := "canChange", desc := "(II)Z" } : Jvm.MethodName) ∈ lw_tbl := List.mem_of_getElem? (i := 844) (by decide +kernel)
theorem wd_844 : Jvm.Cond.instanceMethod ({ cls := "CallMelt$Worker", name := "canChange", desc := "(II)Z" } : Jvm.MethodName) ∈ lw_u := lw_in wt_844 rfl
theorem wt_845 : Jvm.Cond.code ({ cls := "CallMelt$Worker", name := "canChange", desc := "(II)Z" } : Jvm.MethodName) prog_9_method_5_code (5 : Nat) (Option.some Jvm.ClassFile.FieldType.boolean) ∈ lw_tbl := List.mem_of_getElem? (i := 845) (by decide +kernel)
theorem wg_845 : Jvm.Cond.code ({ cls := "CallMelt$Worker", name := "canChange", desc := "(II)Z" } : Jvm.MethodName) prog_9_method_5_code (5 : Nat) (Option.some Jvm.ClassFile.FieldType.boolean) ∈ lw_g := List.mem_filter.mpr ⟨wt_845, rfl⟩
theorem wd_845 : Jvm.Cond.code ({ cls := "CallMelt$Worker", name := "canChange", desc := "(II)Z" } : Jvm.MethodName) prog_9_method_5_code (5 : Nat) (Option.some Jvm.ClassFile.FieldType.boolean) ∈ lw_u := lw_in wt_845 rfl
theorem wt_846 : Jvm.Cond.methodLink "CallMelt$Worker" (105 : Nat) ({ cls := "CallMelt$Worker", name := "canReckon", desc := "(I)Z" } : Jvm.MethodName) ∈ lw_tbl := List.mem_of_getElem? (i := 846) (by decide +kernel)
theorem wd_846 : Jvm.Cond.methodLink "CallMelt$Worker" (105 : Nat) ({ cls := "CallMelt$Worker", name := "canReckon", desc := "(I)Z" } : Jvm.MethodName) ∈ lw_u := lw_in wt_846 rfl
theorem wt_848 : Jvm.Cond.instanceMethod ({ cls := "CallMelt$Worker", name := "canReckon", desc := "(I)Z" } : Jvm.MethodName) ∈ lw_tbl := List.mem_of_getElem? (i := 848) (by decide +kernel)
theorem wd_848 : Jvm.Cond.instanceMethod ({ cls := "CallMelt$Worker", name := "canReckon", desc := "(I)Z" } : Jvm.MethodName) ∈ lw_u := lw_in wt_848 rfl
theorem wt_849 : Jvm.Cond.code ({ cls := "CallMelt$Worker", name := "canReckon", desc := "(I)Z" } : Jvm.MethodName) prog_9_method_6_code (4 : Nat) (Option.some Jvm.ClassFile.FieldType.boolean) ∈ lw_tbl := List.mem_of_getElem? (i := 849) (by decide +kernel)
theorem wg_849 : Jvm.Cond.code ({ cls := "CallMelt$Worker", name := "canReckon", desc := "(I)Z" } : Jvm.MethodName) prog_9_method_6_code (4 : Nat) (Option.some Jvm.ClassFile.FieldType.boolean) ∈ lw_g := List.mem_filter.mpr ⟨wt_849, rfl⟩
theorem wd_849 : Jvm.Cond.code ({ cls := "CallMelt$Worker", name := "canReckon", desc := "(I)Z" } : Jvm.MethodName) prog_9_method_6_code (4 : Nat) (Option.some Jvm.ClassFile.FieldType.boolean) ∈ lw_u := lw_in wt_849 rfl
theorem wt_850 : Jvm.Cond.methodLink "CallMelt$Worker" (108 : Nat) ({ cls := "CallMelt$Code", name := "partOf", desc := "(II)I" } : Jvm.MethodName) ∈ lw_tbl := List.mem_of_getElem? (i := 850) (by decide +kernel)
theorem wd_850 : Jvm.Cond.methodLink "CallMelt$Worker" (108 : Nat) ({ cls := "CallMelt$Code", name := "partOf", desc := "(II)I" } : Jvm.MethodName) ∈ lw_u := lw_in wt_850 rfl
theorem wt_851 : Jvm.Cond.methodLinkNest "CallMelt$Worker" (118 : Nat) ({ cls := "CallMelt", name := "reckon", desc := "(III)I" } : Jvm.MethodName) "CallMelt" ∈ lw_tbl := List.mem_of_getElem? (i := 851) (by decide +kernel)
theorem wd_851 : Jvm.Cond.methodLinkNest "CallMelt$Worker" (118 : Nat) ({ cls := "CallMelt", name := "reckon", desc := "(III)I" } : Jvm.MethodName) "CallMelt" ∈ lw_u := lw_inN wt_851 rfl
theorem wt_852 : Jvm.Cond.methodLink "CallMelt$Worker" (112 : Nat) ({ cls := "CallMelt$Worker", name := "canFix", desc := "(II)Z" } : Jvm.MethodName) ∈ lw_tbl := List.mem_of_getElem? (i := 852) (by decide +kernel)
theorem wd_852 : Jvm.Cond.methodLink "CallMelt$Worker" (112 : Nat) ({ cls := "CallMelt$Worker", name := "canFix", desc := "(II)Z" } : Jvm.MethodName) ∈ lw_u := lw_in wt_852 rfl
theorem wt_854 : Jvm.Cond.instanceMethod ({ cls := "CallMelt$Worker", name := "canFix", desc := "(II)Z" } : Jvm.MethodName) ∈ lw_tbl := List.mem_of_getElem? (i := 854) (by decide +kernel)
theorem wd_854 : Jvm.Cond.instanceMethod ({ cls := "CallMelt$Worker", name := "canFix", desc := "(II)Z" } : Jvm.MethodName) ∈ lw_u := lw_in wt_854 rfl
theorem wt_855 : Jvm.Cond.code ({ cls := "CallMelt$Worker", name := "canFix", desc := "(II)Z" } : Jvm.MethodName) prog_9_method_7_code (8 : Nat) (Option.some Jvm.ClassFile.FieldType.boolean) ∈ lw_tbl := List.mem_of_getElem? (i := 855) (by decide +kernel)
theorem wg_855 : Jvm.Cond.code ({ cls := "CallMelt$Worker", name := "canFix", desc := "(II)Z" } : Jvm.MethodName) prog_9_method_7_code (8 : Nat) (Option.some Jvm.ClassFile.FieldType.boolean) ∈ lw_g := List.mem_filter.mpr ⟨wt_855, rfl⟩
theorem wd_855 : Jvm.Cond.code ({ cls := "CallMelt$Worker", name := "canFix", desc := "(II)Z" } : Jvm.MethodName) prog_9_method_7_code (8 : Nat) (Option.some Jvm.ClassFile.FieldType.boolean) ∈ lw_u := lw_in wt_855 rfl
theorem wt_856 : Jvm.Cond.methodLink "CallMelt$Worker" (122 : Nat) ({ cls := "CallMelt$Worker", name := "isNameStep", desc := "(II)Z" } : Jvm.MethodName) ∈ lw_tbl := List.mem_of_getElem? (i := 856) (by decide +kernel)
theorem wd_856 : Jvm.Cond.methodLink "CallMelt$Worker" (122 : Nat) ({ cls := "CallMelt$Worker", name := "isNameStep", desc := "(II)Z" } : Jvm.MethodName) ∈ lw_u := lw_in wt_856 rfl
theorem wt_858 : Jvm.Cond.instanceMethod ({ cls := "CallMelt$Worker", name := "isNameStep", desc := "(II)Z" } : Jvm.MethodName) ∈ lw_tbl := List.mem_of_getElem? (i := 858) (by decide +kernel)
theorem wd_858 : Jvm.Cond.instanceMethod ({ cls := "CallMelt$Worker", name := "isNameStep", desc := "(II)Z" } : Jvm.MethodName) ∈ lw_u := lw_in wt_858 rfl
theorem wt_859 : Jvm.Cond.code ({ cls := "CallMelt$Worker", name := "isNameStep", desc := "(II)Z" } : Jvm.MethodName) prog_9_method_8_code (3 : Nat) (Option.some Jvm.ClassFile.FieldType.boolean) ∈ lw_tbl := List.mem_of_getElem? (i := 859) (by decide +kernel)
theorem wg_859 : Jvm.Cond.code ({ cls := "CallMelt$Worker", name := "isNameStep", desc := "(II)Z" } : Jvm.MethodName) prog_9_method_8_code (3 : Nat) (Option.some Jvm.ClassFile.FieldType.boolean) ∈ lw_g := List.mem_filter.mpr ⟨wt_859, rfl⟩
theorem wd_859 : Jvm.Cond.code ({ cls := "CallMelt$Worker", name := "isNameStep", desc := "(II)Z" } : Jvm.MethodName) prog_9_method_8_code (3 : Nat) (Option.some Jvm.ClassFile.FieldType.boolean) ∈ lw_u := lw_in wt_859 rfl
theorem wt_860 : Jvm.Cond.methodLink "CallMelt$Worker" (115 : Nat) ({ cls := "CallMelt$Worker", name := "isLeft", desc := "(I)Z" } : Jvm.MethodName) ∈ lw_tbl := List.mem_of_getElem? (i := 860) (by decide +kernel)
theorem wd_860 : Jvm.Cond.methodLink "CallMelt$Worker" (115 : Nat) ({ cls := "CallMelt$Worker", name := "isLeft", desc := "(I)Z" } : Jvm.MethodName) ∈ lw_u := lw_in wt_860 rfl
theorem wt_862 : Jvm.Cond.instanceMethod ({ cls := "CallMelt$Worker", name := "isLeft", desc := "(I)Z" } : Jvm.MethodName) ∈ lw_tbl := List.mem_of_getElem? (i := 862) (by decide +kernel)
theorem wd_862 : Jvm.Cond.instanceMethod ({ cls := "CallMelt$Worker", name := "isLeft", desc := "(I)Z" } : Jvm.MethodName) ∈ lw_u := lw_in wt_862 rfl
theorem wt_863 : Jvm.Cond.code ({ cls := "CallMelt$Worker", name := "isLeft", desc := "(I)Z" } : Jvm.MethodName) prog_9_method_9_code (5 : Nat) (Option.some Jvm.ClassFile.FieldType.boolean) ∈ lw_tbl := List.mem_of_getElem? (i := 863) (by decide +kernel)
theorem wg_863 : Jvm.Cond.code ({ cls := "CallMelt$Worker", name := "isLeft", desc := "(I)Z" } : Jvm.MethodName) prog_9_method_9_code (5 : Nat) (Option.some Jvm.ClassFile.FieldType.boolean) ∈ lw_g := List.mem_filter.mpr ⟨wt_863, rfl⟩
theorem wd_863 : Jvm.Cond.code ({ cls := "CallMelt$Worker", name := "isLeft", desc := "(I)Z" } : Jvm.MethodName) prog_9_method_9_code (5 : Nat) (Option.some Jvm.ClassFile.FieldType.boolean) ∈ lw_u := lw_in wt_863 rfl
theorem wt_864 : Jvm.Cond.methodLink "CallMelt$Worker" (49 : Nat) ({ cls := "CallMelt$Worker", name := "namesBecomeNumbers", desc := "()V" } : Jvm.MethodName) ∈ lw_tbl := List.mem_of_getElem? (i := 864) (by decide +kernel)
theorem wd_864 : Jvm.Cond.methodLink "CallMelt$Worker" (49 : Nat) ({ cls := "CallMelt$Worker", name := "namesBecomeNumbers", desc := "()V" } : Jvm.MethodName) ∈ lw_u := lw_in wt_864 rfl
theorem wt_866 : Jvm.Cond.instanceMethod ({ cls := "CallMelt$Worker", name := "namesBecomeNumbers", desc := "()V" } : Jvm.MethodName) ∈ lw_tbl := List.mem_of_getElem? (i := 866) (by decide +kernel)
theorem wd_866 : Jvm.Cond.instanceMethod ({ cls := "CallMelt$Worker", name := "namesBecomeNumbers", desc := "()V" } : Jvm.MethodName) ∈ lw_u := lw_in wt_866 rfl
theorem wt_867 : Jvm.Cond.code ({ cls := "CallMelt$Worker", name := "namesBecomeNumbers", desc := "()V" } : Jvm.MethodName) prog_9_method_11_code (2 : Nat) (Option.none : Option Jvm.ClassFile.FieldType) ∈ lw_tbl := List.mem_of_getElem? (i := 867) (by decide +kernel)
theorem wg_867 : Jvm.Cond.code ({ cls := "CallMelt$Worker", name := "namesBecomeNumbers", desc := "()V" } : Jvm.MethodName) prog_9_method_11_code (2 : Nat) (Option.none : Option Jvm.ClassFile.FieldType) ∈ lw_g := List.mem_filter.mpr ⟨wt_867, rfl⟩
theorem wd_867 : Jvm.Cond.code ({ cls := "CallMelt$Worker", name := "namesBecomeNumbers", desc := "()V" } : Jvm.MethodName) prog_9_method_11_code (2 : Nat) (Option.none : Option Jvm.ClassFile.FieldType) ∈ lw_u := lw_in wt_867 rfl
theorem wt_868 : Jvm.Cond.methodLink "CallMelt$Worker" (128 : Nat) ({ cls := "CallMelt$Worker", name := "becomeNumber", desc := "(I)V" } : Jvm.MethodName) ∈ lw_tbl := List.mem_of_getElem? (i := 868) (by decide +kernel)
theorem wd_868 : Jvm.Cond.methodLink "CallMelt$Worker" (128 : Nat) ({ cls := "CallMelt$Worker", name := "becomeNumber", desc := "(I)V" } : Jvm.MethodName) ∈ lw_u := lw_in wt_868 rfl
theorem wt_870 : Jvm.Cond.instanceMethod ({ cls := "CallMelt$Worker", name := "becomeNumber", desc := "(I)V" } : Jvm.MethodName) ∈ lw_tbl := List.mem_of_getElem? (i := 870) (by decide +kernel)
theorem wd_870 : Jvm.Cond.instanceMethod ({ cls := "CallMelt$Worker", name := "becomeNumber", desc := "(I)V" } : Jvm.MethodName) ∈ lw_u := lw_in wt_870 rfl
theorem wt_871 : Jvm.Cond.code ({ cls := "CallMelt$Worker", name := "becomeNumber", desc := "(I)V" } : Jvm.MethodName) prog_9_method_12_code (3 : Nat) (Option.none : Option Jvm.ClassFile.FieldType) ∈ lw_tbl := List.mem_of_getElem? (i := 871) (by decide +kernel)
theorem wg_871 : Jvm.Cond.code ({ cls := "CallMelt$Worker", name := "becomeNumber", desc := "(I)V" } : Jvm.MethodName) prog_9_method_12_code (3 : Nat) (Option.none : Option Jvm.ClassFile.FieldType) ∈ lw_g := List.mem_filter.mpr ⟨wt_871, rfl⟩
theorem wd_871 : Jvm.Cond.code ({ cls := "CallMelt$Worker", name := "becomeNumber", desc := "(I)V" } : Jvm.MethodName) prog_9_method_12_code (3 : Nat) (Option.none : Option Jvm.ClassFile.FieldType) ∈ lw_u := lw_in wt_871 rfl
theorem wt_872 : Jvm.Cond.methodLink "CallMelt$Worker" (138 : Nat) ({ cls := "CallMelt$Code", name := "add", desc := "(II)I" } : Jvm.MethodName) ∈ lw_tbl := List.mem_of_getElem? (i := 872) (by decide +kernel)
theorem wd_872 : Jvm.Cond.methodLink "CallMelt$Worker" (138 : Nat) ({ cls := "CallMelt$Code", name := "add", desc := "(II)I" } : Jvm.MethodName) ∈ lw_u := lw_in wt_872 rfl
theorem wt_873 : Jvm.Cond.methodLink "CallMelt$Worker" (131 : Nat) ({ cls := "CallMelt$Code", name := "takePlace", desc := "(II)V" } : Jvm.MethodName) ∈ lw_tbl := List.mem_of_getElem? (i := 873) (by decide +kernel)
theorem wd_873 : Jvm.Cond.methodLink "CallMelt$Worker" (131 : Nat) ({ cls := "CallMelt$Code", name := "takePlace", desc := "(II)V" } : Jvm.MethodName) ∈ lw_u := lw_in wt_873 rfl
theorem wt_874 : Jvm.Cond.methodLink "CallMelt$Worker" (135 : Nat) ({ cls := "CallMelt$Code", name := "endTree", desc := "(I)V" } : Jvm.MethodName) ∈ lw_tbl := List.mem_of_getElem? (i := 874) (by decide +kernel)
theorem wd_874 : Jvm.Cond.methodLink "CallMelt$Worker" (135 : Nat) ({ cls := "CallMelt$Code", name := "endTree", desc := "(I)V" } : Jvm.MethodName) ∈ lw_u := lw_in wt_874 rfl
theorem wt_875 : Jvm.Cond.methodLink "CallMelt$Worker" (52 : Nat) ({ cls := "CallMelt$Worker", name := "change", desc := "(I)V" } : Jvm.MethodName) ∈ lw_tbl := List.mem_of_getElem? (i := 875) (by decide +kernel)
theorem wd_875 : Jvm.Cond.methodLink "CallMelt$Worker" (52 : Nat) ({ cls := "CallMelt$Worker", name := "change", desc := "(I)V" } : Jvm.MethodName) ∈ lw_u := lw_in wt_875 rfl
theorem wt_877 : Jvm.Cond.instanceMethod ({ cls := "CallMelt$Worker", name := "change", desc := "(I)V" } : Jvm.MethodName) ∈ lw_tbl := List.mem_of_getElem? (i := 877) (by decide +kernel)
theorem wd_877 : Jvm.Cond.instanceMethod ({ cls := "CallMelt$Worker", name := "change", desc := "(I)V" } : Jvm.MethodName) ∈ lw_u := lw_in wt_877 rfl
theorem wt_878 : Jvm.Cond.code ({ cls := "CallMelt$Worker", name := "change", desc := "(I)V" } : Jvm.MethodName) prog_9_method_10_code (2 : Nat) (Option.none : Option Jvm.ClassFile.FieldType) ∈ lw_tbl := List.mem_of_getElem? (i := 878) (by decide +kernel)
theorem wg_878 : Jvm.Cond.code ({ cls := "CallMelt$Worker", name := "change", desc := "(I)V" } : Jvm.MethodName) prog_9_method_10_code (2 : Nat) (Option.none : Option Jvm.ClassFile.FieldType) ∈ lw_g := List.mem_filter.mpr ⟨wt_878, rfl⟩
theorem wd_878 : Jvm.Cond.code ({ cls := "CallMelt$Worker", name := "change", desc := "(I)V" } : Jvm.MethodName) prog_9_method_10_code (2 : Nat) (Option.none : Option Jvm.ClassFile.FieldType) ∈ lw_u := lw_in wt_878 rfl
theorem wt_879 : Jvm.Cond.methodLink "CallMelt" (180 : Nat) ({ cls := "CallMelt$Past", name := "bringBackHeld", desc := "(LCallMelt$Rows;)V" } : Jvm.MethodName) ∈ lw_tbl := List.mem_of_getElem? (i := 879) (by decide +kernel)
theorem wd_879 : Jvm.Cond.methodLink "CallMelt" (180 : Nat) ({ cls := "CallMelt$Past", name := "bringBackHeld", desc := "(LCallMelt$Rows;)V" } : Jvm.MethodName) ∈ lw_u := lw_in wt_879 rfl
theorem wt_880 : Jvm.Cond.instanceMethod ({ cls := "CallMelt$Past", name := "bringBackHeld", desc := "(LCallMelt$Rows;)V" } : Jvm.MethodName) ∈ lw_tbl := List.mem_of_getElem? (i := 880) (by decide +kernel)
theorem wd_880 : Jvm.Cond.instanceMethod ({ cls := "CallMelt$Past", name := "bringBackHeld", desc := "(LCallMelt$Rows;)V" } : Jvm.MethodName) ∈ lw_u := lw_in wt_880 rfl
theorem wt_881 : Jvm.Cond.selects "CallMelt$Past" ({ cls := "CallMelt$Past", name := "bringBackHeld", desc := "(LCallMelt$Rows;)V" } : Jvm.MethodName) ({ cls := "CallMelt$Past", name := "bringBackHeld", desc := "(LCallMelt$Rows;)V" } : Jvm.MethodName) ∈ lw_tbl := List.mem_of_getElem? (i := 881) (by decide +kernel)
theorem wd_881 : Jvm.Cond.selects "CallMelt$Past" ({ cls := "CallMelt$Past", name := "bringBackHeld", desc := "(LCallMelt$Rows;)V" } : Jvm.MethodName) ({ cls := "CallMelt$Past", name := "bringBackHeld", desc := "(LCallMelt$Rows;)V" } : Jvm.MethodName) ∈ lw_u := lw_in wt_881 rfl
theorem wt_882 : Jvm.Cond.code ({ cls := "CallMelt$Past", name := "bringBackHeld", desc := "(LCallMelt$Rows;)V" } : Jvm.MethodName) prog_6_method_5_code (3 : Nat) (Option.none : Option Jvm.ClassFile.FieldType) ∈ lw_tbl := List.mem_of_getElem? (i := 882) (by decide +kernel)
theorem wg_882 : Jvm.Cond.code ({ cls := "CallMelt$Past", name := "bringBackHeld", desc := "(LCallMelt$Rows;)V" } : Jvm.MethodName) prog_6_method_5_code (3 : Nat) (Option.none : Option Jvm.ClassFile.FieldType) ∈ lw_g := List.mem_filter.mpr ⟨wt_882, rfl⟩
theorem wd_882 : Jvm.Cond.code ({ cls := "CallMelt$Past", name := "bringBackHeld", desc := "(LCallMelt$Rows;)V" } : Jvm.MethodName) prog_6_method_5_code (3 : Nat) (Option.none : Option Jvm.ClassFile.FieldType) ∈ lw_u := lw_in wt_882 rfl
theorem wt_886 : Jvm.Cond.code ({ cls := "CallMelt", name := "drop", desc := "()I" } : Jvm.MethodName) prog_1_method_22_code (1 : Nat) (Option.some Jvm.ClassFile.FieldType.int) ∈ lw_tbl := List.mem_of_getElem? (i := 886) (by decide +kernel)
theorem wg_886 : Jvm.Cond.code ({ cls := "CallMelt", name := "drop", desc := "()I" } : Jvm.MethodName) prog_1_method_22_code (1 : Nat) (Option.some Jvm.ClassFile.FieldType.int) ∈ lw_g := List.mem_filter.mpr ⟨wt_886, rfl⟩
theorem wd_886 : Jvm.Cond.code ({ cls := "CallMelt", name := "drop", desc := "()I" } : Jvm.MethodName) prog_1_method_22_code (1 : Nat) (Option.some Jvm.ClassFile.FieldType.int) ∈ lw_u := lw_in wt_886 rfl
theorem wt_887 : Jvm.Cond.methodLink "CallMelt" (183 : Nat) ({ cls := "CallMelt$Code", name := "dropUncalled", desc := "()I" } : Jvm.MethodName) ∈ lw_tbl := List.mem_of_getElem? (i := 887) (by decide +kernel)
theorem wd_887 : Jvm.Cond.methodLink "CallMelt" (183 : Nat) ({ cls := "CallMelt$Code", name := "dropUncalled", desc := "()I" } : Jvm.MethodName) ∈ lw_u := lw_in wt_887 rfl
theorem wt_888 : Jvm.Cond.instanceMethod ({ cls := "CallMelt$Code", name := "dropUncalled", desc := "()I" } : Jvm.MethodName) ∈ lw_tbl := List.mem_of_getElem? (i := 888) (by decide +kernel)
theorem wd_888 : Jvm.Cond.instanceMethod ({ cls := "CallMelt$Code", name := "dropUncalled", desc := "()I" } : Jvm.MethodName) ∈ lw_u := lw_in wt_888 rfl
theorem wt_889 : Jvm.Cond.selects "CallMelt$Code" ({ cls := "CallMelt$Code", name := "dropUncalled", desc := "()I" } : Jvm.MethodName) ({ cls := "CallMelt$Code", name := "dropUncalled", desc := "()I" } : Jvm.MethodName) ∈ lw_tbl := List.mem_of_getElem? (i := 889) (by decide +kernel)
theorem wd_889 : Jvm.Cond.selects "CallMelt$Code" ({ cls := "CallMelt$Code", name := "dropUncalled", desc := "()I" } : Jvm.MethodName) ({ cls := "CallMelt$Code", name := "dropUncalled", desc := "()I" } : Jvm.MethodName) ∈ lw_u := lw_in wt_889 rfl
theorem wt_890 : Jvm.Cond.code ({ cls := "CallMelt$Code", name := "dropUncalled", desc := "()I" } : Jvm.MethodName) prog_3_method_33_code (5 : Nat) (Option.some Jvm.ClassFile.FieldType.int) ∈ lw_tbl := List.mem_of_getElem? (i := 890) (by decide +kernel)
theorem wg_890 : Jvm.Cond.code ({ cls := "CallMelt$Code", name := "dropUncalled", desc := "()I" } : Jvm.MethodName) prog_3_method_33_code (5 : Nat) (Option.some Jvm.ClassFile.FieldType.int) ∈ lw_g := List.mem_filter.mpr ⟨wt_890, rfl⟩
theorem wd_890 : Jvm.Cond.code ({ cls := "CallMelt$Code", name := "dropUncalled", desc := "()I" } : Jvm.MethodName) prog_3_method_33_code (5 : Nat) (Option.some Jvm.ClassFile.FieldType.int) ∈ lw_u := lw_in wt_890 rfl
theorem wt_891 : Jvm.Cond.methodLink "CallMelt$Code" (124 : Nat) ({ cls := "CallMelt$Code", name := "calledBy", desc := "(I)I" } : Jvm.MethodName) ∈ lw_tbl := List.mem_of_getElem? (i := 891) (by decide +kernel)
theorem wd_891 : Jvm.Cond.methodLink "CallMelt$Code" (124 : Nat) ({ cls := "CallMelt$Code", name := "calledBy", desc := "(I)I" } : Jvm.MethodName) ∈ lw_u := lw_in wt_891 rfl
theorem wt_893 : Jvm.Cond.instanceMethod ({ cls := "CallMelt$Code", name := "calledBy", desc := "(I)I" } : Jvm.MethodName) ∈ lw_tbl := List.mem_of_getElem? (i := 893) (by decide +kernel)
theorem wd_893 : Jvm.Cond.instanceMethod ({ cls := "CallMelt$Code", name := "calledBy", desc := "(I)I" } : Jvm.MethodName) ∈ lw_u := lw_in wt_893 rfl
theorem wt_894 : Jvm.Cond.code ({ cls := "CallMelt$Code", name := "calledBy", desc := "(I)I" } : Jvm.MethodName) prog_3_method_34_code (6 : Nat) (Option.some Jvm.ClassFile.FieldType.int) ∈ lw_tbl := List.mem_of_getElem? (i := 894) (by decide +kernel)
theorem wg_894 : Jvm.Cond.code ({ cls := "CallMelt$Code", name := "calledBy", desc := "(I)I" } : Jvm.MethodName) prog_3_method_34_code (6 : Nat) (Option.some Jvm.ClassFile.FieldType.int) ∈ lw_g := List.mem_filter.mpr ⟨wt_894, rfl⟩
theorem wd_894 : Jvm.Cond.code ({ cls := "CallMelt$Code", name := "calledBy", desc := "(I)I" } : Jvm.MethodName) prog_3_method_34_code (6 : Nat) (Option.some Jvm.ClassFile.FieldType.int) ∈ lw_u := lw_in wt_894 rfl
theorem wt_895 : Jvm.Cond.methodLink "CallMelt$Code" (106 : Nat) ({ cls := "CallMelt$Code", name := "isMissing", desc := "(I)Z" } : Jvm.MethodName) ∈ lw_tbl := List.mem_of_getElem? (i := 895) (by decide +kernel)
theorem wd_895 : Jvm.Cond.methodLink "CallMelt$Code" (106 : Nat) ({ cls := "CallMelt$Code", name := "isMissing", desc := "(I)Z" } : Jvm.MethodName) ∈ lw_u := lw_in wt_895 rfl
theorem wt_899 : Jvm.Cond.code ({ cls := "CallMelt", name := "undo", desc := "()I" } : Jvm.MethodName) prog_1_method_23_code (1 : Nat) (Option.some Jvm.ClassFile.FieldType.int) ∈ lw_tbl := List.mem_of_getElem? (i := 899) (by decide +kernel)
theorem wg_899 : Jvm.Cond.code ({ cls := "CallMelt", name := "undo", desc := "()I" } : Jvm.MethodName) prog_1_method_23_code (1 : Nat) (Option.some Jvm.ClassFile.FieldType.int) ∈ lw_g := List.mem_filter.mpr ⟨wt_899, rfl⟩
theorem wd_899 : Jvm.Cond.code ({ cls := "CallMelt", name := "undo", desc := "()I" } : Jvm.MethodName) prog_1_method_23_code (1 : Nat) (Option.some Jvm.ClassFile.FieldType.int) ∈ lw_u := lw_in wt_899 rfl
theorem wt_900 : Jvm.Cond.methodLink "CallMelt" (187 : Nat) ({ cls := "CallMelt$Past", name := "takeBack", desc := "(LCallMelt$Rows;)Z" } : Jvm.MethodName) ∈ lw_tbl := List.mem_of_getElem? (i := 900) (by decide +kernel)
theorem wd_900 : Jvm.Cond.methodLink "CallMelt" (187 : Nat) ({ cls := "CallMelt$Past", name := "takeBack", desc := "(LCallMelt$Rows;)Z" } : Jvm.MethodName) ∈ lw_u := lw_in wt_900 rfl
theorem wt_901 : Jvm.Cond.instanceMethod ({ cls := "CallMelt$Past", name := "takeBack", desc := "(LCallMelt$Rows;)Z" } : Jvm.MethodName) ∈ lw_tbl := List.mem_of_getElem? (i := 901) (by decide +kernel)
theorem wd_901 : Jvm.Cond.instanceMethod ({ cls := "CallMelt$Past", name := "takeBack", desc := "(LCallMelt$Rows;)Z" } : Jvm.MethodName) ∈ lw_u := lw_in wt_901 rfl
theorem wt_902 : Jvm.Cond.selects "CallMelt$Past" ({ cls := "CallMelt$Past", name := "takeBack", desc := "(LCallMelt$Rows;)Z" } : Jvm.MethodName) ({ cls := "CallMelt$Past", name := "takeBack", desc := "(LCallMelt$Rows;)Z" } : Jvm.MethodName) ∈ lw_tbl := List.mem_of_getElem? (i := 902) (by decide +kernel)
theorem wd_902 : Jvm.Cond.selects "CallMelt$Past" ({ cls := "CallMelt$Past", name := "takeBack", desc := "(LCallMelt$Rows;)Z" } : Jvm.MethodName) ({ cls := "CallMelt$Past", name := "takeBack", desc := "(LCallMelt$Rows;)Z" } : Jvm.MethodName) ∈ lw_u := lw_in wt_902 rfl
theorem wt_903 : Jvm.Cond.code ({ cls := "CallMelt$Past", name := "takeBack", desc := "(LCallMelt$Rows;)Z" } : Jvm.MethodName) prog_6_method_6_code (4 : Nat) (Option.some Jvm.ClassFile.FieldType.boolean) ∈ lw_tbl := List.mem_of_getElem? (i := 903) (by decide +kernel)
theorem wg_903 : Jvm.Cond.code ({ cls := "CallMelt$Past", name := "takeBack", desc := "(LCallMelt$Rows;)Z" } : Jvm.MethodName) prog_6_method_6_code (4 : Nat) (Option.some Jvm.ClassFile.FieldType.boolean) ∈ lw_g := List.mem_filter.mpr ⟨wt_903, rfl⟩
theorem wd_903 : Jvm.Cond.code ({ cls := "CallMelt$Past", name := "takeBack", desc := "(LCallMelt$Rows;)Z" } : Jvm.MethodName) prog_6_method_6_code (4 : Nat) (Option.some Jvm.ClassFile.FieldType.boolean) ∈ lw_u := lw_in wt_903 rfl
theorem wt_904 : Jvm.Cond.methodLink "CallMelt$Past" (32 : Nat) ({ cls := "CallMelt$Past", name := "bringBackHeld", desc := "(LCallMelt$Rows;)V" } : Jvm.MethodName) ∈ lw_tbl := List.mem_of_getElem? (i := 904) (by decide +kernel)
theorem wd_904 : Jvm.Cond.methodLink "CallMelt$Past" (32 : Nat) ({ cls := "CallMelt$Past", name := "bringBackHeld", desc := "(LCallMelt$Rows;)V" } : Jvm.MethodName) ∈ lw_u := lw_in wt_904 rfl
theorem wt_905 : Jvm.Cond.methodLink "CallMelt$Past" (35 : Nat) ({ cls := "CallMelt$Rows", name := "clear", desc := "(III)V" } : Jvm.MethodName) ∈ lw_tbl := List.mem_of_getElem? (i := 905) (by decide +kernel)
theorem wd_905 : Jvm.Cond.methodLink "CallMelt$Past" (35 : Nat) ({ cls := "CallMelt$Rows", name := "clear", desc := "(III)V" } : Jvm.MethodName) ∈ lw_u := lw_in wt_905 rfl
theorem wt_909 : Jvm.Cond.code ({ cls := "CallMelt", name := "layout", desc := "(II)I" } : Jvm.MethodName) prog_1_method_24_code (4 : Nat) (Option.some Jvm.ClassFile.FieldType.int) ∈ lw_tbl := List.mem_of_getElem? (i := 909) (by decide +kernel)
theorem wg_909 : Jvm.Cond.code ({ cls := "CallMelt", name := "layout", desc := "(II)I" } : Jvm.MethodName) prog_1_method_24_code (4 : Nat) (Option.some Jvm.ClassFile.FieldType.int) ∈ lw_g := List.mem_filter.mpr ⟨wt_909, rfl⟩
theorem wd_909 : Jvm.Cond.code ({ cls := "CallMelt", name := "layout", desc := "(II)I" } : Jvm.MethodName) prog_1_method_24_code (4 : Nat) (Option.some Jvm.ClassFile.FieldType.int) ∈ lw_u := lw_in wt_909 rfl
theorem wt_910 : Jvm.Cond.methodLink "CallMelt" (191 : Nat) ({ cls := "CallMelt", name := "refusalOfChoice", desc := "(II)I" } : Jvm.MethodName) ∈ lw_tbl := List.mem_of_getElem? (i := 910) (by decide +kernel)
theorem wd_910 : Jvm.Cond.methodLink "CallMelt" (191 : Nat) ({ cls := "CallMelt", name := "refusalOfChoice", desc := "(II)I" } : Jvm.MethodName) ∈ lw_u := lw_in wt_910 rfl
theorem wt_912 : Jvm.Cond.instanceMethod ({ cls := "CallMelt", name := "refusalOfChoice", desc := "(II)I" } : Jvm.MethodName) ∈ lw_tbl := List.mem_of_getElem? (i := 912) (by decide +kernel)
theorem wd_912 : Jvm.Cond.instanceMethod ({ cls := "CallMelt", name := "refusalOfChoice", desc := "(II)I" } : Jvm.MethodName) ∈ lw_u := lw_in wt_912 rfl
theorem wt_913 : Jvm.Cond.code ({ cls := "CallMelt", name := "refusalOfChoice", desc := "(II)I" } : Jvm.MethodName) prog_1_method_29_code (3 : Nat) (Option.some Jvm.ClassFile.FieldType.int) ∈ lw_tbl := List.mem_of_getElem? (i := 913) (by decide +kernel)
theorem wg_913 : Jvm.Cond.code ({ cls := "CallMelt", name := "refusalOfChoice", desc := "(II)I" } : Jvm.MethodName) prog_1_method_29_code (3 : Nat) (Option.some Jvm.ClassFile.FieldType.int) ∈ lw_g := List.mem_filter.mpr ⟨wt_913, rfl⟩
theorem wd_913 : Jvm.Cond.code ({ cls := "CallMelt", name := "refusalOfChoice", desc := "(II)I" } : Jvm.MethodName) prog_1_method_29_code (3 : Nat) (Option.some Jvm.ClassFile.FieldType.int) ∈ lw_u := lw_in wt_913 rfl
theorem wt_914 : Jvm.Cond.methodLink "CallMelt" (194 : Nat) ({ cls := "CallMelt$Choice", name := "layOut", desc := "(II)I" } : Jvm.MethodName) ∈ lw_tbl := List.mem_of_getElem? (i := 914) (by decide +kernel)
theorem wd_914 : Jvm.Cond.methodLink "CallMelt" (194 : Nat) ({ cls := "CallMelt$Choice", name := "layOut", desc := "(II)I" } : Jvm.MethodName) ∈ lw_u := lw_in wt_914 rfl
theorem wt_915 : Jvm.Cond.instanceMethod ({ cls := "CallMelt$Choice", name := "layOut", desc := "(II)I" } : Jvm.MethodName) ∈ lw_tbl := List.mem_of_getElem? (i := 915) (by decide +kernel)
theorem wd_915 : Jvm.Cond.instanceMethod ({ cls := "CallMelt$Choice", name := "layOut", desc := "(II)I" } : Jvm.MethodName) ∈ lw_u := lw_in wt_915 rfl
theorem wt_916 : Jvm.Cond.selects "CallMelt$Choice" ({ cls := "CallMelt$Choice", name := "layOut", desc := "(II)I" } : Jvm.MethodName) ({ cls := "CallMelt$Choice", name := "layOut", desc := "(II)I" } : Jvm.MethodName) ∈ lw_tbl := List.mem_of_getElem? (i := 916) (by decide +kernel)
theorem wd_916 : Jvm.Cond.selects "CallMelt$Choice" ({ cls := "CallMelt$Choice", name := "layOut", desc := "(II)I" } : Jvm.MethodName) ({ cls := "CallMelt$Choice", name := "layOut", desc := "(II)I" } : Jvm.MethodName) ∈ lw_u := lw_in wt_916 rfl
theorem wt_917 : Jvm.Cond.code ({ cls := "CallMelt$Choice", name := "layOut", desc := "(II)I" } : Jvm.MethodName) prog_2_method_4_code (7 : Nat) (Option.some Jvm.ClassFile.FieldType.int) ∈ lw_tbl := List.mem_of_getElem? (i := 917) (by decide +kernel)
theorem wg_917 : Jvm.Cond.code ({ cls := "CallMelt$Choice", name := "layOut", desc := "(II)I" } : Jvm.MethodName) prog_2_method_4_code (7 : Nat) (Option.some Jvm.ClassFile.FieldType.int) ∈ lw_g := List.mem_filter.mpr ⟨wt_917, rfl⟩
theorem wd_917 : Jvm.Cond.code ({ cls := "CallMelt$Choice", name := "layOut", desc := "(II)I" } : Jvm.MethodName) prog_2_method_4_code (7 : Nat) (Option.some Jvm.ClassFile.FieldType.int) ∈ lw_u := lw_in wt_917 rfl
theorem wt_918 : Jvm.Cond.methodLink "CallMelt$Choice" (49 : Nat) ({ cls := "CallMelt$Choice", name := "lookAt", desc := "(I)V" } : Jvm.MethodName) ∈ lw_tbl := List.mem_of_getElem? (i := 918) (by decide +kernel)
theorem wd_918 : Jvm.Cond.methodLink "CallMelt$Choice" (49 : Nat) ({ cls := "CallMelt$Choice", name := "lookAt", desc := "(I)V" } : Jvm.MethodName) ∈ lw_u := lw_in wt_918 rfl
theorem wt_920 : Jvm.Cond.instanceMethod ({ cls := "CallMelt$Choice", name := "lookAt", desc := "(I)V" } : Jvm.MethodName) ∈ lw_tbl := List.mem_of_getElem? (i := 920) (by decide +kernel)
theorem wd_920 : Jvm.Cond.instanceMethod ({ cls := "CallMelt$Choice", name := "lookAt", desc := "(I)V" } : Jvm.MethodName) ∈ lw_u := lw_in wt_920 rfl
theorem wt_921 : Jvm.Cond.code ({ cls := "CallMelt$Choice", name := "lookAt", desc := "(I)V" } : Jvm.MethodName) prog_2_method_8_code (4 : Nat) (Option.none : Option Jvm.ClassFile.FieldType) ∈ lw_tbl := List.mem_of_getElem? (i := 921) (by decide +kernel)
theorem wg_921 : Jvm.Cond.code ({ cls := "CallMelt$Choice", name := "lookAt", desc := "(I)V" } : Jvm.MethodName) prog_2_method_8_code (4 : Nat) (Option.none : Option Jvm.ClassFile.FieldType) ∈ lw_g := List.mem_filter.mpr ⟨wt_921, rfl⟩
theorem wd_921 : Jvm.Cond.code ({ cls := "CallMelt$Choice", name := "lookAt", desc := "(I)V" } : Jvm.MethodName) prog_2_method_8_code (4 : Nat) (Option.none : Option Jvm.ClassFile.FieldType) ∈ lw_u := lw_in wt_921 rfl
theorem wt_922 : Jvm.Cond.methodLink "CallMelt$Choice" (79 : Nat) ({ cls := "CallMelt$Code", name := "kindOf", desc := "(I)I" } : Jvm.MethodName) ∈ lw_tbl := List.mem_of_getElem? (i := 922) (by decide +kernel)
theorem wd_922 : Jvm.Cond.methodLink "CallMelt$Choice" (79 : Nat) ({ cls := "CallMelt$Code", name := "kindOf", desc := "(I)I" } : Jvm.MethodName) ∈ lw_u := lw_in wt_922 rfl
theorem wt_923 : Jvm.Cond.methodLink "CallMelt$Choice" (83 : Nat) ({ cls := "CallMelt$Code", name := "numberOf", desc := "(I)I" } : Jvm.MethodName) ∈ lw_tbl := List.mem_of_getElem? (i := 923) (by decide +kernel)
theorem wd_923 : Jvm.Cond.methodLink "CallMelt$Choice" (83 : Nat) ({ cls := "CallMelt$Code", name := "numberOf", desc := "(I)I" } : Jvm.MethodName) ∈ lw_u := lw_in wt_923 rfl
theorem wt_924 : Jvm.Cond.methodLink "CallMelt$Choice" (86 : Nat) ({ cls := "CallMelt$Code", name := "isMissing", desc := "(I)Z" } : Jvm.MethodName) ∈ lw_tbl := List.mem_of_getElem? (i := 924) (by decide +kernel)
theorem wd_924 : Jvm.Cond.methodLink "CallMelt$Choice" (86 : Nat) ({ cls := "CallMelt$Code", name := "isMissing", desc := "(I)Z" } : Jvm.MethodName) ∈ lw_u := lw_in wt_924 rfl
theorem wt_925 : Jvm.Cond.methodLink "CallMelt$Choice" (90 : Nat) ({ cls := "CallMelt$Code", name := "routineOf", desc := "(I)I" } : Jvm.MethodName) ∈ lw_tbl := List.mem_of_getElem? (i := 925) (by decide +kernel)
theorem wd_925 : Jvm.Cond.methodLink "CallMelt$Choice" (90 : Nat) ({ cls := "CallMelt$Code", name := "routineOf", desc := "(I)I" } : Jvm.MethodName) ∈ lw_u := lw_in wt_925 rfl
theorem wt_926 : Jvm.Cond.methodLink "CallMelt$Choice" (93 : Nat) ({ cls := "CallMelt$Machine", name := "gainOf", desc := "(I)I" } : Jvm.MethodName) ∈ lw_tbl := List.mem_of_getElem? (i := 926) (by decide +kernel)
theorem wd_926 : Jvm.Cond.methodLink "CallMelt$Choice" (93 : Nat) ({ cls := "CallMelt$Machine", name := "gainOf", desc := "(I)I" } : Jvm.MethodName) ∈ lw_u := lw_in wt_926 rfl
theorem wt_927 : Jvm.Cond.methodLink "CallMelt$Choice" (98 : Nat) ({ cls := "CallMelt$Melter", name := "weightOf", desc := "(I)I" } : Jvm.MethodName) ∈ lw_tbl := List.mem_of_getElem? (i := 927) (by decide +kernel)
theorem wd_927 : Jvm.Cond.methodLink "CallMelt$Choice" (98 : Nat) ({ cls := "CallMelt$Melter", name := "weightOf", desc := "(I)I" } : Jvm.MethodName) ∈ lw_u := lw_in wt_927 rfl
theorem wt_928 : Jvm.Cond.methodLink "CallMelt$Choice" (56 : Nat) ({ cls := "CallMelt$Choice", name := "takePicked", desc := "(II)V" } : Jvm.MethodName) ∈ lw_tbl := List.mem_of_getElem? (i := 928) (by decide +kernel)
theorem wd_928 : Jvm.Cond.methodLink "CallMelt$Choice" (56 : Nat) ({ cls := "CallMelt$Choice", name := "takePicked", desc := "(II)V" } : Jvm.MethodName) ∈ lw_u := lw_in wt_928 rfl
theorem wt_930 : Jvm.Cond.instanceMethod ({ cls := "CallMelt$Choice", name := "takePicked", desc := "(II)V" } : Jvm.MethodName) ∈ lw_tbl := List.mem_of_getElem? (i := 930) (by decide +kernel)
theorem wd_930 : Jvm.Cond.instanceMethod ({ cls := "CallMelt$Choice", name := "takePicked", desc := "(II)V" } : Jvm.MethodName) ∈ lw_u := lw_in wt_930 rfl
theorem wt_931 : Jvm.Cond.code ({ cls := "CallMelt$Choice", name := "takePicked", desc := "(II)V" } : Jvm.MethodName) prog_2_method_5_code (4 : Nat) (Option.none : Option Jvm.ClassFile.FieldType) ∈ lw_tbl := List.mem_of_getElem? (i := 931) (by decide +kernel)
theorem wg_931 : Jvm.Cond.code ({ cls := "CallMelt$Choice", name := "takePicked", desc := "(II)V" } : Jvm.MethodName) prog_2_method_5_code (4 : Nat) (Option.none : Option Jvm.ClassFile.FieldType) ∈ lw_g := List.mem_filter.mpr ⟨wt_931, rfl⟩
theorem wd_931 : Jvm.Cond.code ({ cls := "CallMelt$Choice", name := "takePicked", desc := "(II)V" } : Jvm.MethodName) prog_2_method_5_code (4 : Nat) (Option.none : Option Jvm.ClassFile.FieldType) ∈ lw_u := lw_in wt_931 rfl
theorem wt_932 : Jvm.Cond.constant "CallMelt$Choice" (60 : Nat) (1000000 : Int32) ∈ lw_tbl := List.mem_of_getElem? (i := 932) (by decide +kernel)
theorem wd_932 : Jvm.Cond.constant "CallMelt$Choice" (60 : Nat) (1000000 : Int32) ∈ lw_u := lw_in wt_932 rfl
theorem wt_936 : Jvm.Cond.code ({ cls := "CallMelt", name := "laid", desc := "(I)I" } : Jvm.MethodName) prog_1_method_25_code (2 : Nat) (Option.some Jvm.ClassFile.FieldType.int) ∈ lw_tbl := List.mem_of_getElem? (i := 936) (by decide +kernel)
theorem wg_936 : Jvm.Cond.code ({ cls := "CallMelt", name := "laid", desc := "(I)I" } : Jvm.MethodName) prog_1_method_25_code (2 : Nat) (Option.some Jvm.ClassFile.FieldType.int) ∈ lw_g := List.mem_filter.mpr ⟨wt_936, rfl⟩
theorem wd_936 : Jvm.Cond.code ({ cls := "CallMelt", name := "laid", desc := "(I)I" } : Jvm.MethodName) prog_1_method_25_code (2 : Nat) (Option.some Jvm.ClassFile.FieldType.int) ∈ lw_u := lw_in wt_936 rfl
theorem wt_937 : Jvm.Cond.methodLink "CallMelt" (197 : Nat) ({ cls := "CallMelt$Choice", name := "hasLaidOut", desc := "()Z" } : Jvm.MethodName) ∈ lw_tbl := List.mem_of_getElem? (i := 937) (by decide +kernel)
theorem wd_937 : Jvm.Cond.methodLink "CallMelt" (197 : Nat) ({ cls := "CallMelt$Choice", name := "hasLaidOut", desc := "()Z" } : Jvm.MethodName) ∈ lw_u := lw_in wt_937 rfl
theorem wt_938 : Jvm.Cond.instanceMethod ({ cls := "CallMelt$Choice", name := "hasLaidOut", desc := "()Z" } : Jvm.MethodName) ∈ lw_tbl := List.mem_of_getElem? (i := 938) (by decide +kernel)
theorem wd_938 : Jvm.Cond.instanceMethod ({ cls := "CallMelt$Choice", name := "hasLaidOut", desc := "()Z" } : Jvm.MethodName) ∈ lw_u := lw_in wt_938 rfl
theorem wt_939 : Jvm.Cond.selects "CallMelt$Choice" ({ cls := "CallMelt$Choice", name := "hasLaidOut", desc := "()Z" } : Jvm.MethodName) ({ cls := "CallMelt$Choice", name := "hasLaidOut", desc := "()Z" } : Jvm.MethodName) ∈ lw_tbl := List.mem_of_getElem? (i := 939) (by decide +kernel)
theorem wd_939 : Jvm.Cond.selects "CallMelt$Choice" ({ cls := "CallMelt$Choice", name := "hasLaidOut", desc := "()Z" } : Jvm.MethodName) ({ cls := "CallMelt$Choice", name := "hasLaidOut", desc := "()Z" } : Jvm.MethodName) ∈ lw_u := lw_in wt_939 rfl
theorem wt_940 : Jvm.Cond.code ({ cls := "CallMelt$Choice", name := "hasLaidOut", desc := "()Z" } : Jvm.MethodName) prog_2_method_2_code (1 : Nat) (Option.some Jvm.ClassFile.FieldType.boolean) ∈ lw_tbl := List.mem_of_getElem? (i := 940) (by decide +kernel)
theorem wg_940 : Jvm.Cond.code ({ cls := "CallMelt$Choice", name := "hasLaidOut", desc := "()Z" } : Jvm.MethodName) prog_2_method_2_code (1 : Nat) (Option.some Jvm.ClassFile.FieldType.boolean) ∈ lw_g := List.mem_filter.mpr ⟨wt_940, rfl⟩
theorem wd_940 : Jvm.Cond.code ({ cls := "CallMelt$Choice", name := "hasLaidOut", desc := "()Z" } : Jvm.MethodName) prog_2_method_2_code (1 : Nat) (Option.some Jvm.ClassFile.FieldType.boolean) ∈ lw_u := lw_in wt_940 rfl
theorem wt_941 : Jvm.Cond.methodLink "CallMelt" (200 : Nat) ({ cls := "CallMelt$Choice", name := "latest", desc := "(I)I" } : Jvm.MethodName) ∈ lw_tbl := List.mem_of_getElem? (i := 941) (by decide +kernel)
theorem wd_941 : Jvm.Cond.methodLink "CallMelt" (200 : Nat) ({ cls := "CallMelt$Choice", name := "latest", desc := "(I)I" } : Jvm.MethodName) ∈ lw_u := lw_in wt_941 rfl
theorem wt_942 : Jvm.Cond.instanceMethod ({ cls := "CallMelt$Choice", name := "latest", desc := "(I)I" } : Jvm.MethodName) ∈ lw_tbl := List.mem_of_getElem? (i := 942) (by decide +kernel)
theorem wd_942 : Jvm.Cond.instanceMethod ({ cls := "CallMelt$Choice", name := "latest", desc := "(I)I" } : Jvm.MethodName) ∈ lw_u := lw_in wt_942 rfl
theorem wt_943 : Jvm.Cond.selects "CallMelt$Choice" ({ cls := "CallMelt$Choice", name := "latest", desc := "(I)I" } : Jvm.MethodName) ({ cls := "CallMelt$Choice", name := "latest", desc := "(I)I" } : Jvm.MethodName) ∈ lw_tbl := List.mem_of_getElem? (i := 943) (by decide +kernel)
theorem wd_943 : Jvm.Cond.selects "CallMelt$Choice" ({ cls := "CallMelt$Choice", name := "latest", desc := "(I)I" } : Jvm.MethodName) ({ cls := "CallMelt$Choice", name := "latest", desc := "(I)I" } : Jvm.MethodName) ∈ lw_u := lw_in wt_943 rfl
theorem wt_944 : Jvm.Cond.code ({ cls := "CallMelt$Choice", name := "latest", desc := "(I)I" } : Jvm.MethodName) prog_2_method_3_code (2 : Nat) (Option.some Jvm.ClassFile.FieldType.int) ∈ lw_tbl := List.mem_of_getElem? (i := 944) (by decide +kernel)
theorem wg_944 : Jvm.Cond.code ({ cls := "CallMelt$Choice", name := "latest", desc := "(I)I" } : Jvm.MethodName) prog_2_method_3_code (2 : Nat) (Option.some Jvm.ClassFile.FieldType.int) ∈ lw_g := List.mem_filter.mpr ⟨wt_944, rfl⟩
theorem wd_944 : Jvm.Cond.code ({ cls := "CallMelt$Choice", name := "latest", desc := "(I)I" } : Jvm.MethodName) prog_2_method_3_code (2 : Nat) (Option.some Jvm.ClassFile.FieldType.int) ∈ lw_u := lw_in wt_944 rfl
theorem wt_948 : Jvm.Cond.code ({ cls := "CallMelt", name := "next", desc := "(II)I" } : Jvm.MethodName) prog_1_method_26_code (4 : Nat) (Option.some Jvm.ClassFile.FieldType.int) ∈ lw_tbl := List.mem_of_getElem? (i := 948) (by decide +kernel)
theorem wg_948 : Jvm.Cond.code ({ cls := "CallMelt", name := "next", desc := "(II)I" } : Jvm.MethodName) prog_1_method_26_code (4 : Nat) (Option.some Jvm.ClassFile.FieldType.int) ∈ lw_g := List.mem_filter.mpr ⟨wt_948, rfl⟩
theorem wd_948 : Jvm.Cond.code ({ cls := "CallMelt", name := "next", desc := "(II)I" } : Jvm.MethodName) prog_1_method_26_code (4 : Nat) (Option.some Jvm.ClassFile.FieldType.int) ∈ lw_u := lw_in wt_948 rfl
theorem wt_949 : Jvm.Cond.methodLink "CallMelt" (201 : Nat) ({ cls := "CallMelt$Choice", name := "bestNext", desc := "(II)I" } : Jvm.MethodName) ∈ lw_tbl := List.mem_of_getElem? (i := 949) (by decide +kernel)
theorem wd_949 : Jvm.Cond.methodLink "CallMelt" (201 : Nat) ({ cls := "CallMelt$Choice", name := "bestNext", desc := "(II)I" } : Jvm.MethodName) ∈ lw_u := lw_in wt_949 rfl
theorem wt_950 : Jvm.Cond.instanceMethod ({ cls := "CallMelt$Choice", name := "bestNext", desc := "(II)I" } : Jvm.MethodName) ∈ lw_tbl := List.mem_of_getElem? (i := 950) (by decide +kernel)
theorem wd_950 : Jvm.Cond.instanceMethod ({ cls := "CallMelt$Choice", name := "bestNext", desc := "(II)I" } : Jvm.MethodName) ∈ lw_u := lw_in wt_950 rfl
theorem wt_951 : Jvm.Cond.selects "CallMelt$Choice" ({ cls := "CallMelt$Choice", name := "bestNext", desc := "(II)I" } : Jvm.MethodName) ({ cls := "CallMelt$Choice", name := "bestNext", desc := "(II)I" } : Jvm.MethodName) ∈ lw_tbl := List.mem_of_getElem? (i := 951) (by decide +kernel)
theorem wd_951 : Jvm.Cond.selects "CallMelt$Choice" ({ cls := "CallMelt$Choice", name := "bestNext", desc := "(II)I" } : Jvm.MethodName) ({ cls := "CallMelt$Choice", name := "bestNext", desc := "(II)I" } : Jvm.MethodName) ∈ lw_u := lw_in wt_951 rfl
theorem wt_952 : Jvm.Cond.code ({ cls := "CallMelt$Choice", name := "bestNext", desc := "(II)I" } : Jvm.MethodName) prog_2_method_6_code (5 : Nat) (Option.some Jvm.ClassFile.FieldType.int) ∈ lw_tbl := List.mem_of_getElem? (i := 952) (by decide +kernel)
theorem wg_952 : Jvm.Cond.code ({ cls := "CallMelt$Choice", name := "bestNext", desc := "(II)I" } : Jvm.MethodName) prog_2_method_6_code (5 : Nat) (Option.some Jvm.ClassFile.FieldType.int) ∈ lw_g := List.mem_filter.mpr ⟨wt_952, rfl⟩
theorem wd_952 : Jvm.Cond.code ({ cls := "CallMelt$Choice", name := "bestNext", desc := "(II)I" } : Jvm.MethodName) prog_2_method_6_code (5 : Nat) (Option.some Jvm.ClassFile.FieldType.int) ∈ lw_u := lw_in wt_952 rfl
theorem wt_953 : Jvm.Cond.methodLink "CallMelt$Choice" (64 : Nat) ({ cls := "CallMelt$Choice", name := "isBetter", desc := "(II)Z" } : Jvm.MethodName) ∈ lw_tbl := List.mem_of_getElem? (i := 953) (by decide +kernel)
theorem wd_953 : Jvm.Cond.methodLink "CallMelt$Choice" (64 : Nat) ({ cls := "CallMelt$Choice", name := "isBetter", desc := "(II)Z" } : Jvm.MethodName) ∈ lw_u := lw_in wt_953 rfl
theorem wt_955 : Jvm.Cond.instanceMethod ({ cls := "CallMelt$Choice", name := "isBetter", desc := "(II)Z" } : Jvm.MethodName) ∈ lw_tbl := List.mem_of_getElem? (i := 955) (by decide +kernel)
theorem wd_955 : Jvm.Cond.instanceMethod ({ cls := "CallMelt$Choice", name := "isBetter", desc := "(II)Z" } : Jvm.MethodName) ∈ lw_u := lw_in wt_955 rfl
theorem wt_956 : Jvm.Cond.code ({ cls := "CallMelt$Choice", name := "isBetter", desc := "(II)Z" } : Jvm.MethodName) prog_2_method_7_code (3 : Nat) (Option.some Jvm.ClassFile.FieldType.boolean) ∈ lw_tbl := List.mem_of_getElem? (i := 956) (by decide +kernel)
theorem wg_956 : Jvm.Cond.code ({ cls := "CallMelt$Choice", name := "isBetter", desc := "(II)Z" } : Jvm.MethodName) prog_2_method_7_code (3 : Nat) (Option.some Jvm.ClassFile.FieldType.boolean) ∈ lw_g := List.mem_filter.mpr ⟨wt_956, rfl⟩
theorem wd_956 : Jvm.Cond.code ({ cls := "CallMelt$Choice", name := "isBetter", desc := "(II)Z" } : Jvm.MethodName) prog_2_method_7_code (3 : Nat) (Option.some Jvm.ClassFile.FieldType.boolean) ∈ lw_u := lw_in wt_956 rfl
theorem wt_960 : Jvm.Cond.code ({ cls := "CallMelt", name := "count", desc := "(I)I" } : Jvm.MethodName) prog_1_method_27_code (2 : Nat) (Option.some Jvm.ClassFile.FieldType.int) ∈ lw_tbl := List.mem_of_getElem? (i := 960) (by decide +kernel)
theorem wg_960 : Jvm.Cond.code ({ cls := "CallMelt", name := "count", desc := "(I)I" } : Jvm.MethodName) prog_1_method_27_code (2 : Nat) (Option.some Jvm.ClassFile.FieldType.int) ∈ lw_g := List.mem_filter.mpr ⟨wt_960, rfl⟩
theorem wd_960 : Jvm.Cond.code ({ cls := "CallMelt", name := "count", desc := "(I)I" } : Jvm.MethodName) prog_1_method_27_code (2 : Nat) (Option.some Jvm.ClassFile.FieldType.int) ∈ lw_u := lw_in wt_960 rfl
theorem wt_961 : Jvm.Cond.methodLink "CallMelt" (210 : Nat) ({ cls := "CallMelt$Code", name := "goneSteps", desc := "()I" } : Jvm.MethodName) ∈ lw_tbl := List.mem_of_getElem? (i := 961) (by decide +kernel)
theorem wd_961 : Jvm.Cond.methodLink "CallMelt" (210 : Nat) ({ cls := "CallMelt$Code", name := "goneSteps", desc := "()I" } : Jvm.MethodName) ∈ lw_u := lw_in wt_961 rfl
theorem wt_962 : Jvm.Cond.instanceMethod ({ cls := "CallMelt$Code", name := "goneSteps", desc := "()I" } : Jvm.MethodName) ∈ lw_tbl := List.mem_of_getElem? (i := 962) (by decide +kernel)
theorem wd_962 : Jvm.Cond.instanceMethod ({ cls := "CallMelt$Code", name := "goneSteps", desc := "()I" } : Jvm.MethodName) ∈ lw_u := lw_in wt_962 rfl
theorem wt_963 : Jvm.Cond.selects "CallMelt$Code" ({ cls := "CallMelt$Code", name := "goneSteps", desc := "()I" } : Jvm.MethodName) ({ cls := "CallMelt$Code", name := "goneSteps", desc := "()I" } : Jvm.MethodName) ∈ lw_tbl := List.mem_of_getElem? (i := 963) (by decide +kernel)
theorem wd_963 : Jvm.Cond.selects "CallMelt$Code" ({ cls := "CallMelt$Code", name := "goneSteps", desc := "()I" } : Jvm.MethodName) ({ cls := "CallMelt$Code", name := "goneSteps", desc := "()I" } : Jvm.MethodName) ∈ lw_u := lw_in wt_963 rfl
theorem wt_964 : Jvm.Cond.code ({ cls := "CallMelt$Code", name := "goneSteps", desc := "()I" } : Jvm.MethodName) prog_3_method_23_code (3 : Nat) (Option.some Jvm.ClassFile.FieldType.int) ∈ lw_tbl := List.mem_of_getElem? (i := 964) (by decide +kernel)
theorem wg_964 : Jvm.Cond.code ({ cls := "CallMelt$Code", name := "goneSteps", desc := "()I" } : Jvm.MethodName) prog_3_method_23_code (3 : Nat) (Option.some Jvm.ClassFile.FieldType.int) ∈ lw_g := List.mem_filter.mpr ⟨wt_964, rfl⟩
theorem wd_964 : Jvm.Cond.code ({ cls := "CallMelt$Code", name := "goneSteps", desc := "()I" } : Jvm.MethodName) prog_3_method_23_code (3 : Nat) (Option.some Jvm.ClassFile.FieldType.int) ∈ lw_u := lw_in wt_964 rfl
theorem wt_965 : Jvm.Cond.methodLink "CallMelt" (213 : Nat) ({ cls := "CallMelt$Code", name := "looseSteps", desc := "()I" } : Jvm.MethodName) ∈ lw_tbl := List.mem_of_getElem? (i := 965) (by decide +kernel)
theorem wd_965 : Jvm.Cond.methodLink "CallMelt" (213 : Nat) ({ cls := "CallMelt$Code", name := "looseSteps", desc := "()I" } : Jvm.MethodName) ∈ lw_u := lw_in wt_965 rfl
theorem wt_966 : Jvm.Cond.instanceMethod ({ cls := "CallMelt$Code", name := "looseSteps", desc := "()I" } : Jvm.MethodName) ∈ lw_tbl := List.mem_of_getElem? (i := 966) (by decide +kernel)
theorem wd_966 : Jvm.Cond.instanceMethod ({ cls := "CallMelt$Code", name := "looseSteps", desc := "()I" } : Jvm.MethodName) ∈ lw_u := lw_in wt_966 rfl
theorem wt_967 : Jvm.Cond.selects "CallMelt$Code" ({ cls := "CallMelt$Code", name := "looseSteps", desc := "()I" } : Jvm.MethodName) ({ cls := "CallMelt$Code", name := "looseSteps", desc := "()I" } : Jvm.MethodName) ∈ lw_tbl := List.mem_of_getElem? (i := 967) (by decide +kernel)
theorem wd_967 : Jvm.Cond.selects "CallMelt$Code" ({ cls := "CallMelt$Code", name := "looseSteps", desc := "()I" } : Jvm.MethodName) ({ cls := "CallMelt$Code", name := "looseSteps", desc := "()I" } : Jvm.MethodName) ∈ lw_u := lw_in wt_967 rfl
theorem wt_968 : Jvm.Cond.code ({ cls := "CallMelt$Code", name := "looseSteps", desc := "()I" } : Jvm.MethodName) prog_3_method_24_code (3 : Nat) (Option.some Jvm.ClassFile.FieldType.int) ∈ lw_tbl := List.mem_of_getElem? (i := 968) (by decide +kernel)
theorem wg_968 : Jvm.Cond.code ({ cls := "CallMelt$Code", name := "looseSteps", desc := "()I" } : Jvm.MethodName) prog_3_method_24_code (3 : Nat) (Option.some Jvm.ClassFile.FieldType.int) ∈ lw_g := List.mem_filter.mpr ⟨wt_968, rfl⟩
theorem wd_968 : Jvm.Cond.code ({ cls := "CallMelt$Code", name := "looseSteps", desc := "()I" } : Jvm.MethodName) prog_3_method_24_code (3 : Nat) (Option.some Jvm.ClassFile.FieldType.int) ∈ lw_u := lw_in wt_968 rfl
theorem wt_969 : Jvm.Cond.methodLink "CallMelt$Code" (103 : Nat) ({ cls := "CallMelt$Code", name := "isLoose", desc := "(I)Z" } : Jvm.MethodName) ∈ lw_tbl := List.mem_of_getElem? (i := 969) (by decide +kernel)
theorem wd_969 : Jvm.Cond.methodLink "CallMelt$Code" (103 : Nat) ({ cls := "CallMelt$Code", name := "isLoose", desc := "(I)Z" } : Jvm.MethodName) ∈ lw_u := lw_in wt_969 rfl
theorem wt_970 : Jvm.Cond.methodLink "CallMelt" (219 : Nat) ({ cls := "CallMelt$Code", name := "missingRoutines", desc := "()I" } : Jvm.MethodName) ∈ lw_tbl := List.mem_of_getElem? (i := 970) (by decide +kernel)
theorem wd_970 : Jvm.Cond.methodLink "CallMelt" (219 : Nat) ({ cls := "CallMelt$Code", name := "missingRoutines", desc := "()I" } : Jvm.MethodName) ∈ lw_u := lw_in wt_970 rfl
theorem wt_971 : Jvm.Cond.instanceMethod ({ cls := "CallMelt$Code", name := "missingRoutines", desc := "()I" } : Jvm.MethodName) ∈ lw_tbl := List.mem_of_getElem? (i := 971) (by decide +kernel)
theorem wd_971 : Jvm.Cond.instanceMethod ({ cls := "CallMelt$Code", name := "missingRoutines", desc := "()I" } : Jvm.MethodName) ∈ lw_u := lw_in wt_971 rfl
theorem wt_972 : Jvm.Cond.selects "CallMelt$Code" ({ cls := "CallMelt$Code", name := "missingRoutines", desc := "()I" } : Jvm.MethodName) ({ cls := "CallMelt$Code", name := "missingRoutines", desc := "()I" } : Jvm.MethodName) ∈ lw_tbl := List.mem_of_getElem? (i := 972) (by decide +kernel)
theorem wd_972 : Jvm.Cond.selects "CallMelt$Code" ({ cls := "CallMelt$Code", name := "missingRoutines", desc := "()I" } : Jvm.MethodName) ({ cls := "CallMelt$Code", name := "missingRoutines", desc := "()I" } : Jvm.MethodName) ∈ lw_u := lw_in wt_972 rfl
theorem wt_973 : Jvm.Cond.code ({ cls := "CallMelt$Code", name := "missingRoutines", desc := "()I" } : Jvm.MethodName) prog_3_method_25_code (3 : Nat) (Option.some Jvm.ClassFile.FieldType.int) ∈ lw_tbl := List.mem_of_getElem? (i := 973) (by decide +kernel)
theorem wg_973 : Jvm.Cond.code ({ cls := "CallMelt$Code", name := "missingRoutines", desc := "()I" } : Jvm.MethodName) prog_3_method_25_code (3 : Nat) (Option.some Jvm.ClassFile.FieldType.int) ∈ lw_g := List.mem_filter.mpr ⟨wt_973, rfl⟩
theorem wd_973 : Jvm.Cond.code ({ cls := "CallMelt$Code", name := "missingRoutines", desc := "()I" } : Jvm.MethodName) prog_3_method_25_code (3 : Nat) (Option.some Jvm.ClassFile.FieldType.int) ∈ lw_u := lw_in wt_973 rfl
theorem wt_981 : Jvm.Cond.fieldLink "CallMeltModel" (92 : Nat) "CallMeltModel" "many" "I" ∈ lw_tbl := List.mem_of_getElem? (i := 981) (by decide +kernel)
theorem wd_981 : Jvm.Cond.fieldLink "CallMeltModel" (92 : Nat) "CallMeltModel" "many" "I" ∈ lw_u := lw_in wt_981 rfl
theorem wt_982 : Jvm.Cond.fieldLink "CallMeltModel" (7 : Nat) "CallMeltModel" "kind" "[I" ∈ lw_tbl := List.mem_of_getElem? (i := 982) (by decide +kernel)
theorem wd_982 : Jvm.Cond.fieldLink "CallMeltModel" (7 : Nat) "CallMeltModel" "kind" "[I" ∈ lw_u := lw_in wt_982 rfl
theorem wt_983 : Jvm.Cond.fieldLink "CallMeltModel" (13 : Nat) "CallMeltModel" "num" "[I" ∈ lw_tbl := List.mem_of_getElem? (i := 983) (by decide +kernel)
theorem wd_983 : Jvm.Cond.fieldLink "CallMeltModel" (13 : Nat) "CallMeltModel" "num" "[I" ∈ lw_u := lw_in wt_983 rfl
theorem wt_984 : Jvm.Cond.fieldLink "CallMeltModel" (16 : Nat) "CallMeltModel" "part" "[I" ∈ lw_tbl := List.mem_of_getElem? (i := 984) (by decide +kernel)
theorem wd_984 : Jvm.Cond.fieldLink "CallMeltModel" (16 : Nat) "CallMeltModel" "part" "[I" ∈ lw_u := lw_in wt_984 rfl
theorem wt_985 : Jvm.Cond.fieldLink "CallMeltModel" (19 : Nat) "CallMeltModel" "up" "[I" ∈ lw_tbl := List.mem_of_getElem? (i := 985) (by decide +kernel)
theorem wd_985 : Jvm.Cond.fieldLink "CallMeltModel" (19 : Nat) "CallMeltModel" "up" "[I" ∈ lw_u := lw_in wt_985 rfl
theorem wt_986 : Jvm.Cond.fieldLink "CallMeltModel" (22 : Nat) "CallMeltModel" "count" "[I" ∈ lw_tbl := List.mem_of_getElem? (i := 986) (by decide +kernel)
theorem wd_986 : Jvm.Cond.fieldLink "CallMeltModel" (22 : Nat) "CallMeltModel" "count" "[I" ∈ lw_u := lw_in wt_986 rfl
theorem wt_987 : Jvm.Cond.fieldLink "CallMeltModel" (107 : Nat) "CallMeltModel" "routines" "I" ∈ lw_tbl := List.mem_of_getElem? (i := 987) (by decide +kernel)
theorem wd_987 : Jvm.Cond.fieldLink "CallMeltModel" (107 : Nat) "CallMeltModel" "routines" "I" ∈ lw_u := lw_in wt_987 rfl
theorem wt_988 : Jvm.Cond.fieldLink "CallMeltModel" (25 : Nat) "CallMeltModel" "params" "[I" ∈ lw_tbl := List.mem_of_getElem? (i := 988) (by decide +kernel)
theorem wd_988 : Jvm.Cond.fieldLink "CallMeltModel" (25 : Nat) "CallMeltModel" "params" "[I" ∈ lw_u := lw_in wt_988 rfl
theorem wt_989 : Jvm.Cond.fieldLink "CallMeltModel" (28 : Nat) "CallMeltModel" "bodies" "[I" ∈ lw_tbl := List.mem_of_getElem? (i := 989) (by decide +kernel)
theorem wd_989 : Jvm.Cond.fieldLink "CallMeltModel" (28 : Nat) "CallMeltModel" "bodies" "[I" ∈ lw_u := lw_in wt_989 rfl
theorem wt_990 : Jvm.Cond.fieldLink "CallMeltModel" (31 : Nat) "CallMeltModel" "row" "[I" ∈ lw_tbl := List.mem_of_getElem? (i := 990) (by decide +kernel)
theorem wd_990 : Jvm.Cond.fieldLink "CallMeltModel" (31 : Nat) "CallMeltModel" "row" "[I" ∈ lw_u := lw_in wt_990 rfl
theorem wt_991 : Jvm.Cond.fieldLink "CallMeltModel" (34 : Nat) "CallMeltModel" "order" "[I" ∈ lw_tbl := List.mem_of_getElem? (i := 991) (by decide +kernel)
theorem wd_991 : Jvm.Cond.fieldLink "CallMeltModel" (34 : Nat) "CallMeltModel" "order" "[I" ∈ lw_u := lw_in wt_991 rfl
theorem wt_992 : Jvm.Cond.fieldLink "CallMeltModel" (37 : Nat) "CallMeltModel" "deep" "[I" ∈ lw_tbl := List.mem_of_getElem? (i := 992) (by decide +kernel)
theorem wd_992 : Jvm.Cond.fieldLink "CallMeltModel" (37 : Nat) "CallMeltModel" "deep" "[I" ∈ lw_u := lw_in wt_992 rfl
theorem wt_993 : Jvm.Cond.fieldLink "CallMeltModel" (40 : Nat) "CallMeltModel" "open" "[I" ∈ lw_tbl := List.mem_of_getElem? (i := 993) (by decide +kernel)
theorem wd_993 : Jvm.Cond.fieldLink "CallMeltModel" (40 : Nat) "CallMeltModel" "open" "[I" ∈ lw_u := lw_in wt_993 rfl
theorem wt_994 : Jvm.Cond.fieldLink "CallMeltModel" (131 : Nat) "CallMeltModel" "undos" "I" ∈ lw_tbl := List.mem_of_getElem? (i := 994) (by decide +kernel)
theorem wd_994 : Jvm.Cond.fieldLink "CallMeltModel" (131 : Nat) "CallMeltModel" "undos" "I" ∈ lw_u := lw_in wt_994 rfl
theorem wt_995 : Jvm.Cond.fieldLink "CallMeltModel" (43 : Nat) "CallMeltModel" "given" "[I" ∈ lw_tbl := List.mem_of_getElem? (i := 995) (by decide +kernel)
theorem wd_995 : Jvm.Cond.fieldLink "CallMeltModel" (43 : Nat) "CallMeltModel" "given" "[I" ∈ lw_u := lw_in wt_995 rfl
theorem wt_996 : Jvm.Cond.fieldLink "CallMeltModel" (46 : Nat) "CallMeltModel" "first" "[I" ∈ lw_tbl := List.mem_of_getElem? (i := 996) (by decide +kernel)
theorem wd_996 : Jvm.Cond.fieldLink "CallMeltModel" (46 : Nat) "CallMeltModel" "first" "[I" ∈ lw_u := lw_in wt_996 rfl
theorem wt_997 : Jvm.Cond.fieldLink "CallMeltModel" (195 : Nat) "CallMeltModel" "sp" "I" ∈ lw_tbl := List.mem_of_getElem? (i := 997) (by decide +kernel)
theorem wd_997 : Jvm.Cond.fieldLink "CallMeltModel" (195 : Nat) "CallMeltModel" "sp" "I" ∈ lw_u := lw_in wt_997 rfl
theorem wt_998 : Jvm.Cond.fieldLink "CallMeltModel" (49 : Nat) "CallMeltModel" "fStep" "[I" ∈ lw_tbl := List.mem_of_getElem? (i := 998) (by decide +kernel)
theorem wd_998 : Jvm.Cond.fieldLink "CallMeltModel" (49 : Nat) "CallMeltModel" "fStep" "[I" ∈ lw_u := lw_in wt_998 rfl
theorem wt_999 : Jvm.Cond.fieldLink "CallMeltModel" (52 : Nat) "CallMeltModel" "fPhase" "[I" ∈ lw_tbl := List.mem_of_getElem? (i := 999) (by decide +kernel)
theorem wd_999 : Jvm.Cond.fieldLink "CallMeltModel" (52 : Nat) "CallMeltModel" "fPhase" "[I" ∈ lw_u := lw_in wt_999 rfl
theorem wt_1000 : Jvm.Cond.fieldLink "CallMeltModel" (55 : Nat) "CallMeltModel" "fValue" "[I" ∈ lw_tbl := List.mem_of_getElem? (i := 1000) (by decide +kernel)
theorem wd_1000 : Jvm.Cond.fieldLink "CallMeltModel" (55 : Nat) "CallMeltModel" "fValue" "[I" ∈ lw_u := lw_in wt_1000 rfl
theorem wt_1001 : Jvm.Cond.fieldLink "CallMeltModel" (58 : Nat) "CallMeltModel" "fLevel" "[I" ∈ lw_tbl := List.mem_of_getElem? (i := 1001) (by decide +kernel)
theorem wd_1001 : Jvm.Cond.fieldLink "CallMeltModel" (58 : Nat) "CallMeltModel" "fLevel" "[I" ∈ lw_u := lw_in wt_1001 rfl
theorem wt_1002 : Jvm.Cond.fieldLink "CallMeltModel" (61 : Nat) "CallMeltModel" "names" "[I" ∈ lw_tbl := List.mem_of_getElem? (i := 1002) (by decide +kernel)
theorem wd_1002 : Jvm.Cond.fieldLink "CallMeltModel" (61 : Nat) "CallMeltModel" "names" "[I" ∈ lw_u := lw_in wt_1002 rfl
theorem wt_1003 : Jvm.Cond.fieldLink "CallMeltModel" (198 : Nat) "CallMeltModel" "level" "I" ∈ lw_tbl := List.mem_of_getElem? (i := 1003) (by decide +kernel)
theorem wd_1003 : Jvm.Cond.fieldLink "CallMeltModel" (198 : Nat) "CallMeltModel" "level" "I" ∈ lw_u := lw_in wt_1003 rfl
theorem wt_1004 : Jvm.Cond.fieldLink "CallMeltModel" (178 : Nat) "CallMeltModel" "fuel" "I" ∈ lw_tbl := List.mem_of_getElem? (i := 1004) (by decide +kernel)
theorem wd_1004 : Jvm.Cond.fieldLink "CallMeltModel" (178 : Nat) "CallMeltModel" "fuel" "I" ∈ lw_u := lw_in wt_1004 rfl
theorem wt_1005 : Jvm.Cond.fieldLink "CallMeltModel" (185 : Nat) "CallMeltModel" "took" "I" ∈ lw_tbl := List.mem_of_getElem? (i := 1005) (by decide +kernel)
theorem wd_1005 : Jvm.Cond.fieldLink "CallMeltModel" (185 : Nat) "CallMeltModel" "took" "I" ∈ lw_u := lw_in wt_1005 rfl
theorem wt_1006 : Jvm.Cond.fieldLink "CallMeltModel" (165 : Nat) "CallMeltModel" "refused" "I" ∈ lw_tbl := List.mem_of_getElem? (i := 1006) (by decide +kernel)
theorem wd_1006 : Jvm.Cond.fieldLink "CallMeltModel" (165 : Nat) "CallMeltModel" "refused" "I" ∈ lw_u := lw_in wt_1006 rfl
theorem wt_1007 : Jvm.Cond.fieldLink "CallMeltModel" (171 : Nat) "CallMeltModel" "value" "I" ∈ lw_tbl := List.mem_of_getElem? (i := 1007) (by decide +kernel)
theorem wd_1007 : Jvm.Cond.fieldLink "CallMeltModel" (171 : Nat) "CallMeltModel" "value" "I" ∈ lw_u := lw_in wt_1007 rfl
theorem wt_1008 : Jvm.Cond.fieldLink "CallMeltModel" (208 : Nat) "CallMeltModel" "most" "I" ∈ lw_tbl := List.mem_of_getElem? (i := 1008) (by decide +kernel)
theorem wd_1008 : Jvm.Cond.fieldLink "CallMeltModel" (208 : Nat) "CallMeltModel" "most" "I" ∈ lw_u := lw_in wt_1008 rfl
theorem wt_1009 : Jvm.Cond.fieldLink "CallMeltModel" (168 : Nat) "CallMeltModel" "at" "I" ∈ lw_tbl := List.mem_of_getElem? (i := 1009) (by decide +kernel)
theorem wd_1009 : Jvm.Cond.fieldLink "CallMeltModel" (168 : Nat) "CallMeltModel" "at" "I" ∈ lw_u := lw_in wt_1009 rfl
theorem wt_1010 : Jvm.Cond.fieldLink "CallMeltModel" (174 : Nat) "CallMeltModel" "over" "Z" ∈ lw_tbl := List.mem_of_getElem? (i := 1010) (by decide +kernel)
theorem wd_1010 : Jvm.Cond.fieldLink "CallMeltModel" (174 : Nat) "CallMeltModel" "over" "Z" ∈ lw_u := lw_in wt_1010 rfl
theorem wt_1011 : Jvm.Cond.fieldLink "CallMeltModel" (234 : Nat) "CallMeltModel" "allFuel" "I" ∈ lw_tbl := List.mem_of_getElem? (i := 1011) (by decide +kernel)
theorem wd_1011 : Jvm.Cond.fieldLink "CallMeltModel" (234 : Nat) "CallMeltModel" "allFuel" "I" ∈ lw_u := lw_in wt_1011 rfl
theorem wt_1012 : Jvm.Cond.fieldLink "CallMeltModel" (238 : Nat) "CallMeltModel" "isRun" "Z" ∈ lw_tbl := List.mem_of_getElem? (i := 1012) (by decide +kernel)
theorem wd_1012 : Jvm.Cond.fieldLink "CallMeltModel" (238 : Nat) "CallMeltModel" "isRun" "Z" ∈ lw_u := lw_in wt_1012 rfl
theorem wt_1013 : Jvm.Cond.fieldLink "CallMeltModel" (64 : Nat) "CallMeltModel" "keptMany" "[I" ∈ lw_tbl := List.mem_of_getElem? (i := 1013) (by decide +kernel)
theorem wd_1013 : Jvm.Cond.fieldLink "CallMeltModel" (64 : Nat) "CallMeltModel" "keptMany" "[I" ∈ lw_u := lw_in wt_1013 rfl
theorem wt_1014 : Jvm.Cond.fieldLink "CallMeltModel" (68 : Nat) "CallMeltModel" "keptSteps" "[I" ∈ lw_tbl := List.mem_of_getElem? (i := 1014) (by decide +kernel)
theorem wd_1014 : Jvm.Cond.fieldLink "CallMeltModel" (68 : Nat) "CallMeltModel" "keptSteps" "[I" ∈ lw_u := lw_in wt_1014 rfl
theorem wt_1015 : Jvm.Cond.fieldLink "CallMeltModel" (71 : Nat) "CallMeltModel" "keptBodies" "[I" ∈ lw_tbl := List.mem_of_getElem? (i := 1015) (by decide +kernel)
theorem wd_1015 : Jvm.Cond.fieldLink "CallMeltModel" (71 : Nat) "CallMeltModel" "keptBodies" "[I" ∈ lw_u := lw_in wt_1015 rfl
theorem wt_1016 : Jvm.Cond.fieldLink "CallMeltModel" (74 : Nat) "CallMeltModel" "copied" "[I" ∈ lw_tbl := List.mem_of_getElem? (i := 1016) (by decide +kernel)
theorem wd_1016 : Jvm.Cond.fieldLink "CallMeltModel" (74 : Nat) "CallMeltModel" "copied" "[I" ∈ lw_u := lw_in wt_1016 rfl
theorem wt_1017 : Jvm.Cond.fieldLink "CallMeltModel" (77 : Nat) "CallMeltModel" "line" "[I" ∈ lw_tbl := List.mem_of_getElem? (i := 1017) (by decide +kernel)
theorem wd_1017 : Jvm.Cond.fieldLink "CallMeltModel" (77 : Nat) "CallMeltModel" "line" "[I" ∈ lw_u := lw_in wt_1017 rfl
theorem wt_1018 : Jvm.Cond.fieldLink "CallMeltModel" (304 : Nat) "CallMeltModel" "looked" "I" ∈ lw_tbl := List.mem_of_getElem? (i := 1018) (by decide +kernel)
theorem wd_1018 : Jvm.Cond.fieldLink "CallMeltModel" (304 : Nat) "CallMeltModel" "looked" "I" ∈ lw_u := lw_in wt_1018 rfl
theorem wt_1019 : Jvm.Cond.fieldLink "CallMeltModel" (80 : Nat) "CallMeltModel" "calls" "[I" ∈ lw_tbl := List.mem_of_getElem? (i := 1019) (by decide +kernel)
theorem wd_1019 : Jvm.Cond.fieldLink "CallMeltModel" (80 : Nat) "CallMeltModel" "calls" "[I" ∈ lw_u := lw_in wt_1019 rfl
theorem wt_1020 : Jvm.Cond.fieldLink "CallMeltModel" (83 : Nat) "CallMeltModel" "gains" "[I" ∈ lw_tbl := List.mem_of_getElem? (i := 1020) (by decide +kernel)
theorem wd_1020 : Jvm.Cond.fieldLink "CallMeltModel" (83 : Nat) "CallMeltModel" "gains" "[I" ∈ lw_u := lw_in wt_1020 rfl
theorem wt_1021 : Jvm.Cond.fieldLink "CallMeltModel" (86 : Nat) "CallMeltModel" "weights" "[I" ∈ lw_tbl := List.mem_of_getElem? (i := 1021) (by decide +kernel)
theorem wd_1021 : Jvm.Cond.fieldLink "CallMeltModel" (86 : Nat) "CallMeltModel" "weights" "[I" ∈ lw_u := lw_in wt_1021 rfl
theorem wt_1022 : Jvm.Cond.fieldLink "CallMeltModel" (315 : Nat) "CallMeltModel" "isLaid" "Z" ∈ lw_tbl := List.mem_of_getElem? (i := 1022) (by decide +kernel)
theorem wd_1022 : Jvm.Cond.fieldLink "CallMeltModel" (315 : Nat) "CallMeltModel" "isLaid" "Z" ∈ lw_u := lw_in wt_1022 rfl
theorem wt_1023 : Jvm.Cond.fieldLink "CallMeltModel" (318 : Nat) "CallMeltModel" "laidGain" "I" ∈ lw_tbl := List.mem_of_getElem? (i := 1023) (by decide +kernel)
theorem wd_1023 : Jvm.Cond.fieldLink "CallMeltModel" (318 : Nat) "CallMeltModel" "laidGain" "I" ∈ lw_u := lw_in wt_1023 rfl
theorem wt_1024 : Jvm.Cond.fieldLink "CallMeltModel" (321 : Nat) "CallMeltModel" "laidWeight" "I" ∈ lw_tbl := List.mem_of_getElem? (i := 1024) (by decide +kernel)
theorem wd_1024 : Jvm.Cond.fieldLink "CallMeltModel" (321 : Nat) "CallMeltModel" "laidWeight" "I" ∈ lw_u := lw_in wt_1024 rfl
theorem wt_1025 : Jvm.Cond.fieldLink "CallMeltModel" (324 : Nat) "CallMeltModel" "laidMany" "I" ∈ lw_tbl := List.mem_of_getElem? (i := 1025) (by decide +kernel)
theorem wd_1025 : Jvm.Cond.fieldLink "CallMeltModel" (324 : Nat) "CallMeltModel" "laidMany" "I" ∈ lw_u := lw_in wt_1025 rfl
theorem wt_1026 : Jvm.Cond.fieldLink "CallMeltModel" (89 : Nat) "CallMeltModel" "laidCalls" "[I" ∈ lw_tbl := List.mem_of_getElem? (i := 1026) (by decide +kernel)
theorem wd_1026 : Jvm.Cond.fieldLink "CallMeltModel" (89 : Nat) "CallMeltModel" "laidCalls" "[I" ∈ lw_u := lw_in wt_1026 rfl
theorem wt_1123 : Jvm.Cond.code ({ cls := "CallMeltModel", name := "number", desc := "(I)I" } : Jvm.MethodName) prog_11_method_16_code (2 : Nat) (Option.some Jvm.ClassFile.FieldType.int) ∈ lw_tbl := List.mem_of_getElem? (i := 1123) (by decide +kernel)
theorem wg_1123 : Jvm.Cond.code ({ cls := "CallMeltModel", name := "number", desc := "(I)I" } : Jvm.MethodName) prog_11_method_16_code (2 : Nat) (Option.some Jvm.ClassFile.FieldType.int) ∈ lw_g := List.mem_filter.mpr ⟨wt_1123, rfl⟩
theorem wd_1123 : Jvm.Cond.code ({ cls := "CallMeltModel", name := "number", desc := "(I)I" } : Jvm.MethodName) prog_11_method_16_code (2 : Nat) (Option.some Jvm.ClassFile.FieldType.int) ∈ lw_u := lw_in wt_1123 rfl
theorem wt_1124 : Jvm.Cond.methodLink "CallMeltModel" (134 : Nat) ({ cls := "CallMeltModel", name := "comesUp", desc := "(III)I" } : Jvm.MethodName) ∈ lw_tbl := List.mem_of_getElem? (i := 1124) (by decide +kernel)
theorem wd_1124 : Jvm.Cond.methodLink "CallMeltModel" (134 : Nat) ({ cls := "CallMeltModel", name := "comesUp", desc := "(III)I" } : Jvm.MethodName) ∈ lw_u := lw_in wt_1124 rfl
theorem wt_1126 : Jvm.Cond.instanceMethod ({ cls := "CallMeltModel", name := "comesUp", desc := "(III)I" } : Jvm.MethodName) ∈ lw_tbl := List.mem_of_getElem? (i := 1126) (by decide +kernel)
theorem wd_1126 : Jvm.Cond.instanceMethod ({ cls := "CallMeltModel", name := "comesUp", desc := "(III)I" } : Jvm.MethodName) ∈ lw_u := lw_in wt_1126 rfl
theorem wt_1127 : Jvm.Cond.code ({ cls := "CallMeltModel", name := "comesUp", desc := "(III)I" } : Jvm.MethodName) prog_11_method_14_code (7 : Nat) (Option.some Jvm.ClassFile.FieldType.int) ∈ lw_tbl := List.mem_of_getElem? (i := 1127) (by decide +kernel)
theorem wg_1127 : Jvm.Cond.code ({ cls := "CallMeltModel", name := "comesUp", desc := "(III)I" } : Jvm.MethodName) prog_11_method_14_code (7 : Nat) (Option.some Jvm.ClassFile.FieldType.int) ∈ lw_g := List.mem_filter.mpr ⟨wt_1127, rfl⟩
theorem wd_1127 : Jvm.Cond.code ({ cls := "CallMeltModel", name := "comesUp", desc := "(III)I" } : Jvm.MethodName) prog_11_method_14_code (7 : Nat) (Option.some Jvm.ClassFile.FieldType.int) ∈ lw_u := lw_in wt_1127 rfl
theorem wt_1128 : Jvm.Cond.methodLink "CallMeltModel" (117 : Nat) ({ cls := "CallMeltModel", name := "isLoose", desc := "(I)Z" } : Jvm.MethodName) ∈ lw_tbl := List.mem_of_getElem? (i := 1128) (by decide +kernel)
theorem wd_1128 : Jvm.Cond.methodLink "CallMeltModel" (117 : Nat) ({ cls := "CallMeltModel", name := "isLoose", desc := "(I)Z" } : Jvm.MethodName) ∈ lw_u := lw_in wt_1128 rfl
theorem wt_1130 : Jvm.Cond.instanceMethod ({ cls := "CallMeltModel", name := "isLoose", desc := "(I)Z" } : Jvm.MethodName) ∈ lw_tbl := List.mem_of_getElem? (i := 1130) (by decide +kernel)
theorem wd_1130 : Jvm.Cond.instanceMethod ({ cls := "CallMeltModel", name := "isLoose", desc := "(I)Z" } : Jvm.MethodName) ∈ lw_u := lw_in wt_1130 rfl
theorem wt_1131 : Jvm.Cond.code ({ cls := "CallMeltModel", name := "isLoose", desc := "(I)Z" } : Jvm.MethodName) prog_11_method_8_code (2 : Nat) (Option.some Jvm.ClassFile.FieldType.boolean) ∈ lw_tbl := List.mem_of_getElem? (i := 1131) (by decide +kernel)
theorem wg_1131 : Jvm.Cond.code ({ cls := "CallMeltModel", name := "isLoose", desc := "(I)Z" } : Jvm.MethodName) prog_11_method_8_code (2 : Nat) (Option.some Jvm.ClassFile.FieldType.boolean) ∈ lw_g := List.mem_filter.mpr ⟨wt_1131, rfl⟩
theorem wd_1131 : Jvm.Cond.code ({ cls := "CallMeltModel", name := "isLoose", desc := "(I)Z" } : Jvm.MethodName) prog_11_method_8_code (2 : Nat) (Option.some Jvm.ClassFile.FieldType.boolean) ∈ lw_u := lw_in wt_1131 rfl
theorem wt_1132 : Jvm.Cond.methodLink "CallMeltModel" (110 : Nat) ({ cls := "CallMeltModel", name := "isStep", desc := "(I)Z" } : Jvm.MethodName) ∈ lw_tbl := List.mem_of_getElem? (i := 1132) (by decide +kernel)
theorem wd_1132 : Jvm.Cond.methodLink "CallMeltModel" (110 : Nat) ({ cls := "CallMeltModel", name := "isStep", desc := "(I)Z" } : Jvm.MethodName) ∈ lw_u := lw_in wt_1132 rfl
theorem wt_1134 : Jvm.Cond.instanceMethod ({ cls := "CallMeltModel", name := "isStep", desc := "(I)Z" } : Jvm.MethodName) ∈ lw_tbl := List.mem_of_getElem? (i := 1134) (by decide +kernel)
theorem wd_1134 : Jvm.Cond.instanceMethod ({ cls := "CallMeltModel", name := "isStep", desc := "(I)Z" } : Jvm.MethodName) ∈ lw_u := lw_in wt_1134 rfl
theorem wt_1135 : Jvm.Cond.code ({ cls := "CallMeltModel", name := "isStep", desc := "(I)Z" } : Jvm.MethodName) prog_11_method_6_code (2 : Nat) (Option.some Jvm.ClassFile.FieldType.boolean) ∈ lw_tbl := List.mem_of_getElem? (i := 1135) (by decide +kernel)
theorem wg_1135 : Jvm.Cond.code ({ cls := "CallMeltModel", name := "isStep", desc := "(I)Z" } : Jvm.MethodName) prog_11_method_6_code (2 : Nat) (Option.some Jvm.ClassFile.FieldType.boolean) ∈ lw_g := List.mem_filter.mpr ⟨wt_1135, rfl⟩
theorem wd_1135 : Jvm.Cond.code ({ cls := "CallMeltModel", name := "isStep", desc := "(I)Z" } : Jvm.MethodName) prog_11_method_6_code (2 : Nat) (Option.some Jvm.ClassFile.FieldType.boolean) ∈ lw_u := lw_in wt_1135 rfl
theorem wt_1136 : Jvm.Cond.methodLink "CallMeltModel" (103 : Nat) ({ cls := "CallMeltModel", name := "in", desc := "(JJJ)Z" } : Jvm.MethodName) ∈ lw_tbl := List.mem_of_getElem? (i := 1136) (by decide +kernel)
theorem wd_1136 : Jvm.Cond.methodLink "CallMeltModel" (103 : Nat) ({ cls := "CallMeltModel", name := "in", desc := "(JJJ)Z" } : Jvm.MethodName) ∈ lw_u := lw_in wt_1136 rfl
theorem wt_1137 : Jvm.Cond.static ({ cls := "CallMeltModel", name := "in", desc := "(JJJ)Z" } : Jvm.MethodName) ∈ lw_tbl := List.mem_of_getElem? (i := 1137) (by decide +kernel)
theorem wd_1137 : Jvm.Cond.static ({ cls := "CallMeltModel", name := "in", desc := "(JJJ)Z" } : Jvm.MethodName) ∈ lw_u := lw_in wt_1137 rfl
theorem wt_1138 : Jvm.Cond.code ({ cls := "CallMeltModel", name := "in", desc := "(JJJ)Z" } : Jvm.MethodName) prog_11_method_2_code (6 : Nat) (Option.some Jvm.ClassFile.FieldType.boolean) ∈ lw_tbl := List.mem_of_getElem? (i := 1138) (by decide +kernel)
theorem wg_1138 : Jvm.Cond.code ({ cls := "CallMeltModel", name := "in", desc := "(JJJ)Z" } : Jvm.MethodName) prog_11_method_2_code (6 : Nat) (Option.some Jvm.ClassFile.FieldType.boolean) ∈ lw_g := List.mem_filter.mpr ⟨wt_1138, rfl⟩
theorem wd_1138 : Jvm.Cond.code ({ cls := "CallMeltModel", name := "in", desc := "(JJJ)Z" } : Jvm.MethodName) prog_11_method_2_code (6 : Nat) (Option.some Jvm.ClassFile.FieldType.boolean) ∈ lw_u := lw_in wt_1138 rfl
theorem wt_1139 : Jvm.Cond.methodLink "CallMeltModel" (114 : Nat) ({ cls := "CallMeltModel", name := "bodyOf", desc := "(I)I" } : Jvm.MethodName) ∈ lw_tbl := List.mem_of_getElem? (i := 1139) (by decide +kernel)
theorem wd_1139 : Jvm.Cond.methodLink "CallMeltModel" (114 : Nat) ({ cls := "CallMeltModel", name := "bodyOf", desc := "(I)I" } : Jvm.MethodName) ∈ lw_u := lw_in wt_1139 rfl
theorem wt_1141 : Jvm.Cond.instanceMethod ({ cls := "CallMeltModel", name := "bodyOf", desc := "(I)I" } : Jvm.MethodName) ∈ lw_tbl := List.mem_of_getElem? (i := 1141) (by decide +kernel)
theorem wd_1141 : Jvm.Cond.instanceMethod ({ cls := "CallMeltModel", name := "bodyOf", desc := "(I)I" } : Jvm.MethodName) ∈ lw_u := lw_in wt_1141 rfl
theorem wt_1142 : Jvm.Cond.code ({ cls := "CallMeltModel", name := "bodyOf", desc := "(I)I" } : Jvm.MethodName) prog_11_method_7_code (4 : Nat) (Option.some Jvm.ClassFile.FieldType.int) ∈ lw_tbl := List.mem_of_getElem? (i := 1142) (by decide +kernel)
theorem wg_1142 : Jvm.Cond.code ({ cls := "CallMeltModel", name := "bodyOf", desc := "(I)I" } : Jvm.MethodName) prog_11_method_7_code (4 : Nat) (Option.some Jvm.ClassFile.FieldType.int) ∈ lw_g := List.mem_filter.mpr ⟨wt_1142, rfl⟩
theorem wd_1142 : Jvm.Cond.code ({ cls := "CallMeltModel", name := "bodyOf", desc := "(I)I" } : Jvm.MethodName) prog_11_method_7_code (4 : Nat) (Option.some Jvm.ClassFile.FieldType.int) ∈ lw_u := lw_in wt_1142 rfl
theorem wt_1143 : Jvm.Cond.methodLink "CallMeltModel" (120 : Nat) ({ cls := "CallMeltModel", name := "high", desc := "(I)I" } : Jvm.MethodName) ∈ lw_tbl := List.mem_of_getElem? (i := 1143) (by decide +kernel)
theorem wd_1143 : Jvm.Cond.methodLink "CallMeltModel" (120 : Nat) ({ cls := "CallMeltModel", name := "high", desc := "(I)I" } : Jvm.MethodName) ∈ lw_u := lw_in wt_1143 rfl
theorem wt_1145 : Jvm.Cond.instanceMethod ({ cls := "CallMeltModel", name := "high", desc := "(I)I" } : Jvm.MethodName) ∈ lw_tbl := List.mem_of_getElem? (i := 1145) (by decide +kernel)
theorem wd_1145 : Jvm.Cond.instanceMethod ({ cls := "CallMeltModel", name := "high", desc := "(I)I" } : Jvm.MethodName) ∈ lw_u := lw_in wt_1145 rfl
theorem wt_1146 : Jvm.Cond.code ({ cls := "CallMeltModel", name := "high", desc := "(I)I" } : Jvm.MethodName) prog_11_method_5_code (5 : Nat) (Option.some Jvm.ClassFile.FieldType.int) ∈ lw_tbl := List.mem_of_getElem? (i := 1146) (by decide +kernel)
theorem wg_1146 : Jvm.Cond.code ({ cls := "CallMeltModel", name := "high", desc := "(I)I" } : Jvm.MethodName) prog_11_method_5_code (5 : Nat) (Option.some Jvm.ClassFile.FieldType.int) ∈ lw_g := List.mem_filter.mpr ⟨wt_1146, rfl⟩
theorem wd_1146 : Jvm.Cond.code ({ cls := "CallMeltModel", name := "high", desc := "(I)I" } : Jvm.MethodName) prog_11_method_5_code (5 : Nat) (Option.some Jvm.ClassFile.FieldType.int) ∈ lw_u := lw_in wt_1146 rfl
theorem wt_1147 : Jvm.Cond.methodLink "CallMeltModel" (100 : Nat) ({ cls := "CallMeltModel", name := "goes", desc := "(I)I" } : Jvm.MethodName) ∈ lw_tbl := List.mem_of_getElem? (i := 1147) (by decide +kernel)
theorem wd_1147 : Jvm.Cond.methodLink "CallMeltModel" (100 : Nat) ({ cls := "CallMeltModel", name := "goes", desc := "(I)I" } : Jvm.MethodName) ∈ lw_u := lw_in wt_1147 rfl
theorem wt_1149 : Jvm.Cond.instanceMethod ({ cls := "CallMeltModel", name := "goes", desc := "(I)I" } : Jvm.MethodName) ∈ lw_tbl := List.mem_of_getElem? (i := 1149) (by decide +kernel)
theorem wd_1149 : Jvm.Cond.instanceMethod ({ cls := "CallMeltModel", name := "goes", desc := "(I)I" } : Jvm.MethodName) ∈ lw_u := lw_in wt_1149 rfl
theorem wt_1150 : Jvm.Cond.code ({ cls := "CallMeltModel", name := "goes", desc := "(I)I" } : Jvm.MethodName) prog_11_method_4_code (6 : Nat) (Option.some Jvm.ClassFile.FieldType.int) ∈ lw_tbl := List.mem_of_getElem? (i := 1150) (by decide +kernel)
theorem wg_1150 : Jvm.Cond.code ({ cls := "CallMeltModel", name := "goes", desc := "(I)I" } : Jvm.MethodName) prog_11_method_4_code (6 : Nat) (Option.some Jvm.ClassFile.FieldType.int) ∈ lw_g := List.mem_filter.mpr ⟨wt_1150, rfl⟩
theorem wd_1150 : Jvm.Cond.code ({ cls := "CallMeltModel", name := "goes", desc := "(I)I" } : Jvm.MethodName) prog_11_method_4_code (6 : Nat) (Option.some Jvm.ClassFile.FieldType.int) ∈ lw_u := lw_in wt_1150 rfl
theorem wt_1151 : Jvm.Cond.methodLink "CallMeltModel" (96 : Nat) ({ cls := "CallMeltModel", name := "partsOf", desc := "(I)I" } : Jvm.MethodName) ∈ lw_tbl := List.mem_of_getElem? (i := 1151) (by decide +kernel)
theorem wd_1151 : Jvm.Cond.methodLink "CallMeltModel" (96 : Nat) ({ cls := "CallMeltModel", name := "partsOf", desc := "(I)I" } : Jvm.MethodName) ∈ lw_u := lw_in wt_1151 rfl
theorem wt_1153 : Jvm.Cond.instanceMethod ({ cls := "CallMeltModel", name := "partsOf", desc := "(I)I" } : Jvm.MethodName) ∈ lw_tbl := List.mem_of_getElem? (i := 1153) (by decide +kernel)
theorem wd_1153 : Jvm.Cond.instanceMethod ({ cls := "CallMeltModel", name := "partsOf", desc := "(I)I" } : Jvm.MethodName) ∈ lw_u := lw_in wt_1153 rfl
theorem wt_1154 : Jvm.Cond.code ({ cls := "CallMeltModel", name := "partsOf", desc := "(I)I" } : Jvm.MethodName) prog_11_method_3_code (2 : Nat) (Option.some Jvm.ClassFile.FieldType.int) ∈ lw_tbl := List.mem_of_getElem? (i := 1154) (by decide +kernel)
theorem wg_1154 : Jvm.Cond.code ({ cls := "CallMeltModel", name := "partsOf", desc := "(I)I" } : Jvm.MethodName) prog_11_method_3_code (2 : Nat) (Option.some Jvm.ClassFile.FieldType.int) ∈ lw_g := List.mem_filter.mpr ⟨wt_1154, rfl⟩
theorem wd_1154 : Jvm.Cond.code ({ cls := "CallMeltModel", name := "partsOf", desc := "(I)I" } : Jvm.MethodName) prog_11_method_3_code (2 : Nat) (Option.some Jvm.ClassFile.FieldType.int) ∈ lw_u := lw_in wt_1154 rfl
theorem wt_1155 : Jvm.Cond.methodLink "CallMeltModel" (123 : Nat) ({ cls := "CallMeltModel", name := "make", desc := "(II)I" } : Jvm.MethodName) ∈ lw_tbl := List.mem_of_getElem? (i := 1155) (by decide +kernel)
theorem wd_1155 : Jvm.Cond.methodLink "CallMeltModel" (123 : Nat) ({ cls := "CallMeltModel", name := "make", desc := "(II)I" } : Jvm.MethodName) ∈ lw_u := lw_in wt_1155 rfl
theorem wt_1157 : Jvm.Cond.instanceMethod ({ cls := "CallMeltModel", name := "make", desc := "(II)I" } : Jvm.MethodName) ∈ lw_tbl := List.mem_of_getElem? (i := 1157) (by decide +kernel)
theorem wd_1157 : Jvm.Cond.instanceMethod ({ cls := "CallMeltModel", name := "make", desc := "(II)I" } : Jvm.MethodName) ∈ lw_u := lw_in wt_1157 rfl
theorem wt_1158 : Jvm.Cond.code ({ cls := "CallMeltModel", name := "make", desc := "(II)I" } : Jvm.MethodName) prog_11_method_12_code (5 : Nat) (Option.some Jvm.ClassFile.FieldType.int) ∈ lw_tbl := List.mem_of_getElem? (i := 1158) (by decide +kernel)
theorem wg_1158 : Jvm.Cond.code ({ cls := "CallMeltModel", name := "make", desc := "(II)I" } : Jvm.MethodName) prog_11_method_12_code (5 : Nat) (Option.some Jvm.ClassFile.FieldType.int) ∈ lw_g := List.mem_filter.mpr ⟨wt_1158, rfl⟩
theorem wd_1158 : Jvm.Cond.code ({ cls := "CallMeltModel", name := "make", desc := "(II)I" } : Jvm.MethodName) prog_11_method_12_code (5 : Nat) (Option.some Jvm.ClassFile.FieldType.int) ∈ lw_u := lw_in wt_1158 rfl
theorem wt_1159 : Jvm.Cond.methodLink "CallMeltModel" (127 : Nat) ({ cls := "CallMeltModel", name := "setPart", desc := "(III)V" } : Jvm.MethodName) ∈ lw_tbl := List.mem_of_getElem? (i := 1159) (by decide +kernel)
theorem wd_1159 : Jvm.Cond.methodLink "CallMeltModel" (127 : Nat) ({ cls := "CallMeltModel", name := "setPart", desc := "(III)V" } : Jvm.MethodName) ∈ lw_u := lw_in wt_1159 rfl
theorem wt_1161 : Jvm.Cond.instanceMethod ({ cls := "CallMeltModel", name := "setPart", desc := "(III)V" } : Jvm.MethodName) ∈ lw_tbl := List.mem_of_getElem? (i := 1161) (by decide +kernel)
theorem wd_1161 : Jvm.Cond.instanceMethod ({ cls := "CallMeltModel", name := "setPart", desc := "(III)V" } : Jvm.MethodName) ∈ lw_u := lw_in wt_1161 rfl
theorem wt_1162 : Jvm.Cond.code ({ cls := "CallMeltModel", name := "setPart", desc := "(III)V" } : Jvm.MethodName) prog_11_method_13_code (4 : Nat) (Option.none : Option Jvm.ClassFile.FieldType) ∈ lw_tbl := List.mem_of_getElem? (i := 1162) (by decide +kernel)
theorem wg_1162 : Jvm.Cond.code ({ cls := "CallMeltModel", name := "setPart", desc := "(III)V" } : Jvm.MethodName) prog_11_method_13_code (4 : Nat) (Option.none : Option Jvm.ClassFile.FieldType) ∈ lw_g := List.mem_filter.mpr ⟨wt_1162, rfl⟩
theorem wd_1162 : Jvm.Cond.code ({ cls := "CallMeltModel", name := "setPart", desc := "(III)V" } : Jvm.MethodName) prog_11_method_13_code (4 : Nat) (Option.none : Option Jvm.ClassFile.FieldType) ∈ lw_u := lw_in wt_1162 rfl
theorem wt_1166 : Jvm.Cond.code ({ cls := "CallMeltModel", name := "name", desc := "(I)I" } : Jvm.MethodName) prog_11_method_17_code (2 : Nat) (Option.some Jvm.ClassFile.FieldType.int) ∈ lw_tbl := List.mem_of_getElem? (i := 1166) (by decide +kernel)
theorem wg_1166 : Jvm.Cond.code ({ cls := "CallMeltModel", name := "name", desc := "(I)I" } : Jvm.MethodName) prog_11_method_17_code (2 : Nat) (Option.some Jvm.ClassFile.FieldType.int) ∈ lw_g := List.mem_filter.mpr ⟨wt_1166, rfl⟩
theorem wd_1166 : Jvm.Cond.code ({ cls := "CallMeltModel", name := "name", desc := "(I)I" } : Jvm.MethodName) prog_11_method_17_code (2 : Nat) (Option.some Jvm.ClassFile.FieldType.int) ∈ lw_u := lw_in wt_1166 rfl
theorem wt_1167 : Jvm.Cond.constantLong "CallMeltModel" (138 : Nat) (39 : Int64) ∈ lw_tbl := List.mem_of_getElem? (i := 1167) (by decide +kernel)
theorem wd_1167 : Jvm.Cond.constantLong "CallMeltModel" (138 : Nat) (39 : Int64) ∈ lw_u := lw_in wt_1167 rfl
theorem wt_1171 : Jvm.Cond.code ({ cls := "CallMeltModel", name := "act", desc := "(III)I" } : Jvm.MethodName) prog_11_method_18_code (4 : Nat) (Option.some Jvm.ClassFile.FieldType.int) ∈ lw_tbl := List.mem_of_getElem? (i := 1171) (by decide +kernel)
theorem wg_1171 : Jvm.Cond.code ({ cls := "CallMeltModel", name := "act", desc := "(III)I" } : Jvm.MethodName) prog_11_method_18_code (4 : Nat) (Option.some Jvm.ClassFile.FieldType.int) ∈ lw_g := List.mem_filter.mpr ⟨wt_1171, rfl⟩
theorem wd_1171 : Jvm.Cond.code ({ cls := "CallMeltModel", name := "act", desc := "(III)I" } : Jvm.MethodName) prog_11_method_18_code (4 : Nat) (Option.some Jvm.ClassFile.FieldType.int) ∈ lw_u := lw_in wt_1171 rfl
theorem wt_1172 : Jvm.Cond.methodLink "CallMeltModel" (140 : Nat) ({ cls := "CallMeltModel", name := "give", desc := "(III)V" } : Jvm.MethodName) ∈ lw_tbl := List.mem_of_getElem? (i := 1172) (by decide +kernel)
theorem wd_1172 : Jvm.Cond.methodLink "CallMeltModel" (140 : Nat) ({ cls := "CallMeltModel", name := "give", desc := "(III)V" } : Jvm.MethodName) ∈ lw_u := lw_in wt_1172 rfl
theorem wt_1174 : Jvm.Cond.instanceMethod ({ cls := "CallMeltModel", name := "give", desc := "(III)V" } : Jvm.MethodName) ∈ lw_tbl := List.mem_of_getElem? (i := 1174) (by decide +kernel)
theorem wd_1174 : Jvm.Cond.instanceMethod ({ cls := "CallMeltModel", name := "give", desc := "(III)V" } : Jvm.MethodName) ∈ lw_u := lw_in wt_1174 rfl
theorem wt_1175 : Jvm.Cond.code ({ cls := "CallMeltModel", name := "give", desc := "(III)V" } : Jvm.MethodName) prog_11_method_15_code (4 : Nat) (Option.none : Option Jvm.ClassFile.FieldType) ∈ lw_tbl := List.mem_of_getElem? (i := 1175) (by decide +kernel)
theorem wg_1175 : Jvm.Cond.code ({ cls := "CallMeltModel", name := "give", desc := "(III)V" } : Jvm.MethodName) prog_11_method_15_code (4 : Nat) (Option.none : Option Jvm.ClassFile.FieldType) ∈ lw_g := List.mem_filter.mpr ⟨wt_1175, rfl⟩
theorem wd_1175 : Jvm.Cond.code ({ cls := "CallMeltModel", name := "give", desc := "(III)V" } : Jvm.MethodName) prog_11_method_15_code (4 : Nat) (Option.none : Option Jvm.ClassFile.FieldType) ∈ lw_u := lw_in wt_1175 rfl
theorem wt_1176 : Jvm.Cond.constantLong "CallMeltModel" (143 : Nat) (5 : Int64) ∈ lw_tbl := List.mem_of_getElem? (i := 1176) (by decide +kernel)
theorem wd_1176 : Jvm.Cond.constantLong "CallMeltModel" (143 : Nat) (5 : Int64) ∈ lw_u := lw_in wt_1176 rfl
theorem wt_1180 : Jvm.Cond.code ({ cls := "CallMeltModel", name := "join", desc := "(IIII)I" } : Jvm.MethodName) prog_11_method_19_code (5 : Nat) (Option.some Jvm.ClassFile.FieldType.int) ∈ lw_tbl := List.mem_of_getElem? (i := 1180) (by decide +kernel)
theorem wg_1180 : Jvm.Cond.code ({ cls := "CallMeltModel", name := "join", desc := "(IIII)I" } : Jvm.MethodName) prog_11_method_19_code (5 : Nat) (Option.some Jvm.ClassFile.FieldType.int) ∈ lw_g := List.mem_filter.mpr ⟨wt_1180, rfl⟩
theorem wd_1180 : Jvm.Cond.code ({ cls := "CallMeltModel", name := "join", desc := "(IIII)I" } : Jvm.MethodName) prog_11_method_19_code (5 : Nat) (Option.some Jvm.ClassFile.FieldType.int) ∈ lw_u := lw_in wt_1180 rfl
theorem wt_1184 : Jvm.Cond.code ({ cls := "CallMeltModel", name := "set", desc := "(II)I" } : Jvm.MethodName) prog_11_method_20_code (3 : Nat) (Option.some Jvm.ClassFile.FieldType.int) ∈ lw_tbl := List.mem_of_getElem? (i := 1184) (by decide +kernel)
theorem wg_1184 : Jvm.Cond.code ({ cls := "CallMeltModel", name := "set", desc := "(II)I" } : Jvm.MethodName) prog_11_method_20_code (3 : Nat) (Option.some Jvm.ClassFile.FieldType.int) ∈ lw_g := List.mem_filter.mpr ⟨wt_1184, rfl⟩
theorem wd_1184 : Jvm.Cond.code ({ cls := "CallMeltModel", name := "set", desc := "(II)I" } : Jvm.MethodName) prog_11_method_20_code (3 : Nat) (Option.some Jvm.ClassFile.FieldType.int) ∈ lw_u := lw_in wt_1184 rfl
theorem wt_1188 : Jvm.Cond.code ({ cls := "CallMeltModel", name := "call", desc := "(IIII)I" } : Jvm.MethodName) prog_11_method_21_code (5 : Nat) (Option.some Jvm.ClassFile.FieldType.int) ∈ lw_tbl := List.mem_of_getElem? (i := 1188) (by decide +kernel)
theorem wg_1188 : Jvm.Cond.code ({ cls := "CallMeltModel", name := "call", desc := "(IIII)I" } : Jvm.MethodName) prog_11_method_21_code (5 : Nat) (Option.some Jvm.ClassFile.FieldType.int) ∈ lw_g := List.mem_filter.mpr ⟨wt_1188, rfl⟩
theorem wd_1188 : Jvm.Cond.code ({ cls := "CallMeltModel", name := "call", desc := "(IIII)I" } : Jvm.MethodName) prog_11_method_21_code (5 : Nat) (Option.some Jvm.ClassFile.FieldType.int) ∈ lw_u := lw_in wt_1188 rfl
theorem wt_1189 : Jvm.Cond.methodLink "CallMeltModel" (145 : Nat) ({ cls := "CallMeltModel", name := "isRoutine", desc := "(I)Z" } : Jvm.MethodName) ∈ lw_tbl := List.mem_of_getElem? (i := 1189) (by decide +kernel)
theorem wd_1189 : Jvm.Cond.methodLink "CallMeltModel" (145 : Nat) ({ cls := "CallMeltModel", name := "isRoutine", desc := "(I)Z" } : Jvm.MethodName) ∈ lw_u := lw_in wt_1189 rfl
theorem wt_1191 : Jvm.Cond.instanceMethod ({ cls := "CallMeltModel", name := "isRoutine", desc := "(I)Z" } : Jvm.MethodName) ∈ lw_tbl := List.mem_of_getElem? (i := 1191) (by decide +kernel)
theorem wd_1191 : Jvm.Cond.instanceMethod ({ cls := "CallMeltModel", name := "isRoutine", desc := "(I)Z" } : Jvm.MethodName) ∈ lw_u := lw_in wt_1191 rfl
theorem wt_1192 : Jvm.Cond.code ({ cls := "CallMeltModel", name := "isRoutine", desc := "(I)Z" } : Jvm.MethodName) prog_11_method_10_code (2 : Nat) (Option.some Jvm.ClassFile.FieldType.boolean) ∈ lw_tbl := List.mem_of_getElem? (i := 1192) (by decide +kernel)
theorem wg_1192 : Jvm.Cond.code ({ cls := "CallMeltModel", name := "isRoutine", desc := "(I)Z" } : Jvm.MethodName) prog_11_method_10_code (2 : Nat) (Option.some Jvm.ClassFile.FieldType.boolean) ∈ lw_g := List.mem_filter.mpr ⟨wt_1192, rfl⟩
theorem wd_1192 : Jvm.Cond.code ({ cls := "CallMeltModel", name := "isRoutine", desc := "(I)Z" } : Jvm.MethodName) prog_11_method_10_code (2 : Nat) (Option.some Jvm.ClassFile.FieldType.boolean) ∈ lw_u := lw_in wt_1192 rfl
theorem wt_1196 : Jvm.Cond.code ({ cls := "CallMeltModel", name := "routine", desc := "(I)I" } : Jvm.MethodName) prog_11_method_22_code (2 : Nat) (Option.some Jvm.ClassFile.FieldType.int) ∈ lw_tbl := List.mem_of_getElem? (i := 1196) (by decide +kernel)
theorem wg_1196 : Jvm.Cond.code ({ cls := "CallMeltModel", name := "routine", desc := "(I)I" } : Jvm.MethodName) prog_11_method_22_code (2 : Nat) (Option.some Jvm.ClassFile.FieldType.int) ∈ lw_g := List.mem_filter.mpr ⟨wt_1196, rfl⟩
theorem wd_1196 : Jvm.Cond.code ({ cls := "CallMeltModel", name := "routine", desc := "(I)I" } : Jvm.MethodName) prog_11_method_22_code (2 : Nat) (Option.some Jvm.ClassFile.FieldType.int) ∈ lw_u := lw_in wt_1196 rfl
theorem wt_1197 : Jvm.Cond.constantLong "CallMeltModel" (148 : Nat) (3 : Int64) ∈ lw_tbl := List.mem_of_getElem? (i := 1197) (by decide +kernel)
theorem wd_1197 : Jvm.Cond.constantLong "CallMeltModel" (148 : Nat) (3 : Int64) ∈ lw_u := lw_in wt_1197 rfl
theorem wt_1201 : Jvm.Cond.code ({ cls := "CallMeltModel", name := "body", desc := "(II)I" } : Jvm.MethodName) prog_11_method_23_code (3 : Nat) (Option.some Jvm.ClassFile.FieldType.int) ∈ lw_tbl := List.mem_of_getElem? (i := 1201) (by decide +kernel)
theorem wg_1201 : Jvm.Cond.code ({ cls := "CallMeltModel", name := "body", desc := "(II)I" } : Jvm.MethodName) prog_11_method_23_code (3 : Nat) (Option.some Jvm.ClassFile.FieldType.int) ∈ lw_g := List.mem_filter.mpr ⟨wt_1201, rfl⟩
theorem wd_1201 : Jvm.Cond.code ({ cls := "CallMeltModel", name := "body", desc := "(II)I" } : Jvm.MethodName) prog_11_method_23_code (3 : Nat) (Option.some Jvm.ClassFile.FieldType.int) ∈ lw_u := lw_in wt_1201 rfl
theorem wt_1202 : Jvm.Cond.methodLink "CallMeltModel" (150 : Nat) ({ cls := "CallMeltModel", name := "keep", desc := "()V" } : Jvm.MethodName) ∈ lw_tbl := List.mem_of_getElem? (i := 1202) (by decide +kernel)
theorem wd_1202 : Jvm.Cond.methodLink "CallMeltModel" (150 : Nat) ({ cls := "CallMeltModel", name := "keep", desc := "()V" } : Jvm.MethodName) ∈ lw_u := lw_in wt_1202 rfl
theorem wt_1204 : Jvm.Cond.instanceMethod ({ cls := "CallMeltModel", name := "keep", desc := "()V" } : Jvm.MethodName) ∈ lw_tbl := List.mem_of_getElem? (i := 1204) (by decide +kernel)
theorem wd_1204 : Jvm.Cond.instanceMethod ({ cls := "CallMeltModel", name := "keep", desc := "()V" } : Jvm.MethodName) ∈ lw_u := lw_in wt_1204 rfl
theorem wt_1205 : Jvm.Cond.code ({ cls := "CallMeltModel", name := "keep", desc := "()V" } : Jvm.MethodName) prog_11_method_45_code (1 : Nat) (Option.none : Option Jvm.ClassFile.FieldType) ∈ lw_tbl := List.mem_of_getElem? (i := 1205) (by decide +kernel)
theorem wg_1205 : Jvm.Cond.code ({ cls := "CallMeltModel", name := "keep", desc := "()V" } : Jvm.MethodName) prog_11_method_45_code (1 : Nat) (Option.none : Option Jvm.ClassFile.FieldType) ∈ lw_g := List.mem_filter.mpr ⟨wt_1205, rfl⟩
theorem wd_1205 : Jvm.Cond.code ({ cls := "CallMeltModel", name := "keep", desc := "()V" } : Jvm.MethodName) prog_11_method_45_code (1 : Nat) (Option.none : Option Jvm.ClassFile.FieldType) ∈ lw_u := lw_in wt_1205 rfl
theorem wt_1206 : Jvm.Cond.methodLink "CallMeltModel" (244 : Nat) ({ cls := "CallMeltModel", name := "writesDown", desc := "()V" } : Jvm.MethodName) ∈ lw_tbl := List.mem_of_getElem? (i := 1206) (by decide +kernel)
theorem wd_1206 : Jvm.Cond.methodLink "CallMeltModel" (244 : Nat) ({ cls := "CallMeltModel", name := "writesDown", desc := "()V" } : Jvm.MethodName) ∈ lw_u := lw_in wt_1206 rfl
theorem wt_1208 : Jvm.Cond.instanceMethod ({ cls := "CallMeltModel", name := "writesDown", desc := "()V" } : Jvm.MethodName) ∈ lw_tbl := List.mem_of_getElem? (i := 1208) (by decide +kernel)
theorem wd_1208 : Jvm.Cond.instanceMethod ({ cls := "CallMeltModel", name := "writesDown", desc := "()V" } : Jvm.MethodName) ∈ lw_u := lw_in wt_1208 rfl
theorem wt_1209 : Jvm.Cond.code ({ cls := "CallMeltModel", name := "writesDown", desc := "()V" } : Jvm.MethodName) prog_11_method_47_code (4 : Nat) (Option.none : Option Jvm.ClassFile.FieldType) ∈ lw_tbl := List.mem_of_getElem? (i := 1209) (by decide +kernel)
theorem wg_1209 : Jvm.Cond.code ({ cls := "CallMeltModel", name := "writesDown", desc := "()V" } : Jvm.MethodName) prog_11_method_47_code (4 : Nat) (Option.none : Option Jvm.ClassFile.FieldType) ∈ lw_g := List.mem_filter.mpr ⟨wt_1209, rfl⟩
theorem wd_1209 : Jvm.Cond.code ({ cls := "CallMeltModel", name := "writesDown", desc := "()V" } : Jvm.MethodName) prog_11_method_47_code (4 : Nat) (Option.none : Option Jvm.ClassFile.FieldType) ∈ lw_u := lw_in wt_1209 rfl
theorem wt_1210 : Jvm.Cond.constant "CallMeltModel" (253 : Nat) (43200 : Int32) ∈ lw_tbl := List.mem_of_getElem? (i := 1210) (by decide +kernel)
theorem wd_1210 : Jvm.Cond.constant "CallMeltModel" (253 : Nat) (43200 : Int32) ∈ lw_u := lw_in wt_1210 rfl
theorem wt_1211 : Jvm.Cond.methodLink "CallMeltModel" (247 : Nat) ({ cls := "CallMeltModel", name := "keepIt", desc := "()V" } : Jvm.MethodName) ∈ lw_tbl := List.mem_of_getElem? (i := 1211) (by decide +kernel)
theorem wd_1211 : Jvm.Cond.methodLink "CallMeltModel" (247 : Nat) ({ cls := "CallMeltModel", name := "keepIt", desc := "()V" } : Jvm.MethodName) ∈ lw_u := lw_in wt_1211 rfl
theorem wt_1213 : Jvm.Cond.instanceMethod ({ cls := "CallMeltModel", name := "keepIt", desc := "()V" } : Jvm.MethodName) ∈ lw_tbl := List.mem_of_getElem? (i := 1213) (by decide +kernel)
theorem wd_1213 : Jvm.Cond.instanceMethod ({ cls := "CallMeltModel", name := "keepIt", desc := "()V" } : Jvm.MethodName) ∈ lw_u := lw_in wt_1213 rfl
theorem wt_1214 : Jvm.Cond.code ({ cls := "CallMeltModel", name := "keepIt", desc := "()V" } : Jvm.MethodName) prog_11_method_46_code (2 : Nat) (Option.none : Option Jvm.ClassFile.FieldType) ∈ lw_tbl := List.mem_of_getElem? (i := 1214) (by decide +kernel)
theorem wg_1214 : Jvm.Cond.code ({ cls := "CallMeltModel", name := "keepIt", desc := "()V" } : Jvm.MethodName) prog_11_method_46_code (2 : Nat) (Option.none : Option Jvm.ClassFile.FieldType) ∈ lw_g := List.mem_filter.mpr ⟨wt_1214, rfl⟩
theorem wd_1214 : Jvm.Cond.code ({ cls := "CallMeltModel", name := "keepIt", desc := "()V" } : Jvm.MethodName) prog_11_method_46_code (2 : Nat) (Option.none : Option Jvm.ClassFile.FieldType) ∈ lw_u := lw_in wt_1214 rfl
theorem wt_1215 : Jvm.Cond.methodLink "CallMeltModel" (250 : Nat) ({ cls := "CallMeltModel", name := "copies", desc := "(II)V" } : Jvm.MethodName) ∈ lw_tbl := List.mem_of_getElem? (i := 1215) (by decide +kernel)
theorem wd_1215 : Jvm.Cond.methodLink "CallMeltModel" (250 : Nat) ({ cls := "CallMeltModel", name := "copies", desc := "(II)V" } : Jvm.MethodName) ∈ lw_u := lw_in wt_1215 rfl
theorem wt_1217 : Jvm.Cond.instanceMethod ({ cls := "CallMeltModel", name := "copies", desc := "(II)V" } : Jvm.MethodName) ∈ lw_tbl := List.mem_of_getElem? (i := 1217) (by decide +kernel)
theorem wd_1217 : Jvm.Cond.instanceMethod ({ cls := "CallMeltModel", name := "copies", desc := "(II)V" } : Jvm.MethodName) ∈ lw_u := lw_in wt_1217 rfl
theorem wt_1218 : Jvm.Cond.code ({ cls := "CallMeltModel", name := "copies", desc := "(II)V" } : Jvm.MethodName) prog_11_method_48_code (4 : Nat) (Option.none : Option Jvm.ClassFile.FieldType) ∈ lw_tbl := List.mem_of_getElem? (i := 1218) (by decide +kernel)
theorem wg_1218 : Jvm.Cond.code ({ cls := "CallMeltModel", name := "copies", desc := "(II)V" } : Jvm.MethodName) prog_11_method_48_code (4 : Nat) (Option.none : Option Jvm.ClassFile.FieldType) ∈ lw_g := List.mem_filter.mpr ⟨wt_1218, rfl⟩
theorem wd_1218 : Jvm.Cond.code ({ cls := "CallMeltModel", name := "copies", desc := "(II)V" } : Jvm.MethodName) prog_11_method_48_code (4 : Nat) (Option.none : Option Jvm.ClassFile.FieldType) ∈ lw_u := lw_in wt_1218 rfl
theorem wt_1219 : Jvm.Cond.methodLink "CallMeltModel" (153 : Nat) ({ cls := "CallMeltModel", name := "uses", desc := "(I)I" } : Jvm.MethodName) ∈ lw_tbl := List.mem_of_getElem? (i := 1219) (by decide +kernel)
theorem wd_1219 : Jvm.Cond.methodLink "CallMeltModel" (153 : Nat) ({ cls := "CallMeltModel", name := "uses", desc := "(I)I" } : Jvm.MethodName) ∈ lw_u := lw_in wt_1219 rfl
theorem wt_1221 : Jvm.Cond.instanceMethod ({ cls := "CallMeltModel", name := "uses", desc := "(I)I" } : Jvm.MethodName) ∈ lw_tbl := List.mem_of_getElem? (i := 1221) (by decide +kernel)
theorem wd_1221 : Jvm.Cond.instanceMethod ({ cls := "CallMeltModel", name := "uses", desc := "(I)I" } : Jvm.MethodName) ∈ lw_u := lw_in wt_1221 rfl
theorem wt_1222 : Jvm.Cond.code ({ cls := "CallMeltModel", name := "uses", desc := "(I)I" } : Jvm.MethodName) prog_11_method_11_code (7 : Nat) (Option.some Jvm.ClassFile.FieldType.int) ∈ lw_tbl := List.mem_of_getElem? (i := 1222) (by decide +kernel)
theorem wg_1222 : Jvm.Cond.code ({ cls := "CallMeltModel", name := "uses", desc := "(I)I" } : Jvm.MethodName) prog_11_method_11_code (7 : Nat) (Option.some Jvm.ClassFile.FieldType.int) ∈ lw_g := List.mem_filter.mpr ⟨wt_1222, rfl⟩
theorem wd_1222 : Jvm.Cond.code ({ cls := "CallMeltModel", name := "uses", desc := "(I)I" } : Jvm.MethodName) prog_11_method_11_code (7 : Nat) (Option.some Jvm.ClassFile.FieldType.int) ∈ lw_u := lw_in wt_1222 rfl
theorem wt_1226 : Jvm.Cond.code ({ cls := "CallMeltModel", name := "told", desc := "(II)I" } : Jvm.MethodName) prog_11_method_24_code (3 : Nat) (Option.some Jvm.ClassFile.FieldType.int) ∈ lw_tbl := List.mem_of_getElem? (i := 1226) (by decide +kernel)
theorem wg_1226 : Jvm.Cond.code ({ cls := "CallMeltModel", name := "told", desc := "(II)I" } : Jvm.MethodName) prog_11_method_24_code (3 : Nat) (Option.some Jvm.ClassFile.FieldType.int) ∈ lw_g := List.mem_filter.mpr ⟨wt_1226, rfl⟩
theorem wd_1226 : Jvm.Cond.code ({ cls := "CallMeltModel", name := "told", desc := "(II)I" } : Jvm.MethodName) prog_11_method_24_code (3 : Nat) (Option.some Jvm.ClassFile.FieldType.int) ∈ lw_u := lw_in wt_1226 rfl
theorem wt_1227 : Jvm.Cond.constantLong "CallMeltModel" (156 : Nat) (8 : Int64) ∈ lw_tbl := List.mem_of_getElem? (i := 1227) (by decide +kernel)
theorem wd_1227 : Jvm.Cond.constantLong "CallMeltModel" (156 : Nat) (8 : Int64) ∈ lw_u := lw_in wt_1227 rfl
theorem wt_1228 : Jvm.Cond.constant "CallMeltModel" (158 : Nat) (-1000000000 : Int32) ∈ lw_tbl := List.mem_of_getElem? (i := 1228) (by decide +kernel)
theorem wd_1228 : Jvm.Cond.constant "CallMeltModel" (158 : Nat) (-1000000000 : Int32) ∈ lw_u := lw_in wt_1228 rfl
theorem wt_1229 : Jvm.Cond.methodLink "CallMeltModel" (159 : Nat) ({ cls := "CallMeltModel", name := "homeOf", desc := "(I)I" } : Jvm.MethodName) ∈ lw_tbl := List.mem_of_getElem? (i := 1229) (by decide +kernel)
theorem wd_1229 : Jvm.Cond.methodLink "CallMeltModel" (159 : Nat) ({ cls := "CallMeltModel", name := "homeOf", desc := "(I)I" } : Jvm.MethodName) ∈ lw_u := lw_in wt_1229 rfl
theorem wt_1231 : Jvm.Cond.instanceMethod ({ cls := "CallMeltModel", name := "homeOf", desc := "(I)I" } : Jvm.MethodName) ∈ lw_tbl := List.mem_of_getElem? (i := 1231) (by decide +kernel)
theorem wd_1231 : Jvm.Cond.instanceMethod ({ cls := "CallMeltModel", name := "homeOf", desc := "(I)I" } : Jvm.MethodName) ∈ lw_u := lw_in wt_1231 rfl
theorem wt_1232 : Jvm.Cond.code ({ cls := "CallMeltModel", name := "homeOf", desc := "(I)I" } : Jvm.MethodName) prog_11_method_9_code (3 : Nat) (Option.some Jvm.ClassFile.FieldType.int) ∈ lw_tbl := List.mem_of_getElem? (i := 1232) (by decide +kernel)
theorem wg_1232 : Jvm.Cond.code ({ cls := "CallMeltModel", name := "homeOf", desc := "(I)I" } : Jvm.MethodName) prog_11_method_9_code (3 : Nat) (Option.some Jvm.ClassFile.FieldType.int) ∈ lw_g := List.mem_filter.mpr ⟨wt_1232, rfl⟩
theorem wd_1232 : Jvm.Cond.code ({ cls := "CallMeltModel", name := "homeOf", desc := "(I)I" } : Jvm.MethodName) prog_11_method_9_code (3 : Nat) (Option.some Jvm.ClassFile.FieldType.int) ∈ lw_u := lw_in wt_1232 rfl
theorem wt_1236 : Jvm.Cond.code ({ cls := "CallMeltModel", name := "about", desc := "(II)I" } : Jvm.MethodName) prog_11_method_26_code (5 : Nat) (Option.some Jvm.ClassFile.FieldType.int) ∈ lw_tbl := List.mem_of_getElem? (i := 1236) (by decide +kernel)
theorem wg_1236 : Jvm.Cond.code ({ cls := "CallMeltModel", name := "about", desc := "(II)I" } : Jvm.MethodName) prog_11_method_26_code (5 : Nat) (Option.some Jvm.ClassFile.FieldType.int) ∈ lw_g := List.mem_filter.mpr ⟨wt_1236, rfl⟩
theorem wd_1236 : Jvm.Cond.code ({ cls := "CallMeltModel", name := "about", desc := "(II)I" } : Jvm.MethodName) prog_11_method_26_code (5 : Nat) (Option.some Jvm.ClassFile.FieldType.int) ∈ lw_u := lw_in wt_1236 rfl
theorem wt_1237 : Jvm.Cond.methodLink "CallMeltModel" (162 : Nat) ({ cls := "CallMeltModel", name := "callsIn", desc := "(II)I" } : Jvm.MethodName) ∈ lw_tbl := List.mem_of_getElem? (i := 1237) (by decide +kernel)
theorem wd_1237 : Jvm.Cond.methodLink "CallMeltModel" (162 : Nat) ({ cls := "CallMeltModel", name := "callsIn", desc := "(II)I" } : Jvm.MethodName) ∈ lw_u := lw_in wt_1237 rfl
theorem wt_1239 : Jvm.Cond.instanceMethod ({ cls := "CallMeltModel", name := "callsIn", desc := "(II)I" } : Jvm.MethodName) ∈ lw_tbl := List.mem_of_getElem? (i := 1239) (by decide +kernel)
theorem wd_1239 : Jvm.Cond.instanceMethod ({ cls := "CallMeltModel", name := "callsIn", desc := "(II)I" } : Jvm.MethodName) ∈ lw_u := lw_in wt_1239 rfl
theorem wt_1240 : Jvm.Cond.code ({ cls := "CallMeltModel", name := "callsIn", desc := "(II)I" } : Jvm.MethodName) prog_11_method_25_code (6 : Nat) (Option.some Jvm.ClassFile.FieldType.int) ∈ lw_tbl := List.mem_of_getElem? (i := 1240) (by decide +kernel)
theorem wg_1240 : Jvm.Cond.code ({ cls := "CallMeltModel", name := "callsIn", desc := "(II)I" } : Jvm.MethodName) prog_11_method_25_code (6 : Nat) (Option.some Jvm.ClassFile.FieldType.int) ∈ lw_g := List.mem_filter.mpr ⟨wt_1240, rfl⟩
theorem wd_1240 : Jvm.Cond.code ({ cls := "CallMeltModel", name := "callsIn", desc := "(II)I" } : Jvm.MethodName) prog_11_method_25_code (6 : Nat) (Option.some Jvm.ClassFile.FieldType.int) ∈ lw_u := lw_in wt_1240 rfl
theorem wt_1244 : Jvm.Cond.code ({ cls := "CallMeltModel", name := "same", desc := "(II)I" } : Jvm.MethodName) prog_11_method_27_code (6 : Nat) (Option.some Jvm.ClassFile.FieldType.int) ∈ lw_tbl := List.mem_of_getElem? (i := 1244) (by decide +kernel)
theorem wg_1244 : Jvm.Cond.code ({ cls := "CallMeltModel", name := "same", desc := "(II)I" } : Jvm.MethodName) prog_11_method_27_code (6 : Nat) (Option.some Jvm.ClassFile.FieldType.int) ∈ lw_g := List.mem_filter.mpr ⟨wt_1244, rfl⟩
theorem wd_1244 : Jvm.Cond.code ({ cls := "CallMeltModel", name := "same", desc := "(II)I" } : Jvm.MethodName) prog_11_method_27_code (6 : Nat) (Option.some Jvm.ClassFile.FieldType.int) ∈ lw_u := lw_in wt_1244 rfl
theorem wt_1248 : Jvm.Cond.code ({ cls := "CallMeltModel", name := "run", desc := "(IIIII)I" } : Jvm.MethodName) prog_11_method_40_code (7 : Nat) (Option.some Jvm.ClassFile.FieldType.int) ∈ lw_tbl := List.mem_of_getElem? (i := 1248) (by decide +kernel)
theorem wg_1248 : Jvm.Cond.code ({ cls := "CallMeltModel", name := "run", desc := "(IIIII)I" } : Jvm.MethodName) prog_11_method_40_code (7 : Nat) (Option.some Jvm.ClassFile.FieldType.int) ∈ lw_g := List.mem_filter.mpr ⟨wt_1248, rfl⟩
theorem wd_1248 : Jvm.Cond.code ({ cls := "CallMeltModel", name := "run", desc := "(IIIII)I" } : Jvm.MethodName) prog_11_method_40_code (7 : Nat) (Option.some Jvm.ClassFile.FieldType.int) ∈ lw_u := lw_in wt_1248 rfl
theorem wt_1249 : Jvm.Cond.constantLong "CallMeltModel" (232 : Nat) (2000 : Int64) ∈ lw_tbl := List.mem_of_getElem? (i := 1249) (by decide +kernel)
theorem wd_1249 : Jvm.Cond.constantLong "CallMeltModel" (232 : Nat) (2000 : Int64) ∈ lw_u := lw_in wt_1249 rfl
theorem wt_1250 : Jvm.Cond.constant "CallMeltModel" (237 : Nat) (60000 : Int32) ∈ lw_tbl := List.mem_of_getElem? (i := 1250) (by decide +kernel)
theorem wd_1250 : Jvm.Cond.constant "CallMeltModel" (237 : Nat) (60000 : Int32) ∈ lw_u := lw_in wt_1250 rfl
theorem wt_1251 : Jvm.Cond.methodLink "CallMeltModel" (181 : Nat) ({ cls := "CallMeltModel", name := "refuses", desc := "(II)V" } : Jvm.MethodName) ∈ lw_tbl := List.mem_of_getElem? (i := 1251) (by decide +kernel)
theorem wd_1251 : Jvm.Cond.methodLink "CallMeltModel" (181 : Nat) ({ cls := "CallMeltModel", name := "refuses", desc := "(II)V" } : Jvm.MethodName) ∈ lw_u := lw_in wt_1251 rfl
theorem wt_1253 : Jvm.Cond.instanceMethod ({ cls := "CallMeltModel", name := "refuses", desc := "(II)V" } : Jvm.MethodName) ∈ lw_tbl := List.mem_of_getElem? (i := 1253) (by decide +kernel)
theorem wd_1253 : Jvm.Cond.instanceMethod ({ cls := "CallMeltModel", name := "refuses", desc := "(II)V" } : Jvm.MethodName) ∈ lw_u := lw_in wt_1253 rfl
theorem wt_1254 : Jvm.Cond.code ({ cls := "CallMeltModel", name := "refuses", desc := "(II)V" } : Jvm.MethodName) prog_11_method_28_code (3 : Nat) (Option.none : Option Jvm.ClassFile.FieldType) ∈ lw_tbl := List.mem_of_getElem? (i := 1254) (by decide +kernel)
theorem wg_1254 : Jvm.Cond.code ({ cls := "CallMeltModel", name := "refuses", desc := "(II)V" } : Jvm.MethodName) prog_11_method_28_code (3 : Nat) (Option.none : Option Jvm.ClassFile.FieldType) ∈ lw_g := List.mem_filter.mpr ⟨wt_1254, rfl⟩
theorem wd_1254 : Jvm.Cond.code ({ cls := "CallMeltModel", name := "refuses", desc := "(II)V" } : Jvm.MethodName) prog_11_method_28_code (3 : Nat) (Option.none : Option Jvm.ClassFile.FieldType) ∈ lw_u := lw_in wt_1254 rfl
theorem wt_1255 : Jvm.Cond.methodLink "CallMeltModel" (211 : Nat) ({ cls := "CallMeltModel", name := "begins", desc := "(I)V" } : Jvm.MethodName) ∈ lw_tbl := List.mem_of_getElem? (i := 1255) (by decide +kernel)
theorem wd_1255 : Jvm.Cond.methodLink "CallMeltModel" (211 : Nat) ({ cls := "CallMeltModel", name := "begins", desc := "(I)V" } : Jvm.MethodName) ∈ lw_u := lw_in wt_1255 rfl
theorem wt_1257 : Jvm.Cond.instanceMethod ({ cls := "CallMeltModel", name := "begins", desc := "(I)V" } : Jvm.MethodName) ∈ lw_tbl := List.mem_of_getElem? (i := 1257) (by decide +kernel)
theorem wd_1257 : Jvm.Cond.instanceMethod ({ cls := "CallMeltModel", name := "begins", desc := "(I)V" } : Jvm.MethodName) ∈ lw_u := lw_in wt_1257 rfl
theorem wt_1258 : Jvm.Cond.code ({ cls := "CallMeltModel", name := "begins", desc := "(I)V" } : Jvm.MethodName) prog_11_method_31_code (2 : Nat) (Option.none : Option Jvm.ClassFile.FieldType) ∈ lw_tbl := List.mem_of_getElem? (i := 1258) (by decide +kernel)
theorem wg_1258 : Jvm.Cond.code ({ cls := "CallMeltModel", name := "begins", desc := "(I)V" } : Jvm.MethodName) prog_11_method_31_code (2 : Nat) (Option.none : Option Jvm.ClassFile.FieldType) ∈ lw_g := List.mem_filter.mpr ⟨wt_1258, rfl⟩
theorem wd_1258 : Jvm.Cond.code ({ cls := "CallMeltModel", name := "begins", desc := "(I)V" } : Jvm.MethodName) prog_11_method_31_code (2 : Nat) (Option.none : Option Jvm.ClassFile.FieldType) ∈ lw_u := lw_in wt_1258 rfl
theorem wt_1259 : Jvm.Cond.methodLink "CallMeltModel" (188 : Nat) ({ cls := "CallMeltModel", name := "costOf", desc := "(I)I" } : Jvm.MethodName) ∈ lw_tbl := List.mem_of_getElem? (i := 1259) (by decide +kernel)
theorem wd_1259 : Jvm.Cond.methodLink "CallMeltModel" (188 : Nat) ({ cls := "CallMeltModel", name := "costOf", desc := "(I)I" } : Jvm.MethodName) ∈ lw_u := lw_in wt_1259 rfl
theorem wt_1260 : Jvm.Cond.static ({ cls := "CallMeltModel", name := "costOf", desc := "(I)I" } : Jvm.MethodName) ∈ lw_tbl := List.mem_of_getElem? (i := 1260) (by decide +kernel)
theorem wd_1260 : Jvm.Cond.static ({ cls := "CallMeltModel", name := "costOf", desc := "(I)I" } : Jvm.MethodName) ∈ lw_u := lw_in wt_1260 rfl
theorem wt_1261 : Jvm.Cond.code ({ cls := "CallMeltModel", name := "costOf", desc := "(I)I" } : Jvm.MethodName) prog_11_method_30_code (1 : Nat) (Option.some Jvm.ClassFile.FieldType.int) ∈ lw_tbl := List.mem_of_getElem? (i := 1261) (by decide +kernel)
theorem wg_1261 : Jvm.Cond.code ({ cls := "CallMeltModel", name := "costOf", desc := "(I)I" } : Jvm.MethodName) prog_11_method_30_code (1 : Nat) (Option.some Jvm.ClassFile.FieldType.int) ∈ lw_g := List.mem_filter.mpr ⟨wt_1261, rfl⟩
theorem wd_1261 : Jvm.Cond.code ({ cls := "CallMeltModel", name := "costOf", desc := "(I)I" } : Jvm.MethodName) prog_11_method_30_code (1 : Nat) (Option.some Jvm.ClassFile.FieldType.int) ∈ lw_u := lw_in wt_1261 rfl
theorem wt_1262 : Jvm.Cond.methodLink "CallMeltModel" (191 : Nat) ({ cls := "CallMeltModel", name := "pays", desc := "(II)Z" } : Jvm.MethodName) ∈ lw_tbl := List.mem_of_getElem? (i := 1262) (by decide +kernel)
theorem wd_1262 : Jvm.Cond.methodLink "CallMeltModel" (191 : Nat) ({ cls := "CallMeltModel", name := "pays", desc := "(II)Z" } : Jvm.MethodName) ∈ lw_u := lw_in wt_1262 rfl
theorem wt_1264 : Jvm.Cond.instanceMethod ({ cls := "CallMeltModel", name := "pays", desc := "(II)Z" } : Jvm.MethodName) ∈ lw_tbl := List.mem_of_getElem? (i := 1264) (by decide +kernel)
theorem wd_1264 : Jvm.Cond.instanceMethod ({ cls := "CallMeltModel", name := "pays", desc := "(II)Z" } : Jvm.MethodName) ∈ lw_u := lw_in wt_1264 rfl
theorem wt_1265 : Jvm.Cond.code ({ cls := "CallMeltModel", name := "pays", desc := "(II)Z" } : Jvm.MethodName) prog_11_method_29_code (3 : Nat) (Option.some Jvm.ClassFile.FieldType.boolean) ∈ lw_tbl := List.mem_of_getElem? (i := 1265) (by decide +kernel)
theorem wg_1265 : Jvm.Cond.code ({ cls := "CallMeltModel", name := "pays", desc := "(II)Z" } : Jvm.MethodName) prog_11_method_29_code (3 : Nat) (Option.some Jvm.ClassFile.FieldType.boolean) ∈ lw_g := List.mem_filter.mpr ⟨wt_1265, rfl⟩
theorem wd_1265 : Jvm.Cond.code ({ cls := "CallMeltModel", name := "pays", desc := "(II)Z" } : Jvm.MethodName) prog_11_method_29_code (3 : Nat) (Option.some Jvm.ClassFile.FieldType.boolean) ∈ lw_u := lw_in wt_1265 rfl
theorem wt_1266 : Jvm.Cond.methodLink "CallMeltModel" (241 : Nat) ({ cls := "CallMeltModel", name := "goesOn", desc := "()V" } : Jvm.MethodName) ∈ lw_tbl := List.mem_of_getElem? (i := 1266) (by decide +kernel)
theorem wd_1266 : Jvm.Cond.methodLink "CallMeltModel" (241 : Nat) ({ cls := "CallMeltModel", name := "goesOn", desc := "()V" } : Jvm.MethodName) ∈ lw_u := lw_in wt_1266 rfl
theorem wt_1268 : Jvm.Cond.instanceMethod ({ cls := "CallMeltModel", name := "goesOn", desc := "()V" } : Jvm.MethodName) ∈ lw_tbl := List.mem_of_getElem? (i := 1268) (by decide +kernel)
theorem wd_1268 : Jvm.Cond.instanceMethod ({ cls := "CallMeltModel", name := "goesOn", desc := "()V" } : Jvm.MethodName) ∈ lw_u := lw_in wt_1268 rfl
theorem wt_1269 : Jvm.Cond.code ({ cls := "CallMeltModel", name := "goesOn", desc := "()V" } : Jvm.MethodName) prog_11_method_37_code (6 : Nat) (Option.none : Option Jvm.ClassFile.FieldType) ∈ lw_tbl := List.mem_of_getElem? (i := 1269) (by decide +kernel)
theorem wg_1269 : Jvm.Cond.code ({ cls := "CallMeltModel", name := "goesOn", desc := "()V" } : Jvm.MethodName) prog_11_method_37_code (6 : Nat) (Option.none : Option Jvm.ClassFile.FieldType) ∈ lw_g := List.mem_filter.mpr ⟨wt_1269, rfl⟩
theorem wd_1269 : Jvm.Cond.code ({ cls := "CallMeltModel", name := "goesOn", desc := "()V" } : Jvm.MethodName) prog_11_method_37_code (6 : Nat) (Option.none : Option Jvm.ClassFile.FieldType) ∈ lw_u := lw_in wt_1269 rfl
theorem wt_1270 : Jvm.Cond.methodLink "CallMeltModel" (205 : Nat) ({ cls := "CallMeltModel", name := "ends", desc := "(I)V" } : Jvm.MethodName) ∈ lw_tbl := List.mem_of_getElem? (i := 1270) (by decide +kernel)
theorem wd_1270 : Jvm.Cond.methodLink "CallMeltModel" (205 : Nat) ({ cls := "CallMeltModel", name := "ends", desc := "(I)V" } : Jvm.MethodName) ∈ lw_u := lw_in wt_1270 rfl
theorem wt_1272 : Jvm.Cond.instanceMethod ({ cls := "CallMeltModel", name := "ends", desc := "(I)V" } : Jvm.MethodName) ∈ lw_tbl := List.mem_of_getElem? (i := 1272) (by decide +kernel)
theorem wd_1272 : Jvm.Cond.instanceMethod ({ cls := "CallMeltModel", name := "ends", desc := "(I)V" } : Jvm.MethodName) ∈ lw_u := lw_in wt_1272 rfl
theorem wt_1273 : Jvm.Cond.code ({ cls := "CallMeltModel", name := "ends", desc := "(I)V" } : Jvm.MethodName) prog_11_method_32_code (3 : Nat) (Option.none : Option Jvm.ClassFile.FieldType) ∈ lw_tbl := List.mem_of_getElem? (i := 1273) (by decide +kernel)
theorem wg_1273 : Jvm.Cond.code ({ cls := "CallMeltModel", name := "ends", desc := "(I)V" } : Jvm.MethodName) prog_11_method_32_code (3 : Nat) (Option.none : Option Jvm.ClassFile.FieldType) ∈ lw_g := List.mem_filter.mpr ⟨wt_1273, rfl⟩
theorem wd_1273 : Jvm.Cond.code ({ cls := "CallMeltModel", name := "ends", desc := "(I)V" } : Jvm.MethodName) prog_11_method_32_code (3 : Nat) (Option.none : Option Jvm.ClassFile.FieldType) ∈ lw_u := lw_in wt_1273 rfl
theorem wt_1274 : Jvm.Cond.methodLink "CallMeltModel" (201 : Nat) ({ cls := "CallMeltModel", name := "ends2", desc := "(I)V" } : Jvm.MethodName) ∈ lw_tbl := List.mem_of_getElem? (i := 1274) (by decide +kernel)
theorem wd_1274 : Jvm.Cond.methodLink "CallMeltModel" (201 : Nat) ({ cls := "CallMeltModel", name := "ends2", desc := "(I)V" } : Jvm.MethodName) ∈ lw_u := lw_in wt_1274 rfl
theorem wt_1276 : Jvm.Cond.instanceMethod ({ cls := "CallMeltModel", name := "ends2", desc := "(I)V" } : Jvm.MethodName) ∈ lw_tbl := List.mem_of_getElem? (i := 1276) (by decide +kernel)
theorem wd_1276 : Jvm.Cond.instanceMethod ({ cls := "CallMeltModel", name := "ends2", desc := "(I)V" } : Jvm.MethodName) ∈ lw_u := lw_in wt_1276 rfl
theorem wt_1277 : Jvm.Cond.code ({ cls := "CallMeltModel", name := "ends2", desc := "(I)V" } : Jvm.MethodName) prog_11_method_33_code (3 : Nat) (Option.none : Option Jvm.ClassFile.FieldType) ∈ lw_tbl := List.mem_of_getElem? (i := 1277) (by decide +kernel)
theorem wg_1277 : Jvm.Cond.code ({ cls := "CallMeltModel", name := "ends2", desc := "(I)V" } : Jvm.MethodName) prog_11_method_33_code (3 : Nat) (Option.none : Option Jvm.ClassFile.FieldType) ∈ lw_g := List.mem_filter.mpr ⟨wt_1277, rfl⟩
theorem wd_1277 : Jvm.Cond.code ({ cls := "CallMeltModel", name := "ends2", desc := "(I)V" } : Jvm.MethodName) prog_11_method_33_code (3 : Nat) (Option.none : Option Jvm.ClassFile.FieldType) ∈ lw_u := lw_in wt_1277 rfl
theorem wt_1278 : Jvm.Cond.methodLink "CallMeltModel" (214 : Nat) ({ cls := "CallMeltModel", name := "whiles", desc := "(IIII)V" } : Jvm.MethodName) ∈ lw_tbl := List.mem_of_getElem? (i := 1278) (by decide +kernel)
theorem wd_1278 : Jvm.Cond.methodLink "CallMeltModel" (214 : Nat) ({ cls := "CallMeltModel", name := "whiles", desc := "(IIII)V" } : Jvm.MethodName) ∈ lw_u := lw_in wt_1278 rfl
theorem wt_1280 : Jvm.Cond.instanceMethod ({ cls := "CallMeltModel", name := "whiles", desc := "(IIII)V" } : Jvm.MethodName) ∈ lw_tbl := List.mem_of_getElem? (i := 1280) (by decide +kernel)
theorem wd_1280 : Jvm.Cond.instanceMethod ({ cls := "CallMeltModel", name := "whiles", desc := "(IIII)V" } : Jvm.MethodName) ∈ lw_u := lw_in wt_1280 rfl
theorem wt_1281 : Jvm.Cond.code ({ cls := "CallMeltModel", name := "whiles", desc := "(IIII)V" } : Jvm.MethodName) prog_11_method_38_code (5 : Nat) (Option.none : Option Jvm.ClassFile.FieldType) ∈ lw_tbl := List.mem_of_getElem? (i := 1281) (by decide +kernel)
theorem wg_1281 : Jvm.Cond.code ({ cls := "CallMeltModel", name := "whiles", desc := "(IIII)V" } : Jvm.MethodName) prog_11_method_38_code (5 : Nat) (Option.none : Option Jvm.ClassFile.FieldType) ∈ lw_g := List.mem_filter.mpr ⟨wt_1281, rfl⟩
theorem wd_1281 : Jvm.Cond.code ({ cls := "CallMeltModel", name := "whiles", desc := "(IIII)V" } : Jvm.MethodName) prog_11_method_38_code (5 : Nat) (Option.none : Option Jvm.ClassFile.FieldType) ∈ lw_u := lw_in wt_1281 rfl
theorem wt_1282 : Jvm.Cond.methodLink "CallMeltModel" (218 : Nat) ({ cls := "CallMeltModel", name := "enters", desc := "(II)V" } : Jvm.MethodName) ∈ lw_tbl := List.mem_of_getElem? (i := 1282) (by decide +kernel)
theorem wd_1282 : Jvm.Cond.methodLink "CallMeltModel" (218 : Nat) ({ cls := "CallMeltModel", name := "enters", desc := "(II)V" } : Jvm.MethodName) ∈ lw_u := lw_in wt_1282 rfl
theorem wt_1284 : Jvm.Cond.instanceMethod ({ cls := "CallMeltModel", name := "enters", desc := "(II)V" } : Jvm.MethodName) ∈ lw_tbl := List.mem_of_getElem? (i := 1284) (by decide +kernel)
theorem wd_1284 : Jvm.Cond.instanceMethod ({ cls := "CallMeltModel", name := "enters", desc := "(II)V" } : Jvm.MethodName) ∈ lw_u := lw_in wt_1284 rfl
theorem wt_1285 : Jvm.Cond.code ({ cls := "CallMeltModel", name := "enters", desc := "(II)V" } : Jvm.MethodName) prog_11_method_36_code (6 : Nat) (Option.none : Option Jvm.ClassFile.FieldType) ∈ lw_tbl := List.mem_of_getElem? (i := 1285) (by decide +kernel)
theorem wg_1285 : Jvm.Cond.code ({ cls := "CallMeltModel", name := "enters", desc := "(II)V" } : Jvm.MethodName) prog_11_method_36_code (6 : Nat) (Option.none : Option Jvm.ClassFile.FieldType) ∈ lw_g := List.mem_filter.mpr ⟨wt_1285, rfl⟩
theorem wd_1285 : Jvm.Cond.code ({ cls := "CallMeltModel", name := "enters", desc := "(II)V" } : Jvm.MethodName) prog_11_method_36_code (6 : Nat) (Option.none : Option Jvm.ClassFile.FieldType) ∈ lw_u := lw_in wt_1285 rfl
theorem wt_1286 : Jvm.Cond.methodLink "CallMeltModel" (221 : Nat) ({ cls := "CallMeltModel", name := "does", desc := "(III)V" } : Jvm.MethodName) ∈ lw_tbl := List.mem_of_getElem? (i := 1286) (by decide +kernel)
theorem wd_1286 : Jvm.Cond.methodLink "CallMeltModel" (221 : Nat) ({ cls := "CallMeltModel", name := "does", desc := "(III)V" } : Jvm.MethodName) ∈ lw_u := lw_in wt_1286 rfl
theorem wt_1288 : Jvm.Cond.instanceMethod ({ cls := "CallMeltModel", name := "does", desc := "(III)V" } : Jvm.MethodName) ∈ lw_tbl := List.mem_of_getElem? (i := 1288) (by decide +kernel)
theorem wd_1288 : Jvm.Cond.instanceMethod ({ cls := "CallMeltModel", name := "does", desc := "(III)V" } : Jvm.MethodName) ∈ lw_u := lw_in wt_1288 rfl
theorem wt_1289 : Jvm.Cond.code ({ cls := "CallMeltModel", name := "does", desc := "(III)V" } : Jvm.MethodName) prog_11_method_39_code (4 : Nat) (Option.none : Option Jvm.ClassFile.FieldType) ∈ lw_tbl := List.mem_of_getElem? (i := 1289) (by decide +kernel)
theorem wg_1289 : Jvm.Cond.code ({ cls := "CallMeltModel", name := "does", desc := "(III)V" } : Jvm.MethodName) prog_11_method_39_code (4 : Nat) (Option.none : Option Jvm.ClassFile.FieldType) ∈ lw_g := List.mem_filter.mpr ⟨wt_1289, rfl⟩
theorem wd_1289 : Jvm.Cond.code ({ cls := "CallMeltModel", name := "does", desc := "(III)V" } : Jvm.MethodName) prog_11_method_39_code (4 : Nat) (Option.none : Option Jvm.ClassFile.FieldType) ∈ lw_u := lw_in wt_1289 rfl
theorem wt_1290 : Jvm.Cond.methodLink "CallMeltModel" (224 : Nat) ({ cls := "CallMeltModel", name := "worked", desc := "(III)I" } : Jvm.MethodName) ∈ lw_tbl := List.mem_of_getElem? (i := 1290) (by decide +kernel)
theorem wd_1290 : Jvm.Cond.methodLink "CallMeltModel" (224 : Nat) ({ cls := "CallMeltModel", name := "worked", desc := "(III)I" } : Jvm.MethodName) ∈ lw_u := lw_in wt_1290 rfl
theorem wt_1291 : Jvm.Cond.static ({ cls := "CallMeltModel", name := "worked", desc := "(III)I" } : Jvm.MethodName) ∈ lw_tbl := List.mem_of_getElem? (i := 1291) (by decide +kernel)
theorem wd_1291 : Jvm.Cond.static ({ cls := "CallMeltModel", name := "worked", desc := "(III)I" } : Jvm.MethodName) ∈ lw_u := lw_in wt_1291 rfl
theorem wt_1292 : Jvm.Cond.code ({ cls := "CallMeltModel", name := "worked", desc := "(III)I" } : Jvm.MethodName) prog_11_method_35_code (3 : Nat) (Option.some Jvm.ClassFile.FieldType.int) ∈ lw_tbl := List.mem_of_getElem? (i := 1292) (by decide +kernel)
theorem wg_1292 : Jvm.Cond.code ({ cls := "CallMeltModel", name := "worked", desc := "(III)I" } : Jvm.MethodName) prog_11_method_35_code (3 : Nat) (Option.some Jvm.ClassFile.FieldType.int) ∈ lw_g := List.mem_filter.mpr ⟨wt_1292, rfl⟩
theorem wd_1292 : Jvm.Cond.code ({ cls := "CallMeltModel", name := "worked", desc := "(III)I" } : Jvm.MethodName) prog_11_method_35_code (3 : Nat) (Option.some Jvm.ClassFile.FieldType.int) ∈ lw_u := lw_in wt_1292 rfl
theorem wt_1293 : Jvm.Cond.methodLink "CallMeltModel" (227 : Nat) ({ cls := "CallMeltModel", name := "leaves", desc := "(I)V" } : Jvm.MethodName) ∈ lw_tbl := List.mem_of_getElem? (i := 1293) (by decide +kernel)
theorem wd_1293 : Jvm.Cond.methodLink "CallMeltModel" (227 : Nat) ({ cls := "CallMeltModel", name := "leaves", desc := "(I)V" } : Jvm.MethodName) ∈ lw_u := lw_in wt_1293 rfl
theorem wt_1295 : Jvm.Cond.instanceMethod ({ cls := "CallMeltModel", name := "leaves", desc := "(I)V" } : Jvm.MethodName) ∈ lw_tbl := List.mem_of_getElem? (i := 1295) (by decide +kernel)
theorem wd_1295 : Jvm.Cond.instanceMethod ({ cls := "CallMeltModel", name := "leaves", desc := "(I)V" } : Jvm.MethodName) ∈ lw_u := lw_in wt_1295 rfl
theorem wt_1296 : Jvm.Cond.code ({ cls := "CallMeltModel", name := "leaves", desc := "(I)V" } : Jvm.MethodName) prog_11_method_34_code (3 : Nat) (Option.none : Option Jvm.ClassFile.FieldType) ∈ lw_tbl := List.mem_of_getElem? (i := 1296) (by decide +kernel)
theorem wg_1296 : Jvm.Cond.code ({ cls := "CallMeltModel", name := "leaves", desc := "(I)V" } : Jvm.MethodName) prog_11_method_34_code (3 : Nat) (Option.none : Option Jvm.ClassFile.FieldType) ∈ lw_g := List.mem_filter.mpr ⟨wt_1296, rfl⟩
theorem wd_1296 : Jvm.Cond.code ({ cls := "CallMeltModel", name := "leaves", desc := "(I)V" } : Jvm.MethodName) prog_11_method_34_code (3 : Nat) (Option.none : Option Jvm.ClassFile.FieldType) ∈ lw_u := lw_in wt_1296 rfl
theorem wt_1297 : Jvm.Cond.constantLong "CallMeltModel" (230 : Nat) (7 : Int64) ∈ lw_tbl := List.mem_of_getElem? (i := 1297) (by decide +kernel)
theorem wd_1297 : Jvm.Cond.constantLong "CallMeltModel" (230 : Nat) (7 : Int64) ∈ lw_u := lw_in wt_1297 rfl
theorem wt_1301 : Jvm.Cond.code ({ cls := "CallMeltModel", name := "ran", desc := "(I)I" } : Jvm.MethodName) prog_11_method_41_code (2 : Nat) (Option.some Jvm.ClassFile.FieldType.int) ∈ lw_tbl := List.mem_of_getElem? (i := 1301) (by decide +kernel)
theorem wg_1301 : Jvm.Cond.code ({ cls := "CallMeltModel", name := "ran", desc := "(I)I" } : Jvm.MethodName) prog_11_method_41_code (2 : Nat) (Option.some Jvm.ClassFile.FieldType.int) ∈ lw_g := List.mem_filter.mpr ⟨wt_1301, rfl⟩
theorem wd_1301 : Jvm.Cond.code ({ cls := "CallMeltModel", name := "ran", desc := "(I)I" } : Jvm.MethodName) prog_11_method_41_code (2 : Nat) (Option.some Jvm.ClassFile.FieldType.int) ∈ lw_u := lw_in wt_1301 rfl
theorem wt_1305 : Jvm.Cond.code ({ cls := "CallMeltModel", name := "row", desc := "(I)I" } : Jvm.MethodName) prog_11_method_42_code (2 : Nat) (Option.some Jvm.ClassFile.FieldType.int) ∈ lw_tbl := List.mem_of_getElem? (i := 1305) (by decide +kernel)
theorem wg_1305 : Jvm.Cond.code ({ cls := "CallMeltModel", name := "row", desc := "(I)I" } : Jvm.MethodName) prog_11_method_42_code (2 : Nat) (Option.some Jvm.ClassFile.FieldType.int) ∈ lw_g := List.mem_filter.mpr ⟨wt_1305, rfl⟩
theorem wd_1305 : Jvm.Cond.code ({ cls := "CallMeltModel", name := "row", desc := "(I)I" } : Jvm.MethodName) prog_11_method_42_code (2 : Nat) (Option.some Jvm.ClassFile.FieldType.int) ∈ lw_u := lw_in wt_1305 rfl
theorem wt_1309 : Jvm.Cond.code ({ cls := "CallMeltModel", name := "lay", desc := "(II)I" } : Jvm.MethodName) prog_11_method_43_code (3 : Nat) (Option.some Jvm.ClassFile.FieldType.int) ∈ lw_tbl := List.mem_of_getElem? (i := 1309) (by decide +kernel)
theorem wg_1309 : Jvm.Cond.code ({ cls := "CallMeltModel", name := "lay", desc := "(II)I" } : Jvm.MethodName) prog_11_method_43_code (3 : Nat) (Option.some Jvm.ClassFile.FieldType.int) ∈ lw_g := List.mem_filter.mpr ⟨wt_1309, rfl⟩
theorem wd_1309 : Jvm.Cond.code ({ cls := "CallMeltModel", name := "lay", desc := "(II)I" } : Jvm.MethodName) prog_11_method_43_code (3 : Nat) (Option.some Jvm.ClassFile.FieldType.int) ∈ lw_u := lw_in wt_1309 rfl
theorem wt_1313 : Jvm.Cond.code ({ cls := "CallMeltModel", name := "clearCounts", desc := "()I" } : Jvm.MethodName) prog_11_method_44_code (2 : Nat) (Option.some Jvm.ClassFile.FieldType.int) ∈ lw_tbl := List.mem_of_getElem? (i := 1313) (by decide +kernel)
theorem wg_1313 : Jvm.Cond.code ({ cls := "CallMeltModel", name := "clearCounts", desc := "()I" } : Jvm.MethodName) prog_11_method_44_code (2 : Nat) (Option.some Jvm.ClassFile.FieldType.int) ∈ lw_g := List.mem_filter.mpr ⟨wt_1313, rfl⟩
theorem wd_1313 : Jvm.Cond.code ({ cls := "CallMeltModel", name := "clearCounts", desc := "()I" } : Jvm.MethodName) prog_11_method_44_code (2 : Nat) (Option.some Jvm.ClassFile.FieldType.int) ∈ lw_u := lw_in wt_1313 rfl
theorem wt_1317 : Jvm.Cond.code ({ cls := "CallMeltModel", name := "undo", desc := "()I" } : Jvm.MethodName) prog_11_method_50_code (1 : Nat) (Option.some Jvm.ClassFile.FieldType.int) ∈ lw_tbl := List.mem_of_getElem? (i := 1317) (by decide +kernel)
theorem wg_1317 : Jvm.Cond.code ({ cls := "CallMeltModel", name := "undo", desc := "()I" } : Jvm.MethodName) prog_11_method_50_code (1 : Nat) (Option.some Jvm.ClassFile.FieldType.int) ∈ lw_g := List.mem_filter.mpr ⟨wt_1317, rfl⟩
theorem wd_1317 : Jvm.Cond.code ({ cls := "CallMeltModel", name := "undo", desc := "()I" } : Jvm.MethodName) prog_11_method_50_code (1 : Nat) (Option.some Jvm.ClassFile.FieldType.int) ∈ lw_u := lw_in wt_1317 rfl
theorem wt_1318 : Jvm.Cond.methodLink "CallMeltModel" (254 : Nat) ({ cls := "CallMeltModel", name := "back", desc := "(I)V" } : Jvm.MethodName) ∈ lw_tbl := List.mem_of_getElem? (i := 1318) (by decide +kernel)
theorem wd_1318 : Jvm.Cond.methodLink "CallMeltModel" (254 : Nat) ({ cls := "CallMeltModel", name := "back", desc := "(I)V" } : Jvm.MethodName) ∈ lw_u := lw_in wt_1318 rfl
theorem wt_1320 : Jvm.Cond.instanceMethod ({ cls := "CallMeltModel", name := "back", desc := "(I)V" } : Jvm.MethodName) ∈ lw_tbl := List.mem_of_getElem? (i := 1320) (by decide +kernel)
theorem wd_1320 : Jvm.Cond.instanceMethod ({ cls := "CallMeltModel", name := "back", desc := "(I)V" } : Jvm.MethodName) ∈ lw_u := lw_in wt_1320 rfl
theorem wt_1321 : Jvm.Cond.code ({ cls := "CallMeltModel", name := "back", desc := "(I)V" } : Jvm.MethodName) prog_11_method_49_code (6 : Nat) (Option.none : Option Jvm.ClassFile.FieldType) ∈ lw_tbl := List.mem_of_getElem? (i := 1321) (by decide +kernel)
theorem wg_1321 : Jvm.Cond.code ({ cls := "CallMeltModel", name := "back", desc := "(I)V" } : Jvm.MethodName) prog_11_method_49_code (6 : Nat) (Option.none : Option Jvm.ClassFile.FieldType) ∈ lw_g := List.mem_filter.mpr ⟨wt_1321, rfl⟩
theorem wd_1321 : Jvm.Cond.code ({ cls := "CallMeltModel", name := "back", desc := "(I)V" } : Jvm.MethodName) prog_11_method_49_code (6 : Nat) (Option.none : Option Jvm.ClassFile.FieldType) ∈ lw_u := lw_in wt_1321 rfl
theorem wt_1325 : Jvm.Cond.code ({ cls := "CallMeltModel", name := "melt", desc := "(I)I" } : Jvm.MethodName) prog_11_method_57_code (11 : Nat) (Option.some Jvm.ClassFile.FieldType.int) ∈ lw_tbl := List.mem_of_getElem? (i := 1325) (by decide +kernel)
theorem wg_1325 : Jvm.Cond.code ({ cls := "CallMeltModel", name := "melt", desc := "(I)I" } : Jvm.MethodName) prog_11_method_57_code (11 : Nat) (Option.some Jvm.ClassFile.FieldType.int) ∈ lw_g := List.mem_filter.mpr ⟨wt_1325, rfl⟩
theorem wd_1325 : Jvm.Cond.code ({ cls := "CallMeltModel", name := "melt", desc := "(I)I" } : Jvm.MethodName) prog_11_method_57_code (11 : Nat) (Option.some Jvm.ClassFile.FieldType.int) ∈ lw_u := lw_in wt_1325 rfl
theorem wt_1326 : Jvm.Cond.methodLink "CallMeltModel" (257 : Nat) ({ cls := "CallMeltModel", name := "isCall", desc := "(I)Z" } : Jvm.MethodName) ∈ lw_tbl := List.mem_of_getElem? (i := 1326) (by decide +kernel)
theorem wd_1326 : Jvm.Cond.methodLink "CallMeltModel" (257 : Nat) ({ cls := "CallMeltModel", name := "isCall", desc := "(I)Z" } : Jvm.MethodName) ∈ lw_u := lw_in wt_1326 rfl
theorem wt_1328 : Jvm.Cond.instanceMethod ({ cls := "CallMeltModel", name := "isCall", desc := "(I)Z" } : Jvm.MethodName) ∈ lw_tbl := List.mem_of_getElem? (i := 1328) (by decide +kernel)
theorem wd_1328 : Jvm.Cond.instanceMethod ({ cls := "CallMeltModel", name := "isCall", desc := "(I)Z" } : Jvm.MethodName) ∈ lw_u := lw_in wt_1328 rfl
theorem wt_1329 : Jvm.Cond.code ({ cls := "CallMeltModel", name := "isCall", desc := "(I)Z" } : Jvm.MethodName) prog_11_method_51_code (2 : Nat) (Option.some Jvm.ClassFile.FieldType.boolean) ∈ lw_tbl := List.mem_of_getElem? (i := 1329) (by decide +kernel)
theorem wg_1329 : Jvm.Cond.code ({ cls := "CallMeltModel", name := "isCall", desc := "(I)Z" } : Jvm.MethodName) prog_11_method_51_code (2 : Nat) (Option.some Jvm.ClassFile.FieldType.boolean) ∈ lw_g := List.mem_filter.mpr ⟨wt_1329, rfl⟩
theorem wd_1329 : Jvm.Cond.code ({ cls := "CallMeltModel", name := "isCall", desc := "(I)Z" } : Jvm.MethodName) prog_11_method_51_code (2 : Nat) (Option.some Jvm.ClassFile.FieldType.boolean) ∈ lw_u := lw_in wt_1329 rfl
theorem wt_1330 : Jvm.Cond.methodLink "CallMeltModel" (260 : Nat) ({ cls := "CallMeltModel", name := "weightOf", desc := "(I)I" } : Jvm.MethodName) ∈ lw_tbl := List.mem_of_getElem? (i := 1330) (by decide +kernel)
theorem wd_1330 : Jvm.Cond.methodLink "CallMeltModel" (260 : Nat) ({ cls := "CallMeltModel", name := "weightOf", desc := "(I)I" } : Jvm.MethodName) ∈ lw_u := lw_in wt_1330 rfl
theorem wt_1332 : Jvm.Cond.instanceMethod ({ cls := "CallMeltModel", name := "weightOf", desc := "(I)I" } : Jvm.MethodName) ∈ lw_tbl := List.mem_of_getElem? (i := 1332) (by decide +kernel)
theorem wd_1332 : Jvm.Cond.instanceMethod ({ cls := "CallMeltModel", name := "weightOf", desc := "(I)I" } : Jvm.MethodName) ∈ lw_u := lw_in wt_1332 rfl
theorem wt_1333 : Jvm.Cond.code ({ cls := "CallMeltModel", name := "weightOf", desc := "(I)I" } : Jvm.MethodName) prog_11_method_52_code (4 : Nat) (Option.some Jvm.ClassFile.FieldType.int) ∈ lw_tbl := List.mem_of_getElem? (i := 1333) (by decide +kernel)
theorem wg_1333 : Jvm.Cond.code ({ cls := "CallMeltModel", name := "weightOf", desc := "(I)I" } : Jvm.MethodName) prog_11_method_52_code (4 : Nat) (Option.some Jvm.ClassFile.FieldType.int) ∈ lw_g := List.mem_filter.mpr ⟨wt_1333, rfl⟩
theorem wd_1333 : Jvm.Cond.code ({ cls := "CallMeltModel", name := "weightOf", desc := "(I)I" } : Jvm.MethodName) prog_11_method_52_code (4 : Nat) (Option.some Jvm.ClassFile.FieldType.int) ∈ lw_u := lw_in wt_1333 rfl
theorem wt_1334 : Jvm.Cond.methodLink "CallMeltModel" (263 : Nat) ({ cls := "CallMeltModel", name := "highMelted", desc := "(I)I" } : Jvm.MethodName) ∈ lw_tbl := List.mem_of_getElem? (i := 1334) (by decide +kernel)
theorem wd_1334 : Jvm.Cond.methodLink "CallMeltModel" (263 : Nat) ({ cls := "CallMeltModel", name := "highMelted", desc := "(I)I" } : Jvm.MethodName) ∈ lw_u := lw_in wt_1334 rfl
theorem wt_1336 : Jvm.Cond.instanceMethod ({ cls := "CallMeltModel", name := "highMelted", desc := "(I)I" } : Jvm.MethodName) ∈ lw_tbl := List.mem_of_getElem? (i := 1336) (by decide +kernel)
theorem wd_1336 : Jvm.Cond.instanceMethod ({ cls := "CallMeltModel", name := "highMelted", desc := "(I)I" } : Jvm.MethodName) ∈ lw_u := lw_in wt_1336 rfl
theorem wt_1337 : Jvm.Cond.code ({ cls := "CallMeltModel", name := "highMelted", desc := "(I)I" } : Jvm.MethodName) prog_11_method_55_code (8 : Nat) (Option.some Jvm.ClassFile.FieldType.int) ∈ lw_tbl := List.mem_of_getElem? (i := 1337) (by decide +kernel)
theorem wg_1337 : Jvm.Cond.code ({ cls := "CallMeltModel", name := "highMelted", desc := "(I)I" } : Jvm.MethodName) prog_11_method_55_code (8 : Nat) (Option.some Jvm.ClassFile.FieldType.int) ∈ lw_g := List.mem_filter.mpr ⟨wt_1337, rfl⟩
theorem wd_1337 : Jvm.Cond.code ({ cls := "CallMeltModel", name := "highMelted", desc := "(I)I" } : Jvm.MethodName) prog_11_method_55_code (8 : Nat) (Option.some Jvm.ClassFile.FieldType.int) ∈ lw_u := lw_in wt_1337 rfl
theorem wt_1338 : Jvm.Cond.methodLink "CallMeltModel" (266 : Nat) ({ cls := "CallMeltModel", name := "writesOff", desc := "(II)I" } : Jvm.MethodName) ∈ lw_tbl := List.mem_of_getElem? (i := 1338) (by decide +kernel)
theorem wd_1338 : Jvm.Cond.methodLink "CallMeltModel" (266 : Nat) ({ cls := "CallMeltModel", name := "writesOff", desc := "(II)I" } : Jvm.MethodName) ∈ lw_u := lw_in wt_1338 rfl
theorem wt_1340 : Jvm.Cond.instanceMethod ({ cls := "CallMeltModel", name := "writesOff", desc := "(II)I" } : Jvm.MethodName) ∈ lw_tbl := List.mem_of_getElem? (i := 1340) (by decide +kernel)
theorem wd_1340 : Jvm.Cond.instanceMethod ({ cls := "CallMeltModel", name := "writesOff", desc := "(II)I" } : Jvm.MethodName) ∈ lw_u := lw_in wt_1340 rfl
theorem wt_1341 : Jvm.Cond.code ({ cls := "CallMeltModel", name := "writesOff", desc := "(II)I" } : Jvm.MethodName) prog_11_method_56_code (7 : Nat) (Option.some Jvm.ClassFile.FieldType.int) ∈ lw_tbl := List.mem_of_getElem? (i := 1341) (by decide +kernel)
theorem wg_1341 : Jvm.Cond.code ({ cls := "CallMeltModel", name := "writesOff", desc := "(II)I" } : Jvm.MethodName) prog_11_method_56_code (7 : Nat) (Option.some Jvm.ClassFile.FieldType.int) ∈ lw_g := List.mem_filter.mpr ⟨wt_1341, rfl⟩
theorem wd_1341 : Jvm.Cond.code ({ cls := "CallMeltModel", name := "writesOff", desc := "(II)I" } : Jvm.MethodName) prog_11_method_56_code (7 : Nat) (Option.some Jvm.ClassFile.FieldType.int) ∈ lw_u := lw_in wt_1341 rfl
theorem wt_1342 : Jvm.Cond.methodLink "CallMeltModel" (269 : Nat) ({ cls := "CallMeltModel", name := "puts", desc := "(II)V" } : Jvm.MethodName) ∈ lw_tbl := List.mem_of_getElem? (i := 1342) (by decide +kernel)
theorem wd_1342 : Jvm.Cond.methodLink "CallMeltModel" (269 : Nat) ({ cls := "CallMeltModel", name := "puts", desc := "(II)V" } : Jvm.MethodName) ∈ lw_u := lw_in wt_1342 rfl
theorem wt_1344 : Jvm.Cond.instanceMethod ({ cls := "CallMeltModel", name := "puts", desc := "(II)V" } : Jvm.MethodName) ∈ lw_tbl := List.mem_of_getElem? (i := 1344) (by decide +kernel)
theorem wd_1344 : Jvm.Cond.instanceMethod ({ cls := "CallMeltModel", name := "puts", desc := "(II)V" } : Jvm.MethodName) ∈ lw_u := lw_in wt_1344 rfl
theorem wt_1345 : Jvm.Cond.code ({ cls := "CallMeltModel", name := "puts", desc := "(II)V" } : Jvm.MethodName) prog_11_method_53_code (6 : Nat) (Option.none : Option Jvm.ClassFile.FieldType) ∈ lw_tbl := List.mem_of_getElem? (i := 1345) (by decide +kernel)
theorem wg_1345 : Jvm.Cond.code ({ cls := "CallMeltModel", name := "puts", desc := "(II)V" } : Jvm.MethodName) prog_11_method_53_code (6 : Nat) (Option.none : Option Jvm.ClassFile.FieldType) ∈ lw_g := List.mem_filter.mpr ⟨wt_1345, rfl⟩
theorem wd_1345 : Jvm.Cond.code ({ cls := "CallMeltModel", name := "puts", desc := "(II)V" } : Jvm.MethodName) prog_11_method_53_code (6 : Nat) (Option.none : Option Jvm.ClassFile.FieldType) ∈ lw_u := lw_in wt_1345 rfl
theorem wt_1346 : Jvm.Cond.methodLink "CallMeltModel" (272 : Nat) ({ cls := "CallMeltModel", name := "goneAlone", desc := "(I)V" } : Jvm.MethodName) ∈ lw_tbl := List.mem_of_getElem? (i := 1346) (by decide +kernel)
theorem wd_1346 : Jvm.Cond.methodLink "CallMeltModel" (272 : Nat) ({ cls := "CallMeltModel", name := "goneAlone", desc := "(I)V" } : Jvm.MethodName) ∈ lw_u := lw_in wt_1346 rfl
theorem wt_1348 : Jvm.Cond.instanceMethod ({ cls := "CallMeltModel", name := "goneAlone", desc := "(I)V" } : Jvm.MethodName) ∈ lw_tbl := List.mem_of_getElem? (i := 1348) (by decide +kernel)
theorem wd_1348 : Jvm.Cond.instanceMethod ({ cls := "CallMeltModel", name := "goneAlone", desc := "(I)V" } : Jvm.MethodName) ∈ lw_u := lw_in wt_1348 rfl
theorem wt_1349 : Jvm.Cond.code ({ cls := "CallMeltModel", name := "goneAlone", desc := "(I)V" } : Jvm.MethodName) prog_11_method_54_code (3 : Nat) (Option.none : Option Jvm.ClassFile.FieldType) ∈ lw_tbl := List.mem_of_getElem? (i := 1349) (by decide +kernel)
theorem wg_1349 : Jvm.Cond.code ({ cls := "CallMeltModel", name := "goneAlone", desc := "(I)V" } : Jvm.MethodName) prog_11_method_54_code (3 : Nat) (Option.none : Option Jvm.ClassFile.FieldType) ∈ lw_g := List.mem_filter.mpr ⟨wt_1349, rfl⟩
theorem wd_1349 : Jvm.Cond.code ({ cls := "CallMeltModel", name := "goneAlone", desc := "(I)V" } : Jvm.MethodName) prog_11_method_54_code (3 : Nat) (Option.none : Option Jvm.ClassFile.FieldType) ∈ lw_u := lw_in wt_1349 rfl
theorem wt_1353 : Jvm.Cond.code ({ cls := "CallMeltModel", name := "gain", desc := "(I)I" } : Jvm.MethodName) prog_11_method_58_code (2 : Nat) (Option.some Jvm.ClassFile.FieldType.int) ∈ lw_tbl := List.mem_of_getElem? (i := 1353) (by decide +kernel)
theorem wg_1353 : Jvm.Cond.code ({ cls := "CallMeltModel", name := "gain", desc := "(I)I" } : Jvm.MethodName) prog_11_method_58_code (2 : Nat) (Option.some Jvm.ClassFile.FieldType.int) ∈ lw_g := List.mem_filter.mpr ⟨wt_1353, rfl⟩
theorem wd_1353 : Jvm.Cond.code ({ cls := "CallMeltModel", name := "gain", desc := "(I)I" } : Jvm.MethodName) prog_11_method_58_code (2 : Nat) (Option.some Jvm.ClassFile.FieldType.int) ∈ lw_u := lw_in wt_1353 rfl
theorem wt_1357 : Jvm.Cond.code ({ cls := "CallMeltModel", name := "weight", desc := "(I)I" } : Jvm.MethodName) prog_11_method_59_code (2 : Nat) (Option.some Jvm.ClassFile.FieldType.int) ∈ lw_tbl := List.mem_of_getElem? (i := 1357) (by decide +kernel)
theorem wg_1357 : Jvm.Cond.code ({ cls := "CallMeltModel", name := "weight", desc := "(I)I" } : Jvm.MethodName) prog_11_method_59_code (2 : Nat) (Option.some Jvm.ClassFile.FieldType.int) ∈ lw_g := List.mem_filter.mpr ⟨wt_1357, rfl⟩
theorem wd_1357 : Jvm.Cond.code ({ cls := "CallMeltModel", name := "weight", desc := "(I)I" } : Jvm.MethodName) prog_11_method_59_code (2 : Nat) (Option.some Jvm.ClassFile.FieldType.int) ∈ lw_u := lw_in wt_1357 rfl
theorem wt_1361 : Jvm.Cond.code ({ cls := "CallMeltModel", name := "ahead", desc := "(I)I" } : Jvm.MethodName) prog_11_method_70_code (8 : Nat) (Option.some Jvm.ClassFile.FieldType.int) ∈ lw_tbl := List.mem_of_getElem? (i := 1361) (by decide +kernel)
theorem wg_1361 : Jvm.Cond.code ({ cls := "CallMeltModel", name := "ahead", desc := "(I)I" } : Jvm.MethodName) prog_11_method_70_code (8 : Nat) (Option.some Jvm.ClassFile.FieldType.int) ∈ lw_g := List.mem_filter.mpr ⟨wt_1361, rfl⟩
theorem wd_1361 : Jvm.Cond.code ({ cls := "CallMeltModel", name := "ahead", desc := "(I)I" } : Jvm.MethodName) prog_11_method_70_code (8 : Nat) (Option.some Jvm.ClassFile.FieldType.int) ∈ lw_u := lw_in wt_1361 rfl
theorem wt_1362 : Jvm.Cond.methodLink "CallMeltModel" (298 : Nat) ({ cls := "CallMeltModel", name := "holds", desc := "(II)I" } : Jvm.MethodName) ∈ lw_tbl := List.mem_of_getElem? (i := 1362) (by decide +kernel)
theorem wd_1362 : Jvm.Cond.methodLink "CallMeltModel" (298 : Nat) ({ cls := "CallMeltModel", name := "holds", desc := "(II)I" } : Jvm.MethodName) ∈ lw_u := lw_in wt_1362 rfl
theorem wt_1364 : Jvm.Cond.instanceMethod ({ cls := "CallMeltModel", name := "holds", desc := "(II)I" } : Jvm.MethodName) ∈ lw_tbl := List.mem_of_getElem? (i := 1364) (by decide +kernel)
theorem wd_1364 : Jvm.Cond.instanceMethod ({ cls := "CallMeltModel", name := "holds", desc := "(II)I" } : Jvm.MethodName) ∈ lw_u := lw_in wt_1364 rfl
theorem wt_1365 : Jvm.Cond.code ({ cls := "CallMeltModel", name := "holds", desc := "(II)I" } : Jvm.MethodName) prog_11_method_64_code (5 : Nat) (Option.some Jvm.ClassFile.FieldType.int) ∈ lw_tbl := List.mem_of_getElem? (i := 1365) (by decide +kernel)
theorem wg_1365 : Jvm.Cond.code ({ cls := "CallMeltModel", name := "holds", desc := "(II)I" } : Jvm.MethodName) prog_11_method_64_code (5 : Nat) (Option.some Jvm.ClassFile.FieldType.int) ∈ lw_g := List.mem_filter.mpr ⟨wt_1365, rfl⟩
theorem wd_1365 : Jvm.Cond.code ({ cls := "CallMeltModel", name := "holds", desc := "(II)I" } : Jvm.MethodName) prog_11_method_64_code (5 : Nat) (Option.some Jvm.ClassFile.FieldType.int) ∈ lw_u := lw_in wt_1365 rfl
theorem wt_1366 : Jvm.Cond.methodLink "CallMeltModel" (275 : Nat) ({ cls := "CallMeltModel", name := "isNumber", desc := "(I)Z" } : Jvm.MethodName) ∈ lw_tbl := List.mem_of_getElem? (i := 1366) (by decide +kernel)
theorem wd_1366 : Jvm.Cond.methodLink "CallMeltModel" (275 : Nat) ({ cls := "CallMeltModel", name := "isNumber", desc := "(I)Z" } : Jvm.MethodName) ∈ lw_u := lw_in wt_1366 rfl
theorem wt_1368 : Jvm.Cond.instanceMethod ({ cls := "CallMeltModel", name := "isNumber", desc := "(I)Z" } : Jvm.MethodName) ∈ lw_tbl := List.mem_of_getElem? (i := 1368) (by decide +kernel)
theorem wd_1368 : Jvm.Cond.instanceMethod ({ cls := "CallMeltModel", name := "isNumber", desc := "(I)Z" } : Jvm.MethodName) ∈ lw_u := lw_in wt_1368 rfl
theorem wt_1369 : Jvm.Cond.code ({ cls := "CallMeltModel", name := "isNumber", desc := "(I)Z" } : Jvm.MethodName) prog_11_method_60_code (2 : Nat) (Option.some Jvm.ClassFile.FieldType.boolean) ∈ lw_tbl := List.mem_of_getElem? (i := 1369) (by decide +kernel)
theorem wg_1369 : Jvm.Cond.code ({ cls := "CallMeltModel", name := "isNumber", desc := "(I)Z" } : Jvm.MethodName) prog_11_method_60_code (2 : Nat) (Option.some Jvm.ClassFile.FieldType.boolean) ∈ lw_g := List.mem_filter.mpr ⟨wt_1369, rfl⟩
theorem wd_1369 : Jvm.Cond.code ({ cls := "CallMeltModel", name := "isNumber", desc := "(I)Z" } : Jvm.MethodName) prog_11_method_60_code (2 : Nat) (Option.some Jvm.ClassFile.FieldType.boolean) ∈ lw_u := lw_in wt_1369 rfl
theorem wt_1370 : Jvm.Cond.methodLink "CallMeltModel" (281 : Nat) ({ cls := "CallMeltModel", name := "isFast", desc := "(II)Z" } : Jvm.MethodName) ∈ lw_tbl := List.mem_of_getElem? (i := 1370) (by decide +kernel)
theorem wd_1370 : Jvm.Cond.methodLink "CallMeltModel" (281 : Nat) ({ cls := "CallMeltModel", name := "isFast", desc := "(II)Z" } : Jvm.MethodName) ∈ lw_u := lw_in wt_1370 rfl
theorem wt_1372 : Jvm.Cond.instanceMethod ({ cls := "CallMeltModel", name := "isFast", desc := "(II)Z" } : Jvm.MethodName) ∈ lw_tbl := List.mem_of_getElem? (i := 1372) (by decide +kernel)
theorem wd_1372 : Jvm.Cond.instanceMethod ({ cls := "CallMeltModel", name := "isFast", desc := "(II)Z" } : Jvm.MethodName) ∈ lw_u := lw_in wt_1372 rfl
theorem wt_1373 : Jvm.Cond.code ({ cls := "CallMeltModel", name := "isFast", desc := "(II)Z" } : Jvm.MethodName) prog_11_method_63_code (5 : Nat) (Option.some Jvm.ClassFile.FieldType.boolean) ∈ lw_tbl := List.mem_of_getElem? (i := 1373) (by decide +kernel)
theorem wg_1373 : Jvm.Cond.code ({ cls := "CallMeltModel", name := "isFast", desc := "(II)Z" } : Jvm.MethodName) prog_11_method_63_code (5 : Nat) (Option.some Jvm.ClassFile.FieldType.boolean) ∈ lw_g := List.mem_filter.mpr ⟨wt_1373, rfl⟩
theorem wd_1373 : Jvm.Cond.code ({ cls := "CallMeltModel", name := "isFast", desc := "(II)Z" } : Jvm.MethodName) prog_11_method_63_code (5 : Nat) (Option.some Jvm.ClassFile.FieldType.boolean) ∈ lw_u := lw_in wt_1373 rfl
theorem wt_1374 : Jvm.Cond.methodLink "CallMeltModel" (278 : Nat) ({ cls := "CallMeltModel", name := "howMany", desc := "(III)I" } : Jvm.MethodName) ∈ lw_tbl := List.mem_of_getElem? (i := 1374) (by decide +kernel)
theorem wd_1374 : Jvm.Cond.methodLink "CallMeltModel" (278 : Nat) ({ cls := "CallMeltModel", name := "howMany", desc := "(III)I" } : Jvm.MethodName) ∈ lw_u := lw_in wt_1374 rfl
theorem wt_1376 : Jvm.Cond.instanceMethod ({ cls := "CallMeltModel", name := "howMany", desc := "(III)I" } : Jvm.MethodName) ∈ lw_tbl := List.mem_of_getElem? (i := 1376) (by decide +kernel)
theorem wd_1376 : Jvm.Cond.instanceMethod ({ cls := "CallMeltModel", name := "howMany", desc := "(III)I" } : Jvm.MethodName) ∈ lw_u := lw_in wt_1376 rfl
theorem wt_1377 : Jvm.Cond.code ({ cls := "CallMeltModel", name := "howMany", desc := "(III)I" } : Jvm.MethodName) prog_11_method_62_code (7 : Nat) (Option.some Jvm.ClassFile.FieldType.int) ∈ lw_tbl := List.mem_of_getElem? (i := 1377) (by decide +kernel)
theorem wg_1377 : Jvm.Cond.code ({ cls := "CallMeltModel", name := "howMany", desc := "(III)I" } : Jvm.MethodName) prog_11_method_62_code (7 : Nat) (Option.some Jvm.ClassFile.FieldType.int) ∈ lw_g := List.mem_filter.mpr ⟨wt_1377, rfl⟩
theorem wd_1377 : Jvm.Cond.code ({ cls := "CallMeltModel", name := "howMany", desc := "(III)I" } : Jvm.MethodName) prog_11_method_62_code (7 : Nat) (Option.some Jvm.ClassFile.FieldType.int) ∈ lw_u := lw_in wt_1377 rfl
theorem wt_1378 : Jvm.Cond.methodLink "CallMeltModel" (284 : Nat) ({ cls := "CallMeltModel", name := "hasLeave", desc := "(I)Z" } : Jvm.MethodName) ∈ lw_tbl := List.mem_of_getElem? (i := 1378) (by decide +kernel)
theorem wd_1378 : Jvm.Cond.methodLink "CallMeltModel" (284 : Nat) ({ cls := "CallMeltModel", name := "hasLeave", desc := "(I)Z" } : Jvm.MethodName) ∈ lw_u := lw_in wt_1378 rfl
theorem wt_1380 : Jvm.Cond.instanceMethod ({ cls := "CallMeltModel", name := "hasLeave", desc := "(I)Z" } : Jvm.MethodName) ∈ lw_tbl := List.mem_of_getElem? (i := 1380) (by decide +kernel)
theorem wd_1380 : Jvm.Cond.instanceMethod ({ cls := "CallMeltModel", name := "hasLeave", desc := "(I)Z" } : Jvm.MethodName) ∈ lw_u := lw_in wt_1380 rfl
theorem wt_1381 : Jvm.Cond.code ({ cls := "CallMeltModel", name := "hasLeave", desc := "(I)Z" } : Jvm.MethodName) prog_11_method_61_code (6 : Nat) (Option.some Jvm.ClassFile.FieldType.boolean) ∈ lw_tbl := List.mem_of_getElem? (i := 1381) (by decide +kernel)
theorem wg_1381 : Jvm.Cond.code ({ cls := "CallMeltModel", name := "hasLeave", desc := "(I)Z" } : Jvm.MethodName) prog_11_method_61_code (6 : Nat) (Option.some Jvm.ClassFile.FieldType.boolean) ∈ lw_g := List.mem_filter.mpr ⟨wt_1381, rfl⟩
theorem wd_1381 : Jvm.Cond.code ({ cls := "CallMeltModel", name := "hasLeave", desc := "(I)Z" } : Jvm.MethodName) prog_11_method_61_code (6 : Nat) (Option.some Jvm.ClassFile.FieldType.boolean) ∈ lw_u := lw_in wt_1381 rfl
theorem wt_1382 : Jvm.Cond.methodLink "CallMeltModel" (301 : Nat) ({ cls := "CallMeltModel", name := "works", desc := "(II)Z" } : Jvm.MethodName) ∈ lw_tbl := List.mem_of_getElem? (i := 1382) (by decide +kernel)
theorem wd_1382 : Jvm.Cond.methodLink "CallMeltModel" (301 : Nat) ({ cls := "CallMeltModel", name := "works", desc := "(II)Z" } : Jvm.MethodName) ∈ lw_u := lw_in wt_1382 rfl
theorem wt_1384 : Jvm.Cond.instanceMethod ({ cls := "CallMeltModel", name := "works", desc := "(II)Z" } : Jvm.MethodName) ∈ lw_tbl := List.mem_of_getElem? (i := 1384) (by decide +kernel)
theorem wd_1384 : Jvm.Cond.instanceMethod ({ cls := "CallMeltModel", name := "works", desc := "(II)Z" } : Jvm.MethodName) ∈ lw_u := lw_in wt_1384 rfl
theorem wt_1385 : Jvm.Cond.code ({ cls := "CallMeltModel", name := "works", desc := "(II)Z" } : Jvm.MethodName) prog_11_method_68_code (7 : Nat) (Option.some Jvm.ClassFile.FieldType.boolean) ∈ lw_tbl := List.mem_of_getElem? (i := 1385) (by decide +kernel)
theorem wg_1385 : Jvm.Cond.code ({ cls := "CallMeltModel", name := "works", desc := "(II)Z" } : Jvm.MethodName) prog_11_method_68_code (7 : Nat) (Option.some Jvm.ClassFile.FieldType.boolean) ∈ lw_g := List.mem_filter.mpr ⟨wt_1385, rfl⟩
theorem wd_1385 : Jvm.Cond.code ({ cls := "CallMeltModel", name := "works", desc := "(II)Z" } : Jvm.MethodName) prog_11_method_68_code (7 : Nat) (Option.some Jvm.ClassFile.FieldType.boolean) ∈ lw_u := lw_in wt_1385 rfl
theorem wt_1386 : Jvm.Cond.methodLink "CallMeltModel" (290 : Nat) ({ cls := "CallMeltModel", name := "isRoomFor", desc := "(I)Z" } : Jvm.MethodName) ∈ lw_tbl := List.mem_of_getElem? (i := 1386) (by decide +kernel)
theorem wd_1386 : Jvm.Cond.methodLink "CallMeltModel" (290 : Nat) ({ cls := "CallMeltModel", name := "isRoomFor", desc := "(I)Z" } : Jvm.MethodName) ∈ lw_u := lw_in wt_1386 rfl
theorem wt_1388 : Jvm.Cond.instanceMethod ({ cls := "CallMeltModel", name := "isRoomFor", desc := "(I)Z" } : Jvm.MethodName) ∈ lw_tbl := List.mem_of_getElem? (i := 1388) (by decide +kernel)
theorem wd_1388 : Jvm.Cond.instanceMethod ({ cls := "CallMeltModel", name := "isRoomFor", desc := "(I)Z" } : Jvm.MethodName) ∈ lw_u := lw_in wt_1388 rfl
theorem wt_1389 : Jvm.Cond.code ({ cls := "CallMeltModel", name := "isRoomFor", desc := "(I)Z" } : Jvm.MethodName) prog_11_method_67_code (2 : Nat) (Option.some Jvm.ClassFile.FieldType.boolean) ∈ lw_tbl := List.mem_of_getElem? (i := 1389) (by decide +kernel)
theorem wg_1389 : Jvm.Cond.code ({ cls := "CallMeltModel", name := "isRoomFor", desc := "(I)Z" } : Jvm.MethodName) prog_11_method_67_code (2 : Nat) (Option.some Jvm.ClassFile.FieldType.boolean) ∈ lw_g := List.mem_filter.mpr ⟨wt_1389, rfl⟩
theorem wd_1389 : Jvm.Cond.code ({ cls := "CallMeltModel", name := "isRoomFor", desc := "(I)Z" } : Jvm.MethodName) prog_11_method_67_code (2 : Nat) (Option.some Jvm.ClassFile.FieldType.boolean) ∈ lw_u := lw_in wt_1389 rfl
theorem wt_1390 : Jvm.Cond.methodLink "CallMeltModel" (287 : Nat) ({ cls := "CallMeltModel", name := "goesRest", desc := "(I)V" } : Jvm.MethodName) ∈ lw_tbl := List.mem_of_getElem? (i := 1390) (by decide +kernel)
theorem wd_1390 : Jvm.Cond.methodLink "CallMeltModel" (287 : Nat) ({ cls := "CallMeltModel", name := "goesRest", desc := "(I)V" } : Jvm.MethodName) ∈ lw_u := lw_in wt_1390 rfl
theorem wt_1392 : Jvm.Cond.instanceMethod ({ cls := "CallMeltModel", name := "goesRest", desc := "(I)V" } : Jvm.MethodName) ∈ lw_tbl := List.mem_of_getElem? (i := 1392) (by decide +kernel)
theorem wd_1392 : Jvm.Cond.instanceMethod ({ cls := "CallMeltModel", name := "goesRest", desc := "(I)V" } : Jvm.MethodName) ∈ lw_u := lw_in wt_1392 rfl
theorem wt_1393 : Jvm.Cond.code ({ cls := "CallMeltModel", name := "goesRest", desc := "(I)V" } : Jvm.MethodName) prog_11_method_66_code (6 : Nat) (Option.none : Option Jvm.ClassFile.FieldType) ∈ lw_tbl := List.mem_of_getElem? (i := 1393) (by decide +kernel)
theorem wg_1393 : Jvm.Cond.code ({ cls := "CallMeltModel", name := "goesRest", desc := "(I)V" } : Jvm.MethodName) prog_11_method_66_code (6 : Nat) (Option.none : Option Jvm.ClassFile.FieldType) ∈ lw_g := List.mem_filter.mpr ⟨wt_1393, rfl⟩
theorem wd_1393 : Jvm.Cond.code ({ cls := "CallMeltModel", name := "goesRest", desc := "(I)V" } : Jvm.MethodName) prog_11_method_66_code (6 : Nat) (Option.none : Option Jvm.ClassFile.FieldType) ∈ lw_u := lw_in wt_1393 rfl
theorem wt_1394 : Jvm.Cond.methodLink "CallMeltModel" (293 : Nat) ({ cls := "CallMeltModel", name := "becomes", desc := "(II)V" } : Jvm.MethodName) ∈ lw_tbl := List.mem_of_getElem? (i := 1394) (by decide +kernel)
theorem wd_1394 : Jvm.Cond.methodLink "CallMeltModel" (293 : Nat) ({ cls := "CallMeltModel", name := "becomes", desc := "(II)V" } : Jvm.MethodName) ∈ lw_u := lw_in wt_1394 rfl
theorem wt_1396 : Jvm.Cond.instanceMethod ({ cls := "CallMeltModel", name := "becomes", desc := "(II)V" } : Jvm.MethodName) ∈ lw_tbl := List.mem_of_getElem? (i := 1396) (by decide +kernel)
theorem wd_1396 : Jvm.Cond.instanceMethod ({ cls := "CallMeltModel", name := "becomes", desc := "(II)V" } : Jvm.MethodName) ∈ lw_u := lw_in wt_1396 rfl
theorem wt_1397 : Jvm.Cond.code ({ cls := "CallMeltModel", name := "becomes", desc := "(II)V" } : Jvm.MethodName) prog_11_method_65_code (5 : Nat) (Option.none : Option Jvm.ClassFile.FieldType) ∈ lw_tbl := List.mem_of_getElem? (i := 1397) (by decide +kernel)
theorem wg_1397 : Jvm.Cond.code ({ cls := "CallMeltModel", name := "becomes", desc := "(II)V" } : Jvm.MethodName) prog_11_method_65_code (5 : Nat) (Option.none : Option Jvm.ClassFile.FieldType) ∈ lw_g := List.mem_filter.mpr ⟨wt_1397, rfl⟩
theorem wd_1397 : Jvm.Cond.code ({ cls := "CallMeltModel", name := "becomes", desc := "(II)V" } : Jvm.MethodName) prog_11_method_65_code (5 : Nat) (Option.none : Option Jvm.ClassFile.FieldType) ∈ lw_u := lw_in wt_1397 rfl
theorem wt_1398 : Jvm.Cond.methodLink "CallMeltModel" (296 : Nat) ({ cls := "CallMeltModel", name := "names", desc := "(III)V" } : Jvm.MethodName) ∈ lw_tbl := List.mem_of_getElem? (i := 1398) (by decide +kernel)
theorem wd_1398 : Jvm.Cond.methodLink "CallMeltModel" (296 : Nat) ({ cls := "CallMeltModel", name := "names", desc := "(III)V" } : Jvm.MethodName) ∈ lw_u := lw_in wt_1398 rfl
theorem wt_1400 : Jvm.Cond.instanceMethod ({ cls := "CallMeltModel", name := "names", desc := "(III)V" } : Jvm.MethodName) ∈ lw_tbl := List.mem_of_getElem? (i := 1400) (by decide +kernel)
theorem wd_1400 : Jvm.Cond.instanceMethod ({ cls := "CallMeltModel", name := "names", desc := "(III)V" } : Jvm.MethodName) ∈ lw_u := lw_in wt_1400 rfl
theorem wt_1401 : Jvm.Cond.code ({ cls := "CallMeltModel", name := "names", desc := "(III)V" } : Jvm.MethodName) prog_11_method_69_code (8 : Nat) (Option.none : Option Jvm.ClassFile.FieldType) ∈ lw_tbl := List.mem_of_getElem? (i := 1401) (by decide +kernel)
theorem wg_1401 : Jvm.Cond.code ({ cls := "CallMeltModel", name := "names", desc := "(III)V" } : Jvm.MethodName) prog_11_method_69_code (8 : Nat) (Option.none : Option Jvm.ClassFile.FieldType) ∈ lw_g := List.mem_filter.mpr ⟨wt_1401, rfl⟩
theorem wd_1401 : Jvm.Cond.code ({ cls := "CallMeltModel", name := "names", desc := "(III)V" } : Jvm.MethodName) prog_11_method_69_code (8 : Nat) (Option.none : Option Jvm.ClassFile.FieldType) ∈ lw_u := lw_in wt_1401 rfl
theorem wt_1405 : Jvm.Cond.code ({ cls := "CallMeltModel", name := "drop", desc := "()I" } : Jvm.MethodName) prog_11_method_71_code (6 : Nat) (Option.some Jvm.ClassFile.FieldType.int) ∈ lw_tbl := List.mem_of_getElem? (i := 1405) (by decide +kernel)
theorem wg_1405 : Jvm.Cond.code ({ cls := "CallMeltModel", name := "drop", desc := "()I" } : Jvm.MethodName) prog_11_method_71_code (6 : Nat) (Option.some Jvm.ClassFile.FieldType.int) ∈ lw_g := List.mem_filter.mpr ⟨wt_1405, rfl⟩
theorem wd_1405 : Jvm.Cond.code ({ cls := "CallMeltModel", name := "drop", desc := "()I" } : Jvm.MethodName) prog_11_method_71_code (6 : Nat) (Option.some Jvm.ClassFile.FieldType.int) ∈ lw_u := lw_in wt_1405 rfl
theorem wt_1409 : Jvm.Cond.code ({ cls := "CallMeltModel", name := "layout", desc := "(II)I" } : Jvm.MethodName) prog_11_method_74_code (10 : Nat) (Option.some Jvm.ClassFile.FieldType.int) ∈ lw_tbl := List.mem_of_getElem? (i := 1409) (by decide +kernel)
theorem wg_1409 : Jvm.Cond.code ({ cls := "CallMeltModel", name := "layout", desc := "(II)I" } : Jvm.MethodName) prog_11_method_74_code (10 : Nat) (Option.some Jvm.ClassFile.FieldType.int) ∈ lw_g := List.mem_filter.mpr ⟨wt_1409, rfl⟩
theorem wd_1409 : Jvm.Cond.code ({ cls := "CallMeltModel", name := "layout", desc := "(II)I" } : Jvm.MethodName) prog_11_method_74_code (10 : Nat) (Option.some Jvm.ClassFile.FieldType.int) ∈ lw_u := lw_in wt_1409 rfl
theorem wt_1410 : Jvm.Cond.constantLong "CallMeltModel" (307 : Nat) (1000 : Int64) ∈ lw_tbl := List.mem_of_getElem? (i := 1410) (by decide +kernel)
theorem wd_1410 : Jvm.Cond.constantLong "CallMeltModel" (307 : Nat) (1000 : Int64) ∈ lw_u := lw_in wt_1410 rfl
theorem wt_1411 : Jvm.Cond.methodLink "CallMeltModel" (309 : Nat) ({ cls := "CallMeltModel", name := "looks", desc := "(I)V" } : Jvm.MethodName) ∈ lw_tbl := List.mem_of_getElem? (i := 1411) (by decide +kernel)
theorem wd_1411 : Jvm.Cond.methodLink "CallMeltModel" (309 : Nat) ({ cls := "CallMeltModel", name := "looks", desc := "(I)V" } : Jvm.MethodName) ∈ lw_u := lw_in wt_1411 rfl
theorem wt_1413 : Jvm.Cond.instanceMethod ({ cls := "CallMeltModel", name := "looks", desc := "(I)V" } : Jvm.MethodName) ∈ lw_tbl := List.mem_of_getElem? (i := 1413) (by decide +kernel)
theorem wd_1413 : Jvm.Cond.instanceMethod ({ cls := "CallMeltModel", name := "looks", desc := "(I)V" } : Jvm.MethodName) ∈ lw_u := lw_in wt_1413 rfl
theorem wt_1414 : Jvm.Cond.code ({ cls := "CallMeltModel", name := "looks", desc := "(I)V" } : Jvm.MethodName) prog_11_method_72_code (3 : Nat) (Option.none : Option Jvm.ClassFile.FieldType) ∈ lw_tbl := List.mem_of_getElem? (i := 1414) (by decide +kernel)
theorem wg_1414 : Jvm.Cond.code ({ cls := "CallMeltModel", name := "looks", desc := "(I)V" } : Jvm.MethodName) prog_11_method_72_code (3 : Nat) (Option.none : Option Jvm.ClassFile.FieldType) ∈ lw_g := List.mem_filter.mpr ⟨wt_1414, rfl⟩
theorem wd_1414 : Jvm.Cond.code ({ cls := "CallMeltModel", name := "looks", desc := "(I)V" } : Jvm.MethodName) prog_11_method_72_code (3 : Nat) (Option.none : Option Jvm.ClassFile.FieldType) ∈ lw_u := lw_in wt_1414 rfl
theorem wt_1415 : Jvm.Cond.methodLink "CallMeltModel" (312 : Nat) ({ cls := "CallMeltModel", name := "isAhead", desc := "(II)Z" } : Jvm.MethodName) ∈ lw_tbl := List.mem_of_getElem? (i := 1415) (by decide +kernel)
theorem wd_1415 : Jvm.Cond.methodLink "CallMeltModel" (312 : Nat) ({ cls := "CallMeltModel", name := "isAhead", desc := "(II)Z" } : Jvm.MethodName) ∈ lw_u := lw_in wt_1415 rfl
theorem wt_1416 : Jvm.Cond.static ({ cls := "CallMeltModel", name := "isAhead", desc := "(II)Z" } : Jvm.MethodName) ∈ lw_tbl := List.mem_of_getElem? (i := 1416) (by decide +kernel)
theorem wd_1416 : Jvm.Cond.static ({ cls := "CallMeltModel", name := "isAhead", desc := "(II)Z" } : Jvm.MethodName) ∈ lw_u := lw_in wt_1416 rfl
theorem wt_1417 : Jvm.Cond.code ({ cls := "CallMeltModel", name := "isAhead", desc := "(II)Z" } : Jvm.MethodName) prog_11_method_73_code (4 : Nat) (Option.some Jvm.ClassFile.FieldType.boolean) ∈ lw_tbl := List.mem_of_getElem? (i := 1417) (by decide +kernel)
theorem wg_1417 : Jvm.Cond.code ({ cls := "CallMeltModel", name := "isAhead", desc := "(II)Z" } : Jvm.MethodName) prog_11_method_73_code (4 : Nat) (Option.some Jvm.ClassFile.FieldType.boolean) ∈ lw_g := List.mem_filter.mpr ⟨wt_1417, rfl⟩
theorem wd_1417 : Jvm.Cond.code ({ cls := "CallMeltModel", name := "isAhead", desc := "(II)Z" } : Jvm.MethodName) prog_11_method_73_code (4 : Nat) (Option.some Jvm.ClassFile.FieldType.boolean) ∈ lw_u := lw_in wt_1417 rfl
theorem wt_1421 : Jvm.Cond.code ({ cls := "CallMeltModel", name := "laid", desc := "(I)I" } : Jvm.MethodName) prog_11_method_75_code (2 : Nat) (Option.some Jvm.ClassFile.FieldType.int) ∈ lw_tbl := List.mem_of_getElem? (i := 1421) (by decide +kernel)
theorem wg_1421 : Jvm.Cond.code ({ cls := "CallMeltModel", name := "laid", desc := "(I)I" } : Jvm.MethodName) prog_11_method_75_code (2 : Nat) (Option.some Jvm.ClassFile.FieldType.int) ∈ lw_g := List.mem_filter.mpr ⟨wt_1421, rfl⟩
theorem wd_1421 : Jvm.Cond.code ({ cls := "CallMeltModel", name := "laid", desc := "(I)I" } : Jvm.MethodName) prog_11_method_75_code (2 : Nat) (Option.some Jvm.ClassFile.FieldType.int) ∈ lw_u := lw_in wt_1421 rfl
theorem wt_1425 : Jvm.Cond.code ({ cls := "CallMeltModel", name := "next", desc := "(II)I" } : Jvm.MethodName) prog_11_method_76_code (5 : Nat) (Option.some Jvm.ClassFile.FieldType.int) ∈ lw_tbl := List.mem_of_getElem? (i := 1425) (by decide +kernel)
theorem wg_1425 : Jvm.Cond.code ({ cls := "CallMeltModel", name := "next", desc := "(II)I" } : Jvm.MethodName) prog_11_method_76_code (5 : Nat) (Option.some Jvm.ClassFile.FieldType.int) ∈ lw_g := List.mem_filter.mpr ⟨wt_1425, rfl⟩
theorem wd_1425 : Jvm.Cond.code ({ cls := "CallMeltModel", name := "next", desc := "(II)I" } : Jvm.MethodName) prog_11_method_76_code (5 : Nat) (Option.some Jvm.ClassFile.FieldType.int) ∈ lw_u := lw_in wt_1425 rfl
theorem wt_1429 : Jvm.Cond.code ({ cls := "CallMeltModel", name := "count", desc := "(I)I" } : Jvm.MethodName) prog_11_method_77_code (6 : Nat) (Option.some Jvm.ClassFile.FieldType.int) ∈ lw_tbl := List.mem_of_getElem? (i := 1429) (by decide +kernel)
theorem wg_1429 : Jvm.Cond.code ({ cls := "CallMeltModel", name := "count", desc := "(I)I" } : Jvm.MethodName) prog_11_method_77_code (6 : Nat) (Option.some Jvm.ClassFile.FieldType.int) ∈ lw_g := List.mem_filter.mpr ⟨wt_1429, rfl⟩
theorem wd_1429 : Jvm.Cond.code ({ cls := "CallMeltModel", name := "count", desc := "(I)I" } : Jvm.MethodName) prog_11_method_77_code (6 : Nat) (Option.some Jvm.ClassFile.FieldType.int) ∈ lw_u := lw_in wt_1429 rfl
theorem wt_355 : Jvm.Cond.laysFinal "CallMelt$Choice" "CallMelt$Choice" "code" "LCallMelt$Code;" ∈ lw_tbl := List.mem_of_getElem? (i := 355) (by decide +kernel)
theorem wd_355 : Jvm.Cond.laysFinal "CallMelt$Choice" "CallMelt$Choice" "code" "LCallMelt$Code;" ∈ lw_u := lw_in wt_355 rfl
theorem wt_357 : Jvm.Cond.laysFinal "CallMelt$Choice" "CallMelt$Choice" "melter" "LCallMelt$Melter;" ∈ lw_tbl := List.mem_of_getElem? (i := 357) (by decide +kernel)
theorem wd_357 : Jvm.Cond.laysFinal "CallMelt$Choice" "CallMelt$Choice" "melter" "LCallMelt$Melter;" ∈ lw_u := lw_in wt_357 rfl
theorem wt_359 : Jvm.Cond.laysFinal "CallMelt$Choice" "CallMelt$Choice" "machine" "LCallMelt$Machine;" ∈ lw_tbl := List.mem_of_getElem? (i := 359) (by decide +kernel)
theorem wd_359 : Jvm.Cond.laysFinal "CallMelt$Choice" "CallMelt$Choice" "machine" "LCallMelt$Machine;" ∈ lw_u := lw_in wt_359 rfl
theorem wt_361 : Jvm.Cond.laysFinal "CallMelt$Choice" "CallMelt$Choice" "calls" "[I" ∈ lw_tbl := List.mem_of_getElem? (i := 361) (by decide +kernel)
theorem wd_361 : Jvm.Cond.laysFinal "CallMelt$Choice" "CallMelt$Choice" "calls" "[I" ∈ lw_u := lw_in wt_361 rfl
theorem wt_363 : Jvm.Cond.laysFinal "CallMelt$Choice" "CallMelt$Choice" "gains" "[I" ∈ lw_tbl := List.mem_of_getElem? (i := 363) (by decide +kernel)
theorem wd_363 : Jvm.Cond.laysFinal "CallMelt$Choice" "CallMelt$Choice" "gains" "[I" ∈ lw_u := lw_in wt_363 rfl
theorem wt_365 : Jvm.Cond.laysFinal "CallMelt$Choice" "CallMelt$Choice" "weights" "[I" ∈ lw_tbl := List.mem_of_getElem? (i := 365) (by decide +kernel)
theorem wd_365 : Jvm.Cond.laysFinal "CallMelt$Choice" "CallMelt$Choice" "weights" "[I" ∈ lw_u := lw_in wt_365 rfl
theorem wt_367 : Jvm.Cond.laysFinal "CallMelt$Choice" "CallMelt$Choice" "laidCalls" "[I" ∈ lw_tbl := List.mem_of_getElem? (i := 367) (by decide +kernel)
theorem wd_367 : Jvm.Cond.laysFinal "CallMelt$Choice" "CallMelt$Choice" "laidCalls" "[I" ∈ lw_u := lw_in wt_367 rfl
theorem wt_369 : Jvm.Cond.laysFinal "CallMelt$Choice" "CallMelt$Choice" "picked" "[I" ∈ lw_tbl := List.mem_of_getElem? (i := 369) (by decide +kernel)
theorem wd_369 : Jvm.Cond.laysFinal "CallMelt$Choice" "CallMelt$Choice" "picked" "[I" ∈ lw_u := lw_in wt_369 rfl
theorem wt_371 : Jvm.Cond.lays "CallMelt$Choice" "CallMelt$Choice" "looked" "I" ∈ lw_tbl := List.mem_of_getElem? (i := 371) (by decide +kernel)
theorem wd_371 : Jvm.Cond.lays "CallMelt$Choice" "CallMelt$Choice" "looked" "I" ∈ lw_u := lw_in wt_371 rfl
theorem wt_373 : Jvm.Cond.lays "CallMelt$Choice" "CallMelt$Choice" "pickedSize" "I" ∈ lw_tbl := List.mem_of_getElem? (i := 373) (by decide +kernel)
theorem wd_373 : Jvm.Cond.lays "CallMelt$Choice" "CallMelt$Choice" "pickedSize" "I" ∈ lw_u := lw_in wt_373 rfl
theorem wt_375 : Jvm.Cond.lays "CallMelt$Choice" "CallMelt$Choice" "laidGain" "I" ∈ lw_tbl := List.mem_of_getElem? (i := 375) (by decide +kernel)
theorem wd_375 : Jvm.Cond.lays "CallMelt$Choice" "CallMelt$Choice" "laidGain" "I" ∈ lw_u := lw_in wt_375 rfl
theorem wt_377 : Jvm.Cond.lays "CallMelt$Choice" "CallMelt$Choice" "laidWeight" "I" ∈ lw_tbl := List.mem_of_getElem? (i := 377) (by decide +kernel)
theorem wd_377 : Jvm.Cond.lays "CallMelt$Choice" "CallMelt$Choice" "laidWeight" "I" ∈ lw_u := lw_in wt_377 rfl
theorem wt_379 : Jvm.Cond.lays "CallMelt$Choice" "CallMelt$Choice" "laidSize" "I" ∈ lw_tbl := List.mem_of_getElem? (i := 379) (by decide +kernel)
theorem wd_379 : Jvm.Cond.lays "CallMelt$Choice" "CallMelt$Choice" "laidSize" "I" ∈ lw_u := lw_in wt_379 rfl
theorem inX0 : ∀ w ∈ u_ws RX0 TX0 13, w ∈ lw_u := by
  intro w hw
  have h : u_ws RX0 TX0 13 = [u_lay RX0 TX0 0, u_lay RX0 TX0 1, u_lay RX0 TX0 2, u_lay RX0 TX0 3, u_lay RX0 TX0 4, u_lay RX0 TX0 5, u_lay RX0 TX0 6, u_lay RX0 TX0 7, u_lay RX0 TX0 8, u_lay RX0 TX0 9, u_lay RX0 TX0 10, u_lay RX0 TX0 11, u_lay RX0 TX0 12] := rfl
  rw [h] at hw
  simp only [List.mem_cons, List.not_mem_nil, or_false] at hw
  rcases hw with rfl | rfl | rfl | rfl | rfl | rfl | rfl | rfl | rfl | rfl | rfl | rfl | rfl
  · exact wd_355
  · exact wd_357
  · exact wd_359
  · exact wd_361
  · exact wd_363
  · exact wd_365
  · exact wd_367
  · exact wd_369
  · exact wd_371
  · exact wd_373
  · exact wd_375
  · exact wd_377
  · exact wd_379
theorem wt_197 : Jvm.Cond.laysFinal "CallMelt$Code" "CallMelt$Code" "rows" "LCallMelt$Rows;" ∈ lw_tbl := List.mem_of_getElem? (i := 197) (by decide +kernel)
theorem wd_197 : Jvm.Cond.laysFinal "CallMelt$Code" "CallMelt$Code" "rows" "LCallMelt$Rows;" ∈ lw_u := lw_in wt_197 rfl
theorem wt_199 : Jvm.Cond.laysFinal "CallMelt$Code" "CallMelt$Code" "walk" "LCallMelt$Walk;" ∈ lw_tbl := List.mem_of_getElem? (i := 199) (by decide +kernel)
theorem wd_199 : Jvm.Cond.laysFinal "CallMelt$Code" "CallMelt$Code" "walk" "LCallMelt$Walk;" ∈ lw_u := lw_in wt_199 rfl
theorem wt_201 : Jvm.Cond.laysFinal "CallMelt$Code" "CallMelt$Code" "held" "LCallMelt$Walk;" ∈ lw_tbl := List.mem_of_getElem? (i := 201) (by decide +kernel)
theorem wd_201 : Jvm.Cond.laysFinal "CallMelt$Code" "CallMelt$Code" "held" "LCallMelt$Walk;" ∈ lw_u := lw_in wt_201 rfl
theorem inX1 : ∀ w ∈ u_ws RX1 TX1 3, w ∈ lw_u := by
  intro w hw
  have h : u_ws RX1 TX1 3 = [u_lay RX1 TX1 0, u_lay RX1 TX1 1, u_lay RX1 TX1 2] := rfl
  rw [h] at hw
  simp only [List.mem_cons, List.not_mem_nil, or_false] at hw
  rcases hw with rfl | rfl | rfl
  · exact wd_197
  · exact wd_199
  · exact wd_201
theorem wt_228 : Jvm.Cond.laysFinal "CallMelt$Machine" "CallMelt$Machine" "code" "LCallMelt$Code;" ∈ lw_tbl := List.mem_of_getElem? (i := 228) (by decide +kernel)
theorem wd_228 : Jvm.Cond.laysFinal "CallMelt$Machine" "CallMelt$Machine" "code" "LCallMelt$Code;" ∈ lw_u := lw_in wt_228 rfl
theorem wt_230 : Jvm.Cond.laysFinal "CallMelt$Machine" "CallMelt$Machine" "counts" "[I" ∈ lw_tbl := List.mem_of_getElem? (i := 230) (by decide +kernel)
theorem wd_230 : Jvm.Cond.laysFinal "CallMelt$Machine" "CallMelt$Machine" "counts" "[I" ∈ lw_u := lw_in wt_230 rfl
theorem wt_232 : Jvm.Cond.laysFinal "CallMelt$Machine" "CallMelt$Machine" "row" "[I" ∈ lw_tbl := List.mem_of_getElem? (i := 232) (by decide +kernel)
theorem wd_232 : Jvm.Cond.laysFinal "CallMelt$Machine" "CallMelt$Machine" "row" "[I" ∈ lw_u := lw_in wt_232 rfl
theorem wt_234 : Jvm.Cond.laysFinal "CallMelt$Machine" "CallMelt$Machine" "uses" "[I" ∈ lw_tbl := List.mem_of_getElem? (i := 234) (by decide +kernel)
theorem wd_234 : Jvm.Cond.laysFinal "CallMelt$Machine" "CallMelt$Machine" "uses" "[I" ∈ lw_u := lw_in wt_234 rfl
theorem wt_236 : Jvm.Cond.laysFinal "CallMelt$Machine" "CallMelt$Machine" "names" "[I" ∈ lw_tbl := List.mem_of_getElem? (i := 236) (by decide +kernel)
theorem wd_236 : Jvm.Cond.laysFinal "CallMelt$Machine" "CallMelt$Machine" "names" "[I" ∈ lw_u := lw_in wt_236 rfl
theorem wt_238 : Jvm.Cond.laysFinal "CallMelt$Machine" "CallMelt$Machine" "openedBy" "[I" ∈ lw_tbl := List.mem_of_getElem? (i := 238) (by decide +kernel)
theorem wd_238 : Jvm.Cond.laysFinal "CallMelt$Machine" "CallMelt$Machine" "openedBy" "[I" ∈ lw_u := lw_in wt_238 rfl
theorem wt_240 : Jvm.Cond.laysFinal "CallMelt$Machine" "CallMelt$Machine" "steps" "[I" ∈ lw_tbl := List.mem_of_getElem? (i := 240) (by decide +kernel)
theorem wd_240 : Jvm.Cond.laysFinal "CallMelt$Machine" "CallMelt$Machine" "steps" "[I" ∈ lw_u := lw_in wt_240 rfl
theorem wt_242 : Jvm.Cond.laysFinal "CallMelt$Machine" "CallMelt$Machine" "came" "[I" ∈ lw_tbl := List.mem_of_getElem? (i := 242) (by decide +kernel)
theorem wd_242 : Jvm.Cond.laysFinal "CallMelt$Machine" "CallMelt$Machine" "came" "[I" ∈ lw_u := lw_in wt_242 rfl
theorem wt_244 : Jvm.Cond.laysFinal "CallMelt$Machine" "CallMelt$Machine" "kept" "[I" ∈ lw_tbl := List.mem_of_getElem? (i := 244) (by decide +kernel)
theorem wd_244 : Jvm.Cond.laysFinal "CallMelt$Machine" "CallMelt$Machine" "kept" "[I" ∈ lw_u := lw_in wt_244 rfl
theorem wt_246 : Jvm.Cond.lays "CallMelt$Machine" "CallMelt$Machine" "top" "I" ∈ lw_tbl := List.mem_of_getElem? (i := 246) (by decide +kernel)
theorem wd_246 : Jvm.Cond.lays "CallMelt$Machine" "CallMelt$Machine" "top" "I" ∈ lw_u := lw_in wt_246 rfl
theorem wt_248 : Jvm.Cond.lays "CallMelt$Machine" "CallMelt$Machine" "open" "I" ∈ lw_tbl := List.mem_of_getElem? (i := 248) (by decide +kernel)
theorem wd_248 : Jvm.Cond.lays "CallMelt$Machine" "CallMelt$Machine" "open" "I" ∈ lw_u := lw_in wt_248 rfl
theorem wt_250 : Jvm.Cond.lays "CallMelt$Machine" "CallMelt$Machine" "left" "I" ∈ lw_tbl := List.mem_of_getElem? (i := 250) (by decide +kernel)
theorem wd_250 : Jvm.Cond.lays "CallMelt$Machine" "CallMelt$Machine" "left" "I" ∈ lw_u := lw_in wt_250 rfl
theorem wt_252 : Jvm.Cond.lays "CallMelt$Machine" "CallMelt$Machine" "tookEver" "I" ∈ lw_tbl := List.mem_of_getElem? (i := 252) (by decide +kernel)
theorem wd_252 : Jvm.Cond.lays "CallMelt$Machine" "CallMelt$Machine" "tookEver" "I" ∈ lw_u := lw_in wt_252 rfl
theorem wt_254 : Jvm.Cond.lays "CallMelt$Machine" "CallMelt$Machine" "refusal" "I" ∈ lw_tbl := List.mem_of_getElem? (i := 254) (by decide +kernel)
theorem wd_254 : Jvm.Cond.lays "CallMelt$Machine" "CallMelt$Machine" "refusal" "I" ∈ lw_u := lw_in wt_254 rfl
theorem wt_256 : Jvm.Cond.lays "CallMelt$Machine" "CallMelt$Machine" "value" "I" ∈ lw_tbl := List.mem_of_getElem? (i := 256) (by decide +kernel)
theorem wd_256 : Jvm.Cond.lays "CallMelt$Machine" "CallMelt$Machine" "value" "I" ∈ lw_u := lw_in wt_256 rfl
theorem wt_258 : Jvm.Cond.lays "CallMelt$Machine" "CallMelt$Machine" "took" "I" ∈ lw_tbl := List.mem_of_getElem? (i := 258) (by decide +kernel)
theorem wd_258 : Jvm.Cond.lays "CallMelt$Machine" "CallMelt$Machine" "took" "I" ∈ lw_u := lw_in wt_258 rfl
theorem wt_260 : Jvm.Cond.lays "CallMelt$Machine" "CallMelt$Machine" "mostOpen" "I" ∈ lw_tbl := List.mem_of_getElem? (i := 260) (by decide +kernel)
theorem wd_260 : Jvm.Cond.lays "CallMelt$Machine" "CallMelt$Machine" "mostOpen" "I" ∈ lw_u := lw_in wt_260 rfl
theorem wt_262 : Jvm.Cond.lays "CallMelt$Machine" "CallMelt$Machine" "refused" "I" ∈ lw_tbl := List.mem_of_getElem? (i := 262) (by decide +kernel)
theorem wd_262 : Jvm.Cond.lays "CallMelt$Machine" "CallMelt$Machine" "refused" "I" ∈ lw_u := lw_in wt_262 rfl
theorem inX2 : ∀ w ∈ u_ws RX2 TX2 18, w ∈ lw_u := by
  intro w hw
  have h : u_ws RX2 TX2 18 = [u_lay RX2 TX2 0, u_lay RX2 TX2 1, u_lay RX2 TX2 2, u_lay RX2 TX2 3, u_lay RX2 TX2 4, u_lay RX2 TX2 5, u_lay RX2 TX2 6, u_lay RX2 TX2 7, u_lay RX2 TX2 8, u_lay RX2 TX2 9, u_lay RX2 TX2 10, u_lay RX2 TX2 11, u_lay RX2 TX2 12, u_lay RX2 TX2 13, u_lay RX2 TX2 14, u_lay RX2 TX2 15, u_lay RX2 TX2 16, u_lay RX2 TX2 17] := rfl
  rw [h] at hw
  simp only [List.mem_cons, List.not_mem_nil, or_false] at hw
  rcases hw with rfl | rfl | rfl | rfl | rfl | rfl | rfl | rfl | rfl | rfl | rfl | rfl | rfl | rfl | rfl | rfl | rfl | rfl
  · exact wd_228
  · exact wd_230
  · exact wd_232
  · exact wd_234
  · exact wd_236
  · exact wd_238
  · exact wd_240
  · exact wd_242
  · exact wd_244
  · exact wd_246
  · exact wd_248
  · exact wd_250
  · exact wd_252
  · exact wd_254
  · exact wd_256
  · exact wd_258
  · exact wd_260
  · exact wd_262
theorem wt_274 : Jvm.Cond.laysFinal "CallMelt$Melter" "CallMelt$Melter" "code" "LCallMelt$Code;" ∈ lw_tbl := List.mem_of_getElem? (i := 274) (by decide +kernel)
theorem wd_274 : Jvm.Cond.laysFinal "CallMelt$Melter" "CallMelt$Melter" "code" "LCallMelt$Code;" ∈ lw_u := lw_in wt_274 rfl
theorem wt_276 : Jvm.Cond.laysFinal "CallMelt$Melter" "CallMelt$Melter" "walk" "LCallMelt$Walk;" ∈ lw_tbl := List.mem_of_getElem? (i := 276) (by decide +kernel)
theorem wd_276 : Jvm.Cond.laysFinal "CallMelt$Melter" "CallMelt$Melter" "walk" "LCallMelt$Walk;" ∈ lw_u := lw_in wt_276 rfl
theorem wt_278 : Jvm.Cond.laysFinal "CallMelt$Melter" "CallMelt$Melter" "latest" "[I" ∈ lw_tbl := List.mem_of_getElem? (i := 278) (by decide +kernel)
theorem wd_278 : Jvm.Cond.laysFinal "CallMelt$Melter" "CallMelt$Melter" "latest" "[I" ∈ lw_u := lw_in wt_278 rfl
theorem inX3 : ∀ w ∈ u_ws RX3 TX3 3, w ∈ lw_u := by
  intro w hw
  have h : u_ws RX3 TX3 3 = [u_lay RX3 TX3 0, u_lay RX3 TX3 1, u_lay RX3 TX3 2] := rfl
  rw [h] at hw
  simp only [List.mem_cons, List.not_mem_nil, or_false] at hw
  rcases hw with rfl | rfl | rfl
  · exact wd_274
  · exact wd_276
  · exact wd_278
theorem wt_329 : Jvm.Cond.laysFinal "CallMelt$Past" "CallMelt$Past" "slots" "[LCallMelt$Rows;" ∈ lw_tbl := List.mem_of_getElem? (i := 329) (by decide +kernel)
theorem wd_329 : Jvm.Cond.laysFinal "CallMelt$Past" "CallMelt$Past" "slots" "[LCallMelt$Rows;" ∈ lw_u := lw_in wt_329 rfl
theorem wt_331 : Jvm.Cond.lays "CallMelt$Past" "CallMelt$Past" "first" "I" ∈ lw_tbl := List.mem_of_getElem? (i := 331) (by decide +kernel)
theorem wd_331 : Jvm.Cond.lays "CallMelt$Past" "CallMelt$Past" "first" "I" ∈ lw_u := lw_in wt_331 rfl
theorem wt_333 : Jvm.Cond.lays "CallMelt$Past" "CallMelt$Past" "size" "I" ∈ lw_tbl := List.mem_of_getElem? (i := 333) (by decide +kernel)
theorem wd_333 : Jvm.Cond.lays "CallMelt$Past" "CallMelt$Past" "size" "I" ∈ lw_u := lw_in wt_333 rfl
theorem inX4 : ∀ w ∈ u_ws RX4 TX4 3, w ∈ lw_u := by
  intro w hw
  have h : u_ws RX4 TX4 3 = [u_lay RX4 TX4 0, u_lay RX4 TX4 1, u_lay RX4 TX4 2] := rfl
  rw [h] at hw
  simp only [List.mem_cons, List.not_mem_nil, or_false] at hw
  rcases hw with rfl | rfl | rfl
  · exact wd_329
  · exact wd_331
  · exact wd_333
theorem wt_139 : Jvm.Cond.laysFinal "CallMelt$Rows" "CallMelt$Rows" "kinds" "[I" ∈ lw_tbl := List.mem_of_getElem? (i := 139) (by decide +kernel)
theorem wd_139 : Jvm.Cond.laysFinal "CallMelt$Rows" "CallMelt$Rows" "kinds" "[I" ∈ lw_u := lw_in wt_139 rfl
theorem wt_141 : Jvm.Cond.laysFinal "CallMelt$Rows" "CallMelt$Rows" "numbers" "[I" ∈ lw_tbl := List.mem_of_getElem? (i := 141) (by decide +kernel)
theorem wd_141 : Jvm.Cond.laysFinal "CallMelt$Rows" "CallMelt$Rows" "numbers" "[I" ∈ lw_u := lw_in wt_141 rfl
theorem wt_143 : Jvm.Cond.laysFinal "CallMelt$Rows" "CallMelt$Rows" "parts" "[I" ∈ lw_tbl := List.mem_of_getElem? (i := 143) (by decide +kernel)
theorem wd_143 : Jvm.Cond.laysFinal "CallMelt$Rows" "CallMelt$Rows" "parts" "[I" ∈ lw_u := lw_in wt_143 rfl
theorem wt_145 : Jvm.Cond.laysFinal "CallMelt$Rows" "CallMelt$Rows" "parents" "[I" ∈ lw_tbl := List.mem_of_getElem? (i := 145) (by decide +kernel)
theorem wd_145 : Jvm.Cond.laysFinal "CallMelt$Rows" "CallMelt$Rows" "parents" "[I" ∈ lw_u := lw_in wt_145 rfl
theorem wt_147 : Jvm.Cond.laysFinal "CallMelt$Rows" "CallMelt$Rows" "params" "[I" ∈ lw_tbl := List.mem_of_getElem? (i := 147) (by decide +kernel)
theorem wd_147 : Jvm.Cond.laysFinal "CallMelt$Rows" "CallMelt$Rows" "params" "[I" ∈ lw_u := lw_in wt_147 rfl
theorem wt_149 : Jvm.Cond.laysFinal "CallMelt$Rows" "CallMelt$Rows" "bodies" "[I" ∈ lw_tbl := List.mem_of_getElem? (i := 149) (by decide +kernel)
theorem wd_149 : Jvm.Cond.laysFinal "CallMelt$Rows" "CallMelt$Rows" "bodies" "[I" ∈ lw_u := lw_in wt_149 rfl
theorem wt_151 : Jvm.Cond.lays "CallMelt$Rows" "CallMelt$Rows" "made" "I" ∈ lw_tbl := List.mem_of_getElem? (i := 151) (by decide +kernel)
theorem wd_151 : Jvm.Cond.lays "CallMelt$Rows" "CallMelt$Rows" "made" "I" ∈ lw_u := lw_in wt_151 rfl
theorem wt_153 : Jvm.Cond.lays "CallMelt$Rows" "CallMelt$Rows" "routines" "I" ∈ lw_tbl := List.mem_of_getElem? (i := 153) (by decide +kernel)
theorem wd_153 : Jvm.Cond.lays "CallMelt$Rows" "CallMelt$Rows" "routines" "I" ∈ lw_u := lw_in wt_153 rfl
theorem inX5 : ∀ w ∈ u_ws RX5 TX5 8, w ∈ lw_u := by
  intro w hw
  have h : u_ws RX5 TX5 8 = [u_lay RX5 TX5 0, u_lay RX5 TX5 1, u_lay RX5 TX5 2, u_lay RX5 TX5 3, u_lay RX5 TX5 4, u_lay RX5 TX5 5, u_lay RX5 TX5 6, u_lay RX5 TX5 7] := rfl
  rw [h] at hw
  simp only [List.mem_cons, List.not_mem_nil, or_false] at hw
  rcases hw with rfl | rfl | rfl | rfl | rfl | rfl | rfl | rfl
  · exact wd_139
  · exact wd_141
  · exact wd_143
  · exact wd_145
  · exact wd_147
  · exact wd_149
  · exact wd_151
  · exact wd_153
theorem wt_177 : Jvm.Cond.laysFinal "CallMelt$Walk" "CallMelt$Walk" "steps" "[I" ∈ lw_tbl := List.mem_of_getElem? (i := 177) (by decide +kernel)
theorem wd_177 : Jvm.Cond.laysFinal "CallMelt$Walk" "CallMelt$Walk" "steps" "[I" ∈ lw_u := lw_in wt_177 rfl
theorem wt_179 : Jvm.Cond.laysFinal "CallMelt$Walk" "CallMelt$Walk" "deep" "[I" ∈ lw_tbl := List.mem_of_getElem? (i := 179) (by decide +kernel)
theorem wd_179 : Jvm.Cond.laysFinal "CallMelt$Walk" "CallMelt$Walk" "deep" "[I" ∈ lw_u := lw_in wt_179 rfl
theorem wt_181 : Jvm.Cond.laysFinal "CallMelt$Walk" "CallMelt$Walk" "waiting" "[I" ∈ lw_tbl := List.mem_of_getElem? (i := 181) (by decide +kernel)
theorem wd_181 : Jvm.Cond.laysFinal "CallMelt$Walk" "CallMelt$Walk" "waiting" "[I" ∈ lw_u := lw_in wt_181 rfl
theorem wt_183 : Jvm.Cond.laysFinal "CallMelt$Walk" "CallMelt$Walk" "waitingDeep" "[I" ∈ lw_tbl := List.mem_of_getElem? (i := 183) (by decide +kernel)
theorem wd_183 : Jvm.Cond.laysFinal "CallMelt$Walk" "CallMelt$Walk" "waitingDeep" "[I" ∈ lw_u := lw_in wt_183 rfl
theorem wt_185 : Jvm.Cond.lays "CallMelt$Walk" "CallMelt$Walk" "size" "I" ∈ lw_tbl := List.mem_of_getElem? (i := 185) (by decide +kernel)
theorem wd_185 : Jvm.Cond.lays "CallMelt$Walk" "CallMelt$Walk" "size" "I" ∈ lw_u := lw_in wt_185 rfl
theorem inX6 : ∀ w ∈ u_ws RX6 TX6 5, w ∈ lw_u := by
  intro w hw
  have h : u_ws RX6 TX6 5 = [u_lay RX6 TX6 0, u_lay RX6 TX6 1, u_lay RX6 TX6 2, u_lay RX6 TX6 3, u_lay RX6 TX6 4] := rfl
  rw [h] at hw
  simp only [List.mem_cons, List.not_mem_nil, or_false] at hw
  rcases hw with rfl | rfl | rfl | rfl | rfl
  · exact wd_177
  · exact wd_179
  · exact wd_181
  · exact wd_183
  · exact wd_185
theorem wt_298 : Jvm.Cond.laysFinal "CallMelt$Worker" "CallMelt$Worker" "code" "LCallMelt$Code;" ∈ lw_tbl := List.mem_of_getElem? (i := 298) (by decide +kernel)
theorem wd_298 : Jvm.Cond.laysFinal "CallMelt$Worker" "CallMelt$Worker" "code" "LCallMelt$Code;" ∈ lw_u := lw_in wt_298 rfl
theorem wt_300 : Jvm.Cond.laysFinal "CallMelt$Worker" "CallMelt$Worker" "walk" "LCallMelt$Walk;" ∈ lw_tbl := List.mem_of_getElem? (i := 300) (by decide +kernel)
theorem wd_300 : Jvm.Cond.laysFinal "CallMelt$Worker" "CallMelt$Worker" "walk" "LCallMelt$Walk;" ∈ lw_u := lw_in wt_300 rfl
theorem wt_302 : Jvm.Cond.laysFinal "CallMelt$Worker" "CallMelt$Worker" "inner" "LCallMelt$Walk;" ∈ lw_tbl := List.mem_of_getElem? (i := 302) (by decide +kernel)
theorem wd_302 : Jvm.Cond.laysFinal "CallMelt$Worker" "CallMelt$Worker" "inner" "LCallMelt$Walk;" ∈ lw_u := lw_in wt_302 rfl
theorem wt_304 : Jvm.Cond.laysFinal "CallMelt$Worker" "CallMelt$Worker" "sets" "[I" ∈ lw_tbl := List.mem_of_getElem? (i := 304) (by decide +kernel)
theorem wd_304 : Jvm.Cond.laysFinal "CallMelt$Worker" "CallMelt$Worker" "sets" "[I" ∈ lw_u := lw_in wt_304 rfl
theorem wt_306 : Jvm.Cond.laysFinal "CallMelt$Worker" "CallMelt$Worker" "names" "[I" ∈ lw_tbl := List.mem_of_getElem? (i := 306) (by decide +kernel)
theorem wd_306 : Jvm.Cond.laysFinal "CallMelt$Worker" "CallMelt$Worker" "names" "[I" ∈ lw_u := lw_in wt_306 rfl
theorem wt_308 : Jvm.Cond.lays "CallMelt$Worker" "CallMelt$Worker" "isFull" "Z" ∈ lw_tbl := List.mem_of_getElem? (i := 308) (by decide +kernel)
theorem wd_308 : Jvm.Cond.lays "CallMelt$Worker" "CallMelt$Worker" "isFull" "Z" ∈ lw_u := lw_in wt_308 rfl
theorem wt_310 : Jvm.Cond.lays "CallMelt$Worker" "CallMelt$Worker" "place" "I" ∈ lw_tbl := List.mem_of_getElem? (i := 310) (by decide +kernel)
theorem wd_310 : Jvm.Cond.lays "CallMelt$Worker" "CallMelt$Worker" "place" "I" ∈ lw_u := lw_in wt_310 rfl
theorem wt_312 : Jvm.Cond.lays "CallMelt$Worker" "CallMelt$Worker" "value" "I" ∈ lw_tbl := List.mem_of_getElem? (i := 312) (by decide +kernel)
theorem wd_312 : Jvm.Cond.lays "CallMelt$Worker" "CallMelt$Worker" "value" "I" ∈ lw_u := lw_in wt_312 rfl
theorem wt_314 : Jvm.Cond.lays "CallMelt$Worker" "CallMelt$Worker" "fixed" "I" ∈ lw_tbl := List.mem_of_getElem? (i := 314) (by decide +kernel)
theorem wd_314 : Jvm.Cond.lays "CallMelt$Worker" "CallMelt$Worker" "fixed" "I" ∈ lw_u := lw_in wt_314 rfl
theorem inX7 : ∀ w ∈ u_ws RX7 TX7 9, w ∈ lw_u := by
  intro w hw
  have h : u_ws RX7 TX7 9 = [u_lay RX7 TX7 0, u_lay RX7 TX7 1, u_lay RX7 TX7 2, u_lay RX7 TX7 3, u_lay RX7 TX7 4, u_lay RX7 TX7 5, u_lay RX7 TX7 6, u_lay RX7 TX7 7, u_lay RX7 TX7 8] := rfl
  rw [h] at hw
  simp only [List.mem_cons, List.not_mem_nil, or_false] at hw
  rcases hw with rfl | rfl | rfl | rfl | rfl | rfl | rfl | rfl | rfl
  · exact wd_298
  · exact wd_300
  · exact wd_302
  · exact wd_304
  · exact wd_306
  · exact wd_308
  · exact wd_310
  · exact wd_312
  · exact wd_314
theorem wt_388 : Jvm.Cond.laysFinal "CallMelt" "CallMelt" "code" "LCallMelt$Code;" ∈ lw_tbl := List.mem_of_getElem? (i := 388) (by decide +kernel)
theorem wd_388 : Jvm.Cond.laysFinal "CallMelt" "CallMelt" "code" "LCallMelt$Code;" ∈ lw_u := lw_in wt_388 rfl
theorem wt_390 : Jvm.Cond.laysFinal "CallMelt" "CallMelt" "machine" "LCallMelt$Machine;" ∈ lw_tbl := List.mem_of_getElem? (i := 390) (by decide +kernel)
theorem wd_390 : Jvm.Cond.laysFinal "CallMelt" "CallMelt" "machine" "LCallMelt$Machine;" ∈ lw_u := lw_in wt_390 rfl
theorem wt_392 : Jvm.Cond.laysFinal "CallMelt" "CallMelt" "melter" "LCallMelt$Melter;" ∈ lw_tbl := List.mem_of_getElem? (i := 392) (by decide +kernel)
theorem wd_392 : Jvm.Cond.laysFinal "CallMelt" "CallMelt" "melter" "LCallMelt$Melter;" ∈ lw_u := lw_in wt_392 rfl
theorem wt_394 : Jvm.Cond.laysFinal "CallMelt" "CallMelt" "worker" "LCallMelt$Worker;" ∈ lw_tbl := List.mem_of_getElem? (i := 394) (by decide +kernel)
theorem wd_394 : Jvm.Cond.laysFinal "CallMelt" "CallMelt" "worker" "LCallMelt$Worker;" ∈ lw_u := lw_in wt_394 rfl
theorem wt_396 : Jvm.Cond.laysFinal "CallMelt" "CallMelt" "past" "LCallMelt$Past;" ∈ lw_tbl := List.mem_of_getElem? (i := 396) (by decide +kernel)
theorem wd_396 : Jvm.Cond.laysFinal "CallMelt" "CallMelt" "past" "LCallMelt$Past;" ∈ lw_u := lw_in wt_396 rfl
theorem wt_398 : Jvm.Cond.laysFinal "CallMelt" "CallMelt" "choice" "LCallMelt$Choice;" ∈ lw_tbl := List.mem_of_getElem? (i := 398) (by decide +kernel)
theorem wd_398 : Jvm.Cond.laysFinal "CallMelt" "CallMelt" "choice" "LCallMelt$Choice;" ∈ lw_u := lw_in wt_398 rfl
theorem inX8 : ∀ w ∈ u_ws RX8 TX8 6, w ∈ lw_u := by
  intro w hw
  have h : u_ws RX8 TX8 6 = [u_lay RX8 TX8 0, u_lay RX8 TX8 1, u_lay RX8 TX8 2, u_lay RX8 TX8 3, u_lay RX8 TX8 4, u_lay RX8 TX8 5] := rfl
  rw [h] at hw
  simp only [List.mem_cons, List.not_mem_nil, or_false] at hw
  rcases hw with rfl | rfl | rfl | rfl | rfl | rfl
  · exact wd_388
  · exact wd_390
  · exact wd_392
  · exact wd_394
  · exact wd_396
  · exact wd_398
theorem wt_1027 : Jvm.Cond.lays "CallMeltModel" "CallMeltModel" "many" "I" ∈ lw_tbl := List.mem_of_getElem? (i := 1027) (by decide +kernel)
theorem wd_1027 : Jvm.Cond.lays "CallMeltModel" "CallMeltModel" "many" "I" ∈ lw_u := lw_in wt_1027 rfl
theorem wt_1029 : Jvm.Cond.laysFinal "CallMeltModel" "CallMeltModel" "kind" "[I" ∈ lw_tbl := List.mem_of_getElem? (i := 1029) (by decide +kernel)
theorem wd_1029 : Jvm.Cond.laysFinal "CallMeltModel" "CallMeltModel" "kind" "[I" ∈ lw_u := lw_in wt_1029 rfl
theorem wt_1031 : Jvm.Cond.laysFinal "CallMeltModel" "CallMeltModel" "num" "[I" ∈ lw_tbl := List.mem_of_getElem? (i := 1031) (by decide +kernel)
theorem wd_1031 : Jvm.Cond.laysFinal "CallMeltModel" "CallMeltModel" "num" "[I" ∈ lw_u := lw_in wt_1031 rfl
theorem wt_1033 : Jvm.Cond.laysFinal "CallMeltModel" "CallMeltModel" "part" "[I" ∈ lw_tbl := List.mem_of_getElem? (i := 1033) (by decide +kernel)
theorem wd_1033 : Jvm.Cond.laysFinal "CallMeltModel" "CallMeltModel" "part" "[I" ∈ lw_u := lw_in wt_1033 rfl
theorem wt_1035 : Jvm.Cond.laysFinal "CallMeltModel" "CallMeltModel" "up" "[I" ∈ lw_tbl := List.mem_of_getElem? (i := 1035) (by decide +kernel)
theorem wd_1035 : Jvm.Cond.laysFinal "CallMeltModel" "CallMeltModel" "up" "[I" ∈ lw_u := lw_in wt_1035 rfl
theorem wt_1037 : Jvm.Cond.laysFinal "CallMeltModel" "CallMeltModel" "count" "[I" ∈ lw_tbl := List.mem_of_getElem? (i := 1037) (by decide +kernel)
theorem wd_1037 : Jvm.Cond.laysFinal "CallMeltModel" "CallMeltModel" "count" "[I" ∈ lw_u := lw_in wt_1037 rfl
theorem wt_1039 : Jvm.Cond.lays "CallMeltModel" "CallMeltModel" "routines" "I" ∈ lw_tbl := List.mem_of_getElem? (i := 1039) (by decide +kernel)
theorem wd_1039 : Jvm.Cond.lays "CallMeltModel" "CallMeltModel" "routines" "I" ∈ lw_u := lw_in wt_1039 rfl
theorem wt_1041 : Jvm.Cond.laysFinal "CallMeltModel" "CallMeltModel" "params" "[I" ∈ lw_tbl := List.mem_of_getElem? (i := 1041) (by decide +kernel)
theorem wd_1041 : Jvm.Cond.laysFinal "CallMeltModel" "CallMeltModel" "params" "[I" ∈ lw_u := lw_in wt_1041 rfl
theorem wt_1043 : Jvm.Cond.laysFinal "CallMeltModel" "CallMeltModel" "bodies" "[I" ∈ lw_tbl := List.mem_of_getElem? (i := 1043) (by decide +kernel)
theorem wd_1043 : Jvm.Cond.laysFinal "CallMeltModel" "CallMeltModel" "bodies" "[I" ∈ lw_u := lw_in wt_1043 rfl
theorem wt_1045 : Jvm.Cond.laysFinal "CallMeltModel" "CallMeltModel" "row" "[I" ∈ lw_tbl := List.mem_of_getElem? (i := 1045) (by decide +kernel)
theorem wd_1045 : Jvm.Cond.laysFinal "CallMeltModel" "CallMeltModel" "row" "[I" ∈ lw_u := lw_in wt_1045 rfl
theorem wt_1047 : Jvm.Cond.laysFinal "CallMeltModel" "CallMeltModel" "order" "[I" ∈ lw_tbl := List.mem_of_getElem? (i := 1047) (by decide +kernel)
theorem wd_1047 : Jvm.Cond.laysFinal "CallMeltModel" "CallMeltModel" "order" "[I" ∈ lw_u := lw_in wt_1047 rfl
theorem wt_1049 : Jvm.Cond.laysFinal "CallMeltModel" "CallMeltModel" "deep" "[I" ∈ lw_tbl := List.mem_of_getElem? (i := 1049) (by decide +kernel)
theorem wd_1049 : Jvm.Cond.laysFinal "CallMeltModel" "CallMeltModel" "deep" "[I" ∈ lw_u := lw_in wt_1049 rfl
theorem wt_1051 : Jvm.Cond.laysFinal "CallMeltModel" "CallMeltModel" "open" "[I" ∈ lw_tbl := List.mem_of_getElem? (i := 1051) (by decide +kernel)
theorem wd_1051 : Jvm.Cond.laysFinal "CallMeltModel" "CallMeltModel" "open" "[I" ∈ lw_u := lw_in wt_1051 rfl
theorem wt_1053 : Jvm.Cond.lays "CallMeltModel" "CallMeltModel" "undos" "I" ∈ lw_tbl := List.mem_of_getElem? (i := 1053) (by decide +kernel)
theorem wd_1053 : Jvm.Cond.lays "CallMeltModel" "CallMeltModel" "undos" "I" ∈ lw_u := lw_in wt_1053 rfl
theorem wt_1055 : Jvm.Cond.laysFinal "CallMeltModel" "CallMeltModel" "given" "[I" ∈ lw_tbl := List.mem_of_getElem? (i := 1055) (by decide +kernel)
theorem wd_1055 : Jvm.Cond.laysFinal "CallMeltModel" "CallMeltModel" "given" "[I" ∈ lw_u := lw_in wt_1055 rfl
theorem wt_1057 : Jvm.Cond.laysFinal "CallMeltModel" "CallMeltModel" "first" "[I" ∈ lw_tbl := List.mem_of_getElem? (i := 1057) (by decide +kernel)
theorem wd_1057 : Jvm.Cond.laysFinal "CallMeltModel" "CallMeltModel" "first" "[I" ∈ lw_u := lw_in wt_1057 rfl
theorem wt_1059 : Jvm.Cond.lays "CallMeltModel" "CallMeltModel" "sp" "I" ∈ lw_tbl := List.mem_of_getElem? (i := 1059) (by decide +kernel)
theorem wd_1059 : Jvm.Cond.lays "CallMeltModel" "CallMeltModel" "sp" "I" ∈ lw_u := lw_in wt_1059 rfl
theorem wt_1061 : Jvm.Cond.laysFinal "CallMeltModel" "CallMeltModel" "fStep" "[I" ∈ lw_tbl := List.mem_of_getElem? (i := 1061) (by decide +kernel)
theorem wd_1061 : Jvm.Cond.laysFinal "CallMeltModel" "CallMeltModel" "fStep" "[I" ∈ lw_u := lw_in wt_1061 rfl
theorem wt_1063 : Jvm.Cond.laysFinal "CallMeltModel" "CallMeltModel" "fPhase" "[I" ∈ lw_tbl := List.mem_of_getElem? (i := 1063) (by decide +kernel)
theorem wd_1063 : Jvm.Cond.laysFinal "CallMeltModel" "CallMeltModel" "fPhase" "[I" ∈ lw_u := lw_in wt_1063 rfl
theorem wt_1065 : Jvm.Cond.laysFinal "CallMeltModel" "CallMeltModel" "fValue" "[I" ∈ lw_tbl := List.mem_of_getElem? (i := 1065) (by decide +kernel)
theorem wd_1065 : Jvm.Cond.laysFinal "CallMeltModel" "CallMeltModel" "fValue" "[I" ∈ lw_u := lw_in wt_1065 rfl
theorem wt_1067 : Jvm.Cond.laysFinal "CallMeltModel" "CallMeltModel" "fLevel" "[I" ∈ lw_tbl := List.mem_of_getElem? (i := 1067) (by decide +kernel)
theorem wd_1067 : Jvm.Cond.laysFinal "CallMeltModel" "CallMeltModel" "fLevel" "[I" ∈ lw_u := lw_in wt_1067 rfl
theorem wt_1069 : Jvm.Cond.laysFinal "CallMeltModel" "CallMeltModel" "names" "[I" ∈ lw_tbl := List.mem_of_getElem? (i := 1069) (by decide +kernel)
theorem wd_1069 : Jvm.Cond.laysFinal "CallMeltModel" "CallMeltModel" "names" "[I" ∈ lw_u := lw_in wt_1069 rfl
theorem wt_1071 : Jvm.Cond.lays "CallMeltModel" "CallMeltModel" "level" "I" ∈ lw_tbl := List.mem_of_getElem? (i := 1071) (by decide +kernel)
theorem wd_1071 : Jvm.Cond.lays "CallMeltModel" "CallMeltModel" "level" "I" ∈ lw_u := lw_in wt_1071 rfl
theorem wt_1073 : Jvm.Cond.lays "CallMeltModel" "CallMeltModel" "fuel" "I" ∈ lw_tbl := List.mem_of_getElem? (i := 1073) (by decide +kernel)
theorem wd_1073 : Jvm.Cond.lays "CallMeltModel" "CallMeltModel" "fuel" "I" ∈ lw_u := lw_in wt_1073 rfl
theorem wt_1075 : Jvm.Cond.lays "CallMeltModel" "CallMeltModel" "took" "I" ∈ lw_tbl := List.mem_of_getElem? (i := 1075) (by decide +kernel)
theorem wd_1075 : Jvm.Cond.lays "CallMeltModel" "CallMeltModel" "took" "I" ∈ lw_u := lw_in wt_1075 rfl
theorem wt_1077 : Jvm.Cond.lays "CallMeltModel" "CallMeltModel" "refused" "I" ∈ lw_tbl := List.mem_of_getElem? (i := 1077) (by decide +kernel)
theorem wd_1077 : Jvm.Cond.lays "CallMeltModel" "CallMeltModel" "refused" "I" ∈ lw_u := lw_in wt_1077 rfl
theorem wt_1079 : Jvm.Cond.lays "CallMeltModel" "CallMeltModel" "value" "I" ∈ lw_tbl := List.mem_of_getElem? (i := 1079) (by decide +kernel)
theorem wd_1079 : Jvm.Cond.lays "CallMeltModel" "CallMeltModel" "value" "I" ∈ lw_u := lw_in wt_1079 rfl
theorem wt_1081 : Jvm.Cond.lays "CallMeltModel" "CallMeltModel" "most" "I" ∈ lw_tbl := List.mem_of_getElem? (i := 1081) (by decide +kernel)
theorem wd_1081 : Jvm.Cond.lays "CallMeltModel" "CallMeltModel" "most" "I" ∈ lw_u := lw_in wt_1081 rfl
theorem wt_1083 : Jvm.Cond.lays "CallMeltModel" "CallMeltModel" "at" "I" ∈ lw_tbl := List.mem_of_getElem? (i := 1083) (by decide +kernel)
theorem wd_1083 : Jvm.Cond.lays "CallMeltModel" "CallMeltModel" "at" "I" ∈ lw_u := lw_in wt_1083 rfl
theorem wt_1085 : Jvm.Cond.lays "CallMeltModel" "CallMeltModel" "over" "Z" ∈ lw_tbl := List.mem_of_getElem? (i := 1085) (by decide +kernel)
theorem wd_1085 : Jvm.Cond.lays "CallMeltModel" "CallMeltModel" "over" "Z" ∈ lw_u := lw_in wt_1085 rfl
theorem wt_1087 : Jvm.Cond.lays "CallMeltModel" "CallMeltModel" "allFuel" "I" ∈ lw_tbl := List.mem_of_getElem? (i := 1087) (by decide +kernel)
theorem wd_1087 : Jvm.Cond.lays "CallMeltModel" "CallMeltModel" "allFuel" "I" ∈ lw_u := lw_in wt_1087 rfl
theorem wt_1089 : Jvm.Cond.lays "CallMeltModel" "CallMeltModel" "isRun" "Z" ∈ lw_tbl := List.mem_of_getElem? (i := 1089) (by decide +kernel)
theorem wd_1089 : Jvm.Cond.lays "CallMeltModel" "CallMeltModel" "isRun" "Z" ∈ lw_u := lw_in wt_1089 rfl
theorem wt_1091 : Jvm.Cond.laysFinal "CallMeltModel" "CallMeltModel" "keptMany" "[I" ∈ lw_tbl := List.mem_of_getElem? (i := 1091) (by decide +kernel)
theorem wd_1091 : Jvm.Cond.laysFinal "CallMeltModel" "CallMeltModel" "keptMany" "[I" ∈ lw_u := lw_in wt_1091 rfl
theorem wt_1093 : Jvm.Cond.laysFinal "CallMeltModel" "CallMeltModel" "keptSteps" "[I" ∈ lw_tbl := List.mem_of_getElem? (i := 1093) (by decide +kernel)
theorem wd_1093 : Jvm.Cond.laysFinal "CallMeltModel" "CallMeltModel" "keptSteps" "[I" ∈ lw_u := lw_in wt_1093 rfl
theorem wt_1095 : Jvm.Cond.laysFinal "CallMeltModel" "CallMeltModel" "keptBodies" "[I" ∈ lw_tbl := List.mem_of_getElem? (i := 1095) (by decide +kernel)
theorem wd_1095 : Jvm.Cond.laysFinal "CallMeltModel" "CallMeltModel" "keptBodies" "[I" ∈ lw_u := lw_in wt_1095 rfl
theorem wt_1097 : Jvm.Cond.laysFinal "CallMeltModel" "CallMeltModel" "copied" "[I" ∈ lw_tbl := List.mem_of_getElem? (i := 1097) (by decide +kernel)
theorem wd_1097 : Jvm.Cond.laysFinal "CallMeltModel" "CallMeltModel" "copied" "[I" ∈ lw_u := lw_in wt_1097 rfl
theorem wt_1099 : Jvm.Cond.laysFinal "CallMeltModel" "CallMeltModel" "line" "[I" ∈ lw_tbl := List.mem_of_getElem? (i := 1099) (by decide +kernel)
theorem wd_1099 : Jvm.Cond.laysFinal "CallMeltModel" "CallMeltModel" "line" "[I" ∈ lw_u := lw_in wt_1099 rfl
theorem wt_1101 : Jvm.Cond.lays "CallMeltModel" "CallMeltModel" "looked" "I" ∈ lw_tbl := List.mem_of_getElem? (i := 1101) (by decide +kernel)
theorem wd_1101 : Jvm.Cond.lays "CallMeltModel" "CallMeltModel" "looked" "I" ∈ lw_u := lw_in wt_1101 rfl
theorem wt_1103 : Jvm.Cond.laysFinal "CallMeltModel" "CallMeltModel" "calls" "[I" ∈ lw_tbl := List.mem_of_getElem? (i := 1103) (by decide +kernel)
theorem wd_1103 : Jvm.Cond.laysFinal "CallMeltModel" "CallMeltModel" "calls" "[I" ∈ lw_u := lw_in wt_1103 rfl
theorem wt_1105 : Jvm.Cond.laysFinal "CallMeltModel" "CallMeltModel" "gains" "[I" ∈ lw_tbl := List.mem_of_getElem? (i := 1105) (by decide +kernel)
theorem wd_1105 : Jvm.Cond.laysFinal "CallMeltModel" "CallMeltModel" "gains" "[I" ∈ lw_u := lw_in wt_1105 rfl
theorem wt_1107 : Jvm.Cond.laysFinal "CallMeltModel" "CallMeltModel" "weights" "[I" ∈ lw_tbl := List.mem_of_getElem? (i := 1107) (by decide +kernel)
theorem wd_1107 : Jvm.Cond.laysFinal "CallMeltModel" "CallMeltModel" "weights" "[I" ∈ lw_u := lw_in wt_1107 rfl
theorem wt_1109 : Jvm.Cond.lays "CallMeltModel" "CallMeltModel" "isLaid" "Z" ∈ lw_tbl := List.mem_of_getElem? (i := 1109) (by decide +kernel)
theorem wd_1109 : Jvm.Cond.lays "CallMeltModel" "CallMeltModel" "isLaid" "Z" ∈ lw_u := lw_in wt_1109 rfl
theorem wt_1111 : Jvm.Cond.lays "CallMeltModel" "CallMeltModel" "laidGain" "I" ∈ lw_tbl := List.mem_of_getElem? (i := 1111) (by decide +kernel)
theorem wd_1111 : Jvm.Cond.lays "CallMeltModel" "CallMeltModel" "laidGain" "I" ∈ lw_u := lw_in wt_1111 rfl
theorem wt_1113 : Jvm.Cond.lays "CallMeltModel" "CallMeltModel" "laidWeight" "I" ∈ lw_tbl := List.mem_of_getElem? (i := 1113) (by decide +kernel)
theorem wd_1113 : Jvm.Cond.lays "CallMeltModel" "CallMeltModel" "laidWeight" "I" ∈ lw_u := lw_in wt_1113 rfl
theorem wt_1115 : Jvm.Cond.lays "CallMeltModel" "CallMeltModel" "laidMany" "I" ∈ lw_tbl := List.mem_of_getElem? (i := 1115) (by decide +kernel)
theorem wd_1115 : Jvm.Cond.lays "CallMeltModel" "CallMeltModel" "laidMany" "I" ∈ lw_u := lw_in wt_1115 rfl
theorem wt_1117 : Jvm.Cond.laysFinal "CallMeltModel" "CallMeltModel" "laidCalls" "[I" ∈ lw_tbl := List.mem_of_getElem? (i := 1117) (by decide +kernel)
theorem wd_1117 : Jvm.Cond.laysFinal "CallMeltModel" "CallMeltModel" "laidCalls" "[I" ∈ lw_u := lw_in wt_1117 rfl
theorem inX9 : ∀ w ∈ u_ws RX9 TX9 46, w ∈ lw_u := by
  intro w hw
  have h : u_ws RX9 TX9 46 = [u_lay RX9 TX9 0, u_lay RX9 TX9 1, u_lay RX9 TX9 2, u_lay RX9 TX9 3, u_lay RX9 TX9 4, u_lay RX9 TX9 5, u_lay RX9 TX9 6, u_lay RX9 TX9 7, u_lay RX9 TX9 8, u_lay RX9 TX9 9, u_lay RX9 TX9 10, u_lay RX9 TX9 11, u_lay RX9 TX9 12, u_lay RX9 TX9 13, u_lay RX9 TX9 14, u_lay RX9 TX9 15, u_lay RX9 TX9 16, u_lay RX9 TX9 17, u_lay RX9 TX9 18, u_lay RX9 TX9 19, u_lay RX9 TX9 20, u_lay RX9 TX9 21, u_lay RX9 TX9 22, u_lay RX9 TX9 23, u_lay RX9 TX9 24, u_lay RX9 TX9 25, u_lay RX9 TX9 26, u_lay RX9 TX9 27, u_lay RX9 TX9 28, u_lay RX9 TX9 29, u_lay RX9 TX9 30, u_lay RX9 TX9 31, u_lay RX9 TX9 32, u_lay RX9 TX9 33, u_lay RX9 TX9 34, u_lay RX9 TX9 35, u_lay RX9 TX9 36, u_lay RX9 TX9 37, u_lay RX9 TX9 38, u_lay RX9 TX9 39, u_lay RX9 TX9 40, u_lay RX9 TX9 41, u_lay RX9 TX9 42, u_lay RX9 TX9 43, u_lay RX9 TX9 44, u_lay RX9 TX9 45] := rfl
  rw [h] at hw
  simp only [List.mem_cons, List.not_mem_nil, or_false] at hw
  rcases hw with rfl | rfl | rfl | rfl | rfl | rfl | rfl | rfl | rfl | rfl | rfl | rfl | rfl | rfl | rfl | rfl | rfl | rfl | rfl | rfl | rfl | rfl | rfl | rfl | rfl | rfl | rfl | rfl | rfl | rfl | rfl | rfl | rfl | rfl | rfl | rfl | rfl | rfl | rfl | rfl | rfl | rfl | rfl | rfl | rfl | rfl
  · exact wd_1027
  · exact wd_1029
  · exact wd_1031
  · exact wd_1033
  · exact wd_1035
  · exact wd_1037
  · exact wd_1039
  · exact wd_1041
  · exact wd_1043
  · exact wd_1045
  · exact wd_1047
  · exact wd_1049
  · exact wd_1051
  · exact wd_1053
  · exact wd_1055
  · exact wd_1057
  · exact wd_1059
  · exact wd_1061
  · exact wd_1063
  · exact wd_1065
  · exact wd_1067
  · exact wd_1069
  · exact wd_1071
  · exact wd_1073
  · exact wd_1075
  · exact wd_1077
  · exact wd_1079
  · exact wd_1081
  · exact wd_1083
  · exact wd_1085
  · exact wd_1087
  · exact wd_1089
  · exact wd_1091
  · exact wd_1093
  · exact wd_1095
  · exact wd_1097
  · exact wd_1099
  · exact wd_1101
  · exact wd_1103
  · exact wd_1105
  · exact wd_1107
  · exact wd_1109
  · exact wd_1111
  · exact wd_1113
  · exact wd_1115
  · exact wd_1117
