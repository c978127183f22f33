/-! THE CALLS' TABLE IS AS THE WORDS SAY (printed by wip/whole/calls.py) -/
def tCw (x : MethodName × mM) : Prop := Cond.code x.1 (mCode x.2) (mMax x.2) (mRet x.2) ∈ tTs
set_option maxRecDepth 100000 in
theorem tCw_0 : tCw (yX0_init, mX0_init) := List.mem_filter.mpr ⟨List.mem_of_getElem? (i := 328) rfl, rfl⟩
set_option maxRecDepth 100000 in
theorem tCw_1 : tCw (yX0_empty, mX0_empty) := List.mem_filter.mpr ⟨List.mem_of_getElem? (i := 785) rfl, rfl⟩
set_option maxRecDepth 100000 in
theorem tCw_2 : tCw (yX0_bind, mX0_bind) := List.mem_filter.mpr ⟨List.mem_of_getElem? (i := 837) rfl, rfl⟩
set_option maxRecDepth 100000 in
theorem tCw_3 : tCw (yX0_find, mX0_find) := List.mem_filter.mpr ⟨List.mem_of_getElem? (i := 802) rfl, rfl⟩
set_option maxRecDepth 100000 in
theorem tCw_4 : tCw (yX0_functionAt, mX0_functionAt) := List.mem_filter.mpr ⟨List.mem_of_getElem? (i := 815) rfl, rfl⟩
set_option maxRecDepth 100000 in
theorem tCw_5 : tCw (yX0_numberAt, mX0_numberAt) := List.mem_filter.mpr ⟨List.mem_of_getElem? (i := 819) rfl, rfl⟩
set_option maxRecDepth 100000 in
theorem tCw_6 : tCw (yX0_roundOf, mX0_roundOf) := List.mem_filter.mpr ⟨List.mem_of_getElem? (i := 806) rfl, rfl⟩
set_option maxRecDepth 100000 in
theorem tCw_7 : tCw (yX1_init, mX1_init) := List.mem_filter.mpr ⟨List.mem_of_getElem? (i := 300) rfl, rfl⟩
set_option maxRecDepth 100000 in
theorem tCw_8 : tCw (yX1_solve, mX1_solve) := List.mem_filter.mpr ⟨List.mem_of_getElem? (i := 658) rfl, rfl⟩
set_option maxRecDepth 100000 in
theorem tCw_9 : tCw (yX1_reachesBit, mX1_reachesBit) := List.mem_filter.mpr ⟨List.mem_of_getElem? (i := 695) rfl, rfl⟩
set_option maxRecDepth 100000 in
theorem tCw_10 : tCw (yX1_pour, mX1_pour) := List.mem_filter.mpr ⟨List.mem_of_getElem? (i := 662) rfl, rfl⟩
set_option maxRecDepth 100000 in
theorem tCw_11 : tCw (yX1_pourCall, mX1_pourCall) := List.mem_filter.mpr ⟨List.mem_of_getElem? (i := 687) rfl, rfl⟩
set_option maxRecDepth 100000 in
theorem tCw_12 : tCw (yX1_ofPart, mX1_ofPart) := List.mem_filter.mpr ⟨List.mem_of_getElem? (i := 679) rfl, rfl⟩
set_option maxRecDepth 100000 in
theorem tCw_13 : tCw (yX1_intoExpr, mX1_intoExpr) := List.mem_filter.mpr ⟨List.mem_of_getElem? (i := 670) rfl, rfl⟩
set_option maxRecDepth 100000 in
theorem tCw_14 : tCw (yX1_intoVariable, mX1_intoVariable) := List.mem_filter.mpr ⟨List.mem_of_getElem? (i := 675) rfl, rfl⟩
set_option maxRecDepth 100000 in
theorem tCw_15 : tCw (yX1_findReached, mX1_findReached) := List.mem_filter.mpr ⟨List.mem_of_getElem? (i := 691) rfl, rfl⟩
set_option maxRecDepth 100000 in
theorem tCw_16 : tCw (yX2_init, mX2_init) := List.mem_filter.mpr ⟨List.mem_of_getElem? (i := 322) rfl, rfl⟩
set_option maxRecDepth 100000 in
theorem tCw_17 : tCw (yX2_forget, mX2_forget) := List.mem_filter.mpr ⟨List.mem_of_getElem? (i := 699) rfl, rfl⟩
set_option maxRecDepth 100000 in
theorem tCw_18 : tCw (yX2_start, mX2_start) := List.mem_filter.mpr ⟨List.mem_of_getElem? (i := 779) rfl, rfl⟩
set_option maxRecDepth 100000 in
theorem tCw_19 : tCw (yX2_end, mX2_end) := List.mem_filter.mpr ⟨List.mem_of_getElem? (i := 793) rfl, rfl⟩
set_option maxRecDepth 100000 in
theorem tCw_20 : tCw (yX2_begin, mX2_begin) := List.mem_filter.mpr ⟨List.mem_of_getElem? (i := 789) rfl, rfl⟩
set_option maxRecDepth 100000 in
theorem tCw_21 : tCw (yX2_come, mX2_come) := List.mem_filter.mpr ⟨List.mem_of_getElem? (i := 811) rfl, rfl⟩
set_option maxRecDepth 100000 in
theorem tCw_22 : tCw (yX2_recall, mX2_recall) := List.mem_filter.mpr ⟨List.mem_of_getElem? (i := 798) rfl, rfl⟩
set_option maxRecDepth 100000 in
theorem tCw_23 : tCw (yX2_await, mX2_await) := List.mem_filter.mpr ⟨List.mem_of_getElem? (i := 824) rfl, rfl⟩
set_option maxRecDepth 100000 in
theorem tCw_24 : tCw (yX2_hand, mX2_hand) := List.mem_filter.mpr ⟨List.mem_of_getElem? (i := 829) rfl, rfl⟩
set_option maxRecDepth 100000 in
theorem tCw_25 : tCw (yX2_choose, mX2_choose) := List.mem_filter.mpr ⟨List.mem_of_getElem? (i := 833) rfl, rfl⟩
set_option maxRecDepth 100000 in
theorem tCw_26 : tCw (yX2_enter, mX2_enter) := List.mem_filter.mpr ⟨List.mem_of_getElem? (i := 841) rfl, rfl⟩
set_option maxRecDepth 100000 in
theorem tCw_27 : tCw (yX2_reckon, mX2_reckon) := List.mem_filter.mpr ⟨List.mem_of_getElem? (i := 845) rfl, rfl⟩
set_option maxRecDepth 100000 in
theorem tCw_28 : tCw (yX3_init, mX3_init) := List.mem_filter.mpr ⟨List.mem_of_getElem? (i := 148) rfl, rfl⟩
set_option maxRecDepth 100000 in
theorem tCw_29 : tCw (yX3_add, mX3_add) := List.mem_filter.mpr ⟨List.mem_of_getElem? (i := 499) rfl, rfl⟩
set_option maxRecDepth 100000 in
theorem tCw_30 : tCw (yX3_addCopies, mX3_addCopies) := List.mem_filter.mpr ⟨List.mem_of_getElem? (i := 878) rfl, rfl⟩
set_option maxRecDepth 100000 in
theorem tCw_31 : tCw (yX3_settle, mX3_settle) := List.mem_filter.mpr ⟨List.mem_of_getElem? (i := 617) rfl, rfl⟩
set_option maxRecDepth 100000 in
theorem tCw_32 : tCw (yX3_numberVariables, mX3_numberVariables) := List.mem_filter.mpr ⟨List.mem_of_getElem? (i := 621) rfl, rfl⟩
set_option maxRecDepth 100000 in
theorem tCw_33 : tCw (yX3_newVariable, mX3_newVariable) := List.mem_filter.mpr ⟨List.mem_of_getElem? (i := 630) rfl, rfl⟩
set_option maxRecDepth 100000 in
theorem tCw_34 : tCw (yX3_countMeeting, mX3_countMeeting) := List.mem_filter.mpr ⟨List.mem_of_getElem? (i := 626) rfl, rfl⟩
set_option maxRecDepth 100000 in
theorem tCw_35 : tCw (yX3_countFree, mX3_countFree) := List.mem_filter.mpr ⟨List.mem_of_getElem? (i := 647) rfl, rfl⟩
set_option maxRecDepth 100000 in
theorem tCw_36 : tCw (yX3_numberFunction, mX3_numberFunction) := List.mem_filter.mpr ⟨List.mem_of_getElem? (i := 638) rfl, rfl⟩
set_option maxRecDepth 100000 in
theorem tCw_37 : tCw (yX3_join, mX3_join) := List.mem_filter.mpr ⟨List.mem_of_getElem? (i := 634) rfl, rfl⟩
set_option maxRecDepth 100000 in
theorem tCw_38 : tCw (yX3_openBehind, mX3_openBehind) := List.mem_filter.mpr ⟨List.mem_of_getElem? (i := 642) rfl, rfl⟩
set_option maxRecDepth 100000 in
theorem tCw_39 : tCw (yX3_part, mX3_part) := List.mem_filter.mpr ⟨List.mem_of_getElem? (i := 683) rfl, rfl⟩
set_option maxRecDepth 100000 in
theorem tCw_40 : tCw (yX3_endOf, mX3_endOf) := List.mem_filter.mpr ⟨List.mem_of_getElem? (i := 654) rfl, rfl⟩
set_option maxRecDepth 100000 in
theorem tCw_41 : tCw (yX3_functionsIn, mX3_functionsIn) := List.mem_filter.mpr ⟨List.mem_of_getElem? (i := 866) rfl, rfl⟩
set_option maxRecDepth 100000 in
theorem tCw_42 : tCw (yX3_variablesIn, mX3_variablesIn) := List.mem_filter.mpr ⟨List.mem_of_getElem? (i := 870) rfl, rfl⟩
set_option maxRecDepth 100000 in
theorem tCw_43 : tCw (yX3_variablesOf, mX3_variablesOf) := List.mem_filter.mpr ⟨List.mem_of_getElem? (i := 874) rfl, rfl⟩
set_option maxRecDepth 100000 in
theorem tCw_44 : tCw (yX4_init, mX4_init) := List.mem_filter.mpr ⟨List.mem_of_getElem? (i := 248) rfl, rfl⟩
set_option maxRecDepth 100000 in
theorem tCw_45 : tCw (yX4_load, mX4_load) := List.mem_filter.mpr ⟨List.mem_of_getElem? (i := 454) rfl, rfl⟩
set_option maxRecDepth 100000 in
theorem tCw_46 : tCw (yX4_fail, mX4_fail) := List.mem_filter.mpr ⟨List.mem_of_getElem? (i := 473) rfl, rfl⟩
set_option maxRecDepth 100000 in
theorem tCw_47 : tCw (yX4_byteAt, mX4_byteAt) := List.mem_filter.mpr ⟨List.mem_of_getElem? (i := 469) rfl, rfl⟩
set_option maxRecDepth 100000 in
theorem tCw_48 : tCw (yX4_look, mX4_look) := List.mem_filter.mpr ⟨List.mem_of_getElem? (i := 465) rfl, rfl⟩
set_option maxRecDepth 100000 in
theorem tCw_49 : tCw (yX4_isLetter, mX4_isLetter) := List.mem_filter.mpr ⟨List.mem_of_getElem? (i := 476) rfl, rfl⟩
