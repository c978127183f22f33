/-! THE PROGRAM'S TABLES, printed by program (wip/whole/tables.py) -/
def tN (t : Nat) : String := match t with
  | 0 => "FlowDesk$Bindings"
  | 1 => "FlowDesk$Flows"
  | 2 => "FlowDesk$Machine"
  | 3 => "FlowDesk$Program"
  | 4 => "FlowDesk$Reader"
  | 5 => "FlowDesk$Writer"
  | 6 => "FlowDesk"
  | 7 => "FlowDeskModel"
  | 8 => "FlowDeskLaw"
  | 9 => "java/lang/String"
  | 10 => "java/lang/StringLatin1"
  | 11 => "java/util/Arrays"
  | 12 => "java/lang/Math"
  | _ => "jdk/internal/util/Preconditions"
def mX0_init : mM := (0, cX0_init, 1, none, 1, true, 2)
def mX0_empty : mM := (0, cX0_empty, 1, none, 1, false, 2)
def mX0_bind : mM := (0, cX0_bind, 6, (some .int), 5, false, 2)
def mX0_find : mM := (0, cX0_find, 5, (some .int), 3, false, 2)
def mX0_functionAt : mM := (0, cX0_functionAt, 2, (some .int), 2, false, 2)
def mX0_numberAt : mM := (0, cX0_numberAt, 2, (some .long), 2, false, 2)
def mX0_roundOf : mM := (0, cX0_roundOf, 2, (some .int), 2, false, 2)
def mX1_init : mM := (1, cX1_init, 1, none, 1, true, 3)
def mX1_solve : mM := (1, cX1_solve, 4, none, 2, false, 3)
def mX1_reachesBit : mM := (1, cX1_reachesBit, 3, (some .int), 3, false, 3)
def mX1_pour : mM := (1, cX1_pour, 4, none, 3, false, 3)
def mX1_pourCall : mM := (1, cX1_pourCall, 7, none, 3, false, 3)
def mX1_ofPart : mM := (1, cX1_ofPart, 4, (some .long), 4, false, 3)
def mX1_intoExpr : mM := (1, cX1_intoExpr, 4, none, 3, false, 3)
def mX1_intoVariable : mM := (1, cX1_intoVariable, 4, none, 3, false, 3)
def mX1_findReached : mM := (1, cX1_findReached, 4, none, 2, false, 3)
def mX2_init : mM := (2, cX2_init, 1, none, 1, true, 4)
def mX2_forget : mM := (2, cX2_forget, 2, none, 1, false, 4)
def mX2_start : mM := (2, cX2_start, 4, none, 3, false, 4)
def mX2_end : mM := (2, cX2_end, 4, none, 3, false, 4)
def mX2_begin : mM := (2, cX2_begin, 2, none, 2, false, 4)
def mX2_come : mM := (2, cX2_come, 4, none, 3, false, 4)
def mX2_recall : mM := (2, cX2_recall, 4, none, 2, false, 4)
def mX2_await : mM := (2, cX2_await, 2, none, 2, false, 4)
def mX2_hand : mM := (2, cX2_hand, 4, none, 2, false, 4)
def mX2_choose : mM := (2, cX2_choose, 2, none, 2, false, 4)
def mX2_enter : mM := (2, cX2_enter, 6, none, 4, false, 4)
def mX2_reckon : mM := (2, cX2_reckon, 6, none, 5, false, 4)
def mX3_init : mM := (3, cX3_init, 1, none, 1, true, 5)
def mX3_add : mM := (3, cX3_add, 4, (some .int), 4, false, 5)
def mX3_addCopies : mM := (3, cX3_addCopies, 8, none, 5, false, 5)
def mX3_settle : mM := (3, cX3_settle, 3, none, 1, false, 5)
def mX3_numberVariables : mM := (3, cX3_numberVariables, 2, none, 2, false, 5)
def mX3_newVariable : mM := (3, cX3_newVariable, 3, (some .int), 3, false, 5)
def mX3_countMeeting : mM := (3, cX3_countMeeting, 2, none, 2, false, 5)
def mX3_countFree : mM := (3, cX3_countFree, 7, (some .int), 2, false, 5)
def mX3_numberFunction : mM := (3, cX3_numberFunction, 2, none, 2, false, 5)
def mX3_join : mM := (3, cX3_join, 4, none, 3, false, 5)
def mX3_openBehind : mM := (3, cX3_openBehind, 4, (some .int), 2, false, 5)
def mX3_part : mM := (3, cX3_part, 4, (some .int), 3, false, 5)
def mX3_endOf : mM := (3, cX3_endOf, 2, (some .int), 2, false, 5)
def mX3_functionsIn : mM := (3, cX3_functionsIn, 5, (some .int), 3, false, 5)
def mX3_variablesIn : mM := (3, cX3_variablesIn, 5, (some .int), 3, false, 5)
def mX3_variablesOf : mM := (3, cX3_variablesOf, 2, (some .int), 2, false, 5)
def mX4_init : mM := (4, cX4_init, 1, none, 1, true, 6)
def mX4_load : mM := (4, cX4_load, 6, (some .int), 4, false, 6)
def mX4_fail : mM := (4, cX4_fail, 2, none, 2, false, 6)
def mX4_byteAt : mM := (4, cX4_byteAt, 2, (some .int), 2, false, 6)
def mX4_look : mM := (4, cX4_look, 1, (some .int), 1, false, 6)
def mX4_isLetter : mM := (4, cX4_isLetter, 1, (some .boolean), 1, false, 6)
def mX4_isDigit : mM := (4, cX4_isDigit, 1, (some .boolean), 1, false, 6)
def mX4_takeExpr : mM := (4, cX4_takeExpr, 2, (some .boolean), 1, false, 6)
def mX4_takeMeaning : mM := (4, cX4_takeMeaning, 3, (some .boolean), 1, false, 6)
def mX4_meaningOf : mM := (4, cX4_meaningOf, 3, (some .int), 2, false, 6)
def mX4_takeNumber : mM := (4, cX4_takeNumber, 4, (some .boolean), 1, false, 6)
def mX4_takeLambda : mM := (4, cX4_takeLambda, 2, none, 1, false, 6)
def mX4_takeForm : mM := (4, cX4_takeForm, 5, none, 1, false, 6)
def mX4_nameLet : mM := (4, cX4_nameLet, 2, none, 2, false, 6)
def mX4_takeFormKind : mM := (4, cX4_takeFormKind, 4, (some .int), 1, false, 6)
def mX4_isWord : mM := (4, cX4_isWord, 5, (some .boolean), 3, false, 6)
def mX4_wordEnd : mM := (4, cX4_wordEnd, 2, (some .int), 1, false, 6)
def mX4_takeName : mM := (4, cX4_takeName, 4, (some .int), 1, false, 6)
def mX4_takeBinding : mM := (4, cX4_takeBinding, 1, (some .int), 1, false, 6)
def mX4_expect : mM := (4, cX4_expect, 2, none, 2, false, 6)
def mX4_open : mM := (4, cX4_open, 3, none, 2, false, 6)
def mX4_setVariable : mM := (4, cX4_setVariable, 3, none, 3, false, 6)
def mX4_bind : mM := (4, cX4_bind, 3, none, 3, false, 6)
def mX4_endExpr : mM := (4, cX4_endExpr, 3, none, 1, false, 6)
def mX4_bindLet : mM := (4, cX4_bindLet, 3, none, 3, false, 6)
def mX5_init : mM := (5, cX5_init, 1, none, 1, true, 7)
def mX5_put : mM := (5, cX5_put, 3, none, 2, false, 7)
def mX5_putByte : mM := (5, cX5_putByte, 2, none, 2, false, 7)
def mX5_putText : mM := (5, cX5_putText, 3, none, 2, false, 7)
def mX5_putNumber : mM := (5, cX5_putNumber, 4, none, 2, false, 7)
def mX5_putVariable : mM := (5, cX5_putVariable, 2, none, 2, false, 7)
def mX5_putBlank : mM := (5, cX5_putBlank, 6, none, 3, false, 7)
def mX5_putHead : mM := (5, cX5_putHead, 5, none, 3, false, 7)
def mX5_putEnds : mM := (5, cX5_putEnds, 5, none, 3, false, 7)
def mX6_init : mM := (6, cX6_init, 1, none, 1, true, 8)
def mX6_type : mM := (6, cX6_type, 5, (some .int), 3, false, 8)
def mX6_clear : mM := (6, cX6_clear, 2, (some .int), 1, false, 8)
def mX6_read : mM := (6, cX6_read, 2, (some .int), 1, false, 8)
def mX6_told : mM := (6, cX6_told, 2, (some .int), 2, false, 8)
def mX6_expr : mM := (6, cX6_expr, 3, (some .int), 3, false, 8)
def mX6_flow : mM := (6, cX6_flow, 2, (some .long), 2, false, 8)
def mX6_flows : mM := (6, cX6_flows, 2, (some .long), 2, false, 8)
def mX6_function : mM := (6, cX6_function, 4, (some .int), 3, false, 8)
def mX6_reaches : mM := (6, cX6_reaches, 3, (some .int), 3, false, 8)
def mX6_single : mM := (6, cX6_single, 2, (some .int), 2, false, 8)
def mX6_run : mM := (6, cX6_run, 2, (some .int), 2, false, 8)
def mX6_result : mM := (6, cX6_result, 1, (some .long), 1, false, 8)
def mX6_used : mM := (6, cX6_used, 2, (some .long), 2, false, 8)
def mX6_inline : mM := (6, cX6_inline, 5, (some .int), 2, false, 8)
def mX6_drop : mM := (6, cX6_drop, 2, (some .int), 2, false, 8)
def mX6_write : mM := (6, cX6_write, 1, (some .int), 1, false, 8)
def mX6_out : mM := (6, cX6_out, 7, (some .long), 2, false, 8)
def mX6_at : mM := (6, cX6_at, 2, (some .int), 2, false, 8)
def mX6_bitsAt : mM := (6, cX6_bitsAt, 2, (some .long), 2, false, 8)
def mX6_takeSpare : mM := (6, cX6_takeSpare, 2, none, 1, false, 8)
def mX6_isLabel : mM := (6, cX6_isLabel, 2, (some .boolean), 2, false, 8)
def mX6_isOfKind : mM := (6, cX6_isOfKind, 3, (some .boolean), 3, false, 8)
def mX6_isFunction : mM := (6, cX6_isFunction, 2, (some .boolean), 2, false, 8)
def mX6_operatorFlow : mM := (6, cX6_operatorFlow, 2, (some .long), 2, false, 8)
def mX6_onlyFunction : mM := (6, cX6_onlyFunction, 5, (some .int), 2, false, 8)
def mX6_isInlinable : mM := (6, cX6_isInlinable, 5, (some .boolean), 2, false, 8)
def mX6_isDroppable : mM := (6, cX6_isDroppable, 3, (some .boolean), 2, false, 8)
def mX6_hasRoom : mM := (6, cX6_hasRoom, 8, (some .boolean), 4, false, 8)
def mX6_countExprs : mM := (6, cX6_countExprs, 4, (some .int), 2, false, 8)
def mX6_isOfSort : mM := (6, cX6_isOfSort, 3, (some .boolean), 3, false, 8)
def mX6_countCallsInto : mM := (6, cX6_countCallsInto, 4, (some .int), 2, false, 8)
def mX7_init : mM := (7, cX7_init, 1, none, 1, true, 9)
def mX7_thrown : mM := (7, cX7_thrown, 1, (some .int), 1, false, 9)
def mX7_at : mM := (7, cX7_at, 4, (some .int), 4, false, 9)
def mX7_get : mM := (7, cX7_get, 3, (some .int), 3, false, 9)
def mX7_set : mM := (7, cX7_set, 5, none, 5, false, 9)
def mX7_begin : mM := (7, cX7_begin, 6, (some .int), 5, false, 9)
def mX7_peek : mM := (7, cX7_peek, 1, (some .int), 1, false, 9)
def mX7_peekBehind : mM := (7, cX7_peekBehind, 1, (some .int), 1, false, 9)
def mX7_blanks : mM := (7, cX7_blanks, 1, none, 1, false, 9)
def mX7_fail : mM := (7, cX7_fail, 2, (some .int), 2, false, 9)
def mX7_isLetter : mM := (7, cX7_isLetter, 1, (some .boolean), 1, false, 9)
def mX7_isDigit : mM := (7, cX7_isDigit, 1, (some .boolean), 1, false, 9)
def mX7_wordEnd : mM := (7, cX7_wordEnd, 2, (some .int), 1, false, 9)
def mX7_isWord : mM := (7, cX7_isWord, 4, (some .boolean), 2, false, 9)
def mX7_name : mM := (7, cX7_name, 6, (some .int), 1, false, 9)
def mX7_binding : mM := (7, cX7_binding, 3, (some .int), 1, false, 9)
def mX7_expression : mM := (7, cX7_expression, 7, (some .int), 2, false, 9)
def mX7_number : mM := (7, cX7_number, 5, (some .int), 2, false, 9)
def mX7_lambda : mM := (7, cX7_lambda, 7, (some .int), 3, false, 9)
def mX7_form : mM := (7, cX7_form, 11, (some .int), 3, false, 9)
def mX7_read : mM := (7, cX7_read, 4, (some .int), 1, false, 9)
def mX7_change : mM := (7, cX7_change, 5, none, 1, false, 9)
def mX7_joinExpr : mM := (7, cX7_joinExpr, 4, none, 3, false, 9)
def mX7_joinVariable : mM := (7, cX7_joinVariable, 4, none, 3, false, 9)
def mX7_findFlows : mM := (7, cX7_findFlows, 3, none, 1, false, 9)
def mX7_flowOf : mM := (7, cX7_flowOf, 6, none, 2, false, 9)
def mX7_isLabel : mM := (7, cX7_isLabel, 2, (some .boolean), 2, false, 9)
def mX7_isFunction : mM := (7, cX7_isFunction, 2, (some .boolean), 2, false, 9)
def mX7_countBits : mM := (7, cX7_countBits, 4, (some .int), 1, false, 9)
def mX7_isSingle : mM := (7, cX7_isSingle, 2, (some .boolean), 2, false, 9)
def mX7_only : mM := (7, cX7_only, 3, (some .int), 2, false, 9)
def mX7_isIn : mM := (7, cX7_isIn, 4, (some .boolean), 3, false, 9)
def mX7_freeOf : mM := (7, cX7_freeOf, 5, (some .int), 2, false, 9)
def mX7_canInline : mM := (7, cX7_canInline, 4, (some .boolean), 2, false, 9)
def mX7_canDrop : mM := (7, cX7_canDrop, 2, (some .boolean), 2, false, 9)
def mX7_told : mM := (7, cX7_told, 5, (some .int), 2, false, 9)
def mX7_expr : mM := (7, cX7_expr, 3, (some .int), 3, false, 9)
def mX7_flow : mM := (7, cX7_flow, 2, (some .long), 2, false, 9)
def mX7_flows : mM := (7, cX7_flows, 2, (some .long), 2, false, 9)
def mX7_function : mM := (7, cX7_function, 6, (some .int), 3, false, 9)
def mX7_reaches : mM := (7, cX7_reaches, 3, (some .int), 3, false, 9)
def mX7_single : mM := (7, cX7_single, 2, (some .int), 2, false, 9)
def mX7_chain : mM := (7, cX7_chain, 3, (some .int), 3, false, 9)
def mX7_push : mM := (7, cX7_push, 3, none, 3, false, 9)
def mX7_run : mM := (7, cX7_run, 3, (some .int), 2, false, 9)
def mX7_work : mM := (7, cX7_work, 5, none, 1, false, 9)
def mX7_goOn : mM := (7, cX7_goOn, 6, none, 1, false, 9)
def mX7_stuck : mM := (7, cX7_stuck, 2, none, 2, false, 9)
def mX7_call : mM := (7, cX7_call, 10, none, 3, false, 9)
def mX7_reckon : mM := (7, cX7_reckon, 6, none, 4, false, 9)
def mX7_result : mM := (7, cX7_result, 1, (some .long), 1, false, 9)
def mX7_used : mM := (7, cX7_used, 2, (some .long), 2, false, 9)
def mX7_copy : mM := (7, cX7_copy, 11, (some .int), 4, false, 9)
def mX7_fresh : mM := (7, cX7_fresh, 2, (some .int), 1, false, 9)
def mX7_binder : mM := (7, cX7_binder, 10, none, 4, false, 9)
def mX7_place : mM := (7, cX7_place, 11, (some .int), 3, false, 9)
def mX7_changed : mM := (7, cX7_changed, 4, (some .int), 2, false, 9)
def mX7_inline : mM := (7, cX7_inline, 2, (some .int), 2, false, 9)
def mX7_drop : mM := (7, cX7_drop, 2, (some .int), 2, false, 9)
def mX7_type : mM := (7, cX7_type, 5, (some .int), 3, false, 9)
def mX7_clear : mM := (7, cX7_clear, 2, (some .int), 1, false, 9)
def mX7_say : mM := (7, cX7_say, 2, none, 2, false, 9)
def mX7_sayNumber : mM := (7, cX7_sayNumber, 4, none, 2, false, 9)
def mX7_sayVariable : mM := (7, cX7_sayVariable, 2, none, 2, false, 9)
def mX7_sayExpr : mM := (7, cX7_sayExpr, 3, none, 2, false, 9)
def mX7_sayWord : mM := (7, cX7_sayWord, 3, none, 2, false, 9)
def mX7_sayForm : mM := (7, cX7_sayForm, 4, none, 3, false, 9)
def mX7_write : mM := (7, cX7_write, 2, (some .int), 1, false, 9)
def mX7_out : mM := (7, cX7_out, 7, (some .long), 2, false, 9)
def mJ0_length_8abf5 : mM := (9, cJ0_length_8abf5, 1, (some .int), 1, false, 0)
def mJ0_charAt_5068e : mM := (9, cJ0_charAt_5068e, 2, (some .char), 2, false, 0)
def mJ0_coder_7d493 : mM := (9, cJ0_coder_7d493, 1, (some .byte), 1, false, 0)
def mJ0_isLatin1_aae02 : mM := (9, cJ0_isLatin1_aae02, 1, (some .boolean), 1, false, 0)
def mJ0_substring_37a41 : mM := (9, cJ0_substring_37a41, 5, (some (.object "java/lang/String")), 3, false, 0)
def mJ0_checkBoundsBeginEnd_23922 : mM := (9, cJ0_checkBoundsBeginEnd_23922, 3, none, 3, false, 0)
def mJ0_init_031fb : mM := (9, cJ0_init_031fb, 3, none, 3, true, 0)
def mJ1_charAt_3b067 : mM := (10, cJ1_charAt_3b067, 2, (some .char), 2, false, 99)
def mJ1_newString_b4f7a : mM := (10, cJ1_newString_b4f7a, 3, (some (.object "java/lang/String")), 3, false, 99)
def mJ7_copyOfRange_39247 : mM := (11, cJ7_copyOfRange_39247, 3, (some (.array .byte)), 3, false, 99)
def mJ0_checkIndex_df160 : mM := (9, cJ0_checkIndex_df160, 2, none, 2, false, 0)
def mJ7_copyOfRangeByte_39247 : mM := (11, cJ7_copyOfRangeByte_39247, 5, (some (.array .byte)), 3, false, 99)
def mJ7_checkLength_df160 : mM := (11, cJ7_checkLength_df160, 2, none, 2, false, 99)
def mJ3_checkIndex_8e157 : mM := (13, cJ3_checkIndex_8e157, 3, (some .int), 3, false, 99)
def mJ3_checkFromToIndex_8c36e : mM := (13, cJ3_checkFromToIndex_8c36e, 4, (some .int), 4, false, 99)
def tMl : List mM := [mX0_init, mX0_empty, mX0_bind, mX0_find, mX0_functionAt, mX0_numberAt, mX0_roundOf, mX1_init, mX1_solve, mX1_reachesBit, mX1_pour, mX1_pourCall, mX1_ofPart, mX1_intoExpr, mX1_intoVariable, mX1_findReached, mX2_init, mX2_forget, mX2_start, mX2_end, mX2_begin, mX2_come, mX2_recall, mX2_await, mX2_hand, mX2_choose, mX2_enter, mX2_reckon, mX3_init, mX3_add, mX3_addCopies, mX3_settle, mX3_numberVariables, mX3_newVariable, mX3_countMeeting, mX3_countFree, mX3_numberFunction, mX3_join, mX3_openBehind, mX3_part, mX3_endOf, mX3_functionsIn, mX3_variablesIn, mX3_variablesOf, mX4_init, mX4_load, mX4_fail, mX4_byteAt, mX4_look, mX4_isLetter, mX4_isDigit, mX4_takeExpr, mX4_takeMeaning, mX4_meaningOf, mX4_takeNumber, mX4_takeLambda, mX4_takeForm, mX4_nameLet, mX4_takeFormKind, mX4_isWord, mX4_wordEnd, mX4_takeName, mX4_takeBinding, mX4_expect, mX4_open, mX4_setVariable, mX4_bind, mX4_endExpr, mX4_bindLet, mX5_init, mX5_put, mX5_putByte, mX5_putText, mX5_putNumber, mX5_putVariable, mX5_putBlank, mX5_putHead, mX5_putEnds, mX6_init, mX6_type, mX6_clear, mX6_read, mX6_told, mX6_expr, mX6_flow, mX6_flows, mX6_function, mX6_reaches, mX6_single, mX6_run, mX6_result, mX6_used, mX6_inline, mX6_drop, mX6_write, mX6_out, mX6_at, mX6_bitsAt, mX6_takeSpare, mX6_isLabel, mX6_isOfKind, mX6_isFunction, mX6_operatorFlow, mX6_onlyFunction, mX6_isInlinable, mX6_isDroppable, mX6_hasRoom, mX6_countExprs, mX6_isOfSort, mX6_countCallsInto, mX7_init, mX7_thrown, mX7_at, mX7_get, mX7_set, mX7_begin, mX7_peek, mX7_peekBehind, mX7_blanks, mX7_fail, mX7_isLetter, mX7_isDigit, mX7_wordEnd, mX7_isWord, mX7_name, mX7_binding, mX7_expression, mX7_number, mX7_lambda, mX7_form, mX7_read, mX7_change, mX7_joinExpr, mX7_joinVariable, mX7_findFlows, mX7_flowOf, mX7_isLabel, mX7_isFunction, mX7_countBits, mX7_isSingle, mX7_only, mX7_isIn, mX7_freeOf, mX7_canInline, mX7_canDrop, mX7_told, mX7_expr, mX7_flow, mX7_flows, mX7_function, mX7_reaches, mX7_single, mX7_chain, mX7_push, mX7_run, mX7_work, mX7_goOn, mX7_stuck, mX7_call, mX7_reckon, mX7_result, mX7_used, mX7_copy, mX7_fresh, mX7_binder, mX7_place, mX7_changed, mX7_inline, mX7_drop, mX7_type, mX7_clear, mX7_say, mX7_sayNumber, mX7_sayVariable, mX7_sayExpr, mX7_sayWord, mX7_sayForm, mX7_write, mX7_out, mJ0_length_8abf5, mJ0_charAt_5068e, mJ0_coder_7d493, mJ0_isLatin1_aae02, mJ0_substring_37a41, mJ0_checkBoundsBeginEnd_23922, mJ0_init_031fb, mJ1_charAt_3b067, mJ1_newString_b4f7a, mJ7_copyOfRange_39247, mJ0_checkIndex_df160, mJ7_copyOfRangeByte_39247, mJ7_checkLength_df160, mJ3_checkIndex_8e157, mJ3_checkFromToIndex_8c36e]
def tM (q : Nat) : Option mM := tMl[q]?
def tYl : List MethodName := [yX0_init, yX0_empty, yX0_bind, yX0_find, yX0_functionAt, yX0_numberAt, yX0_roundOf, yX1_init, yX1_solve, yX1_reachesBit, yX1_pour, yX1_pourCall, yX1_ofPart, yX1_intoExpr, yX1_intoVariable, yX1_findReached, yX2_init, yX2_forget, yX2_start, yX2_end, yX2_begin, yX2_come, yX2_recall, yX2_await, yX2_hand, yX2_choose, yX2_enter, yX2_reckon, yX3_init, yX3_add, yX3_addCopies, yX3_settle, yX3_numberVariables, yX3_newVariable, yX3_countMeeting, yX3_countFree, yX3_numberFunction, yX3_join, yX3_openBehind, yX3_part, yX3_endOf, yX3_functionsIn, yX3_variablesIn, yX3_variablesOf, yX4_init, yX4_load, yX4_fail, yX4_byteAt, yX4_look, yX4_isLetter, yX4_isDigit, yX4_takeExpr, yX4_takeMeaning, yX4_meaningOf, yX4_takeNumber, yX4_takeLambda, yX4_takeForm, yX4_nameLet, yX4_takeFormKind, yX4_isWord, yX4_wordEnd, yX4_takeName, yX4_takeBinding, yX4_expect, yX4_open, yX4_setVariable, yX4_bind, yX4_endExpr, yX4_bindLet, yX5_init, yX5_put, yX5_putByte, yX5_putText, yX5_putNumber, yX5_putVariable, yX5_putBlank, yX5_putHead, yX5_putEnds, yX6_init, yX6_type, yX6_clear, yX6_read, yX6_told, yX6_expr, yX6_flow, yX6_flows, yX6_function, yX6_reaches, yX6_single, yX6_run, yX6_result, yX6_used, yX6_inline, yX6_drop, yX6_write, yX6_out, yX6_at, yX6_bitsAt, yX6_takeSpare, yX6_isLabel, yX6_isOfKind, yX6_isFunction, yX6_operatorFlow, yX6_onlyFunction, yX6_isInlinable, yX6_isDroppable, yX6_hasRoom, yX6_countExprs, yX6_isOfSort, yX6_countCallsInto, yX7_init, yX7_thrown, yX7_at, yX7_get, yX7_set, yX7_begin, yX7_peek, yX7_peekBehind, yX7_blanks, yX7_fail, yX7_isLetter, yX7_isDigit, yX7_wordEnd, yX7_isWord, yX7_name, yX7_binding, yX7_expression, yX7_number, yX7_lambda, yX7_form, yX7_read, yX7_change, yX7_joinExpr, yX7_joinVariable, yX7_findFlows, yX7_flowOf, yX7_isLabel, yX7_isFunction, yX7_countBits, yX7_isSingle, yX7_only, yX7_isIn, yX7_freeOf, yX7_canInline, yX7_canDrop, yX7_told, yX7_expr, yX7_flow, yX7_flows, yX7_function, yX7_reaches, yX7_single, yX7_chain, yX7_push, yX7_run, yX7_work, yX7_goOn, yX7_stuck, yX7_call, yX7_reckon, yX7_result, yX7_used, yX7_copy, yX7_fresh, yX7_binder, yX7_place, yX7_changed, yX7_inline, yX7_drop, yX7_type, yX7_clear, yX7_say, yX7_sayNumber, yX7_sayVariable, yX7_sayExpr, yX7_sayWord, yX7_sayForm, yX7_write, yX7_out, yJ0_length_8abf5, yJ0_charAt_5068e, yJ0_coder_7d493, yJ0_isLatin1_aae02, yJ0_substring_37a41, yJ0_checkBoundsBeginEnd_23922, yJ0_init_031fb, yJ1_charAt_3b067, yJ1_newString_b4f7a, yJ7_copyOfRange_39247, yJ0_checkIndex_df160, yJ7_copyOfRangeByte_39247, yJ7_checkLength_df160, yJ3_checkIndex_8e157, yJ3_checkFromToIndex_8c36e]
def tY (q : Nat) : MethodName := tYl.getD q yL_law
theorem tM_0 : tM 0 = some mX0_init := rfl
theorem tM_1 : tM 1 = some mX0_empty := rfl
theorem tM_2 : tM 2 = some mX0_bind := rfl
theorem tM_3 : tM 3 = some mX0_find := rfl
theorem tM_4 : tM 4 = some mX0_functionAt := rfl
theorem tM_5 : tM 5 = some mX0_numberAt := rfl
theorem tM_6 : tM 6 = some mX0_roundOf := rfl
theorem tM_7 : tM 7 = some mX1_init := rfl
theorem tM_8 : tM 8 = some mX1_solve := rfl
theorem tM_9 : tM 9 = some mX1_reachesBit := rfl
theorem tM_10 : tM 10 = some mX1_pour := rfl
theorem tM_11 : tM 11 = some mX1_pourCall := rfl
theorem tM_12 : tM 12 = some mX1_ofPart := rfl
theorem tM_13 : tM 13 = some mX1_intoExpr := rfl
theorem tM_14 : tM 14 = some mX1_intoVariable := rfl
theorem tM_15 : tM 15 = some mX1_findReached := rfl
theorem tM_16 : tM 16 = some mX2_init := rfl
theorem tM_17 : tM 17 = some mX2_forget := rfl
theorem tM_18 : tM 18 = some mX2_start := rfl
theorem tM_19 : tM 19 = some mX2_end := rfl
theorem tM_20 : tM 20 = some mX2_begin := rfl
theorem tM_21 : tM 21 = some mX2_come := rfl
theorem tM_22 : tM 22 = some mX2_recall := rfl
theorem tM_23 : tM 23 = some mX2_await := rfl
theorem tM_24 : tM 24 = some mX2_hand := rfl
theorem tM_25 : tM 25 = some mX2_choose := rfl
theorem tM_26 : tM 26 = some mX2_enter := rfl
theorem tM_27 : tM 27 = some mX2_reckon := rfl
theorem tM_28 : tM 28 = some mX3_init := rfl
theorem tM_29 : tM 29 = some mX3_add := rfl
theorem tM_30 : tM 30 = some mX3_addCopies := rfl
theorem tM_31 : tM 31 = some mX3_settle := rfl
theorem tM_32 : tM 32 = some mX3_numberVariables := rfl
theorem tM_33 : tM 33 = some mX3_newVariable := rfl
theorem tM_34 : tM 34 = some mX3_countMeeting := rfl
theorem tM_35 : tM 35 = some mX3_countFree := rfl
theorem tM_36 : tM 36 = some mX3_numberFunction := rfl
theorem tM_37 : tM 37 = some mX3_join := rfl
theorem tM_38 : tM 38 = some mX3_openBehind := rfl
theorem tM_39 : tM 39 = some mX3_part := rfl
theorem tM_40 : tM 40 = some mX3_endOf := rfl
theorem tM_41 : tM 41 = some mX3_functionsIn := rfl
theorem tM_42 : tM 42 = some mX3_variablesIn := rfl
theorem tM_43 : tM 43 = some mX3_variablesOf := rfl
theorem tM_44 : tM 44 = some mX4_init := rfl
theorem tM_45 : tM 45 = some mX4_load := rfl
theorem tM_46 : tM 46 = some mX4_fail := rfl
theorem tM_47 : tM 47 = some mX4_byteAt := rfl
theorem tM_48 : tM 48 = some mX4_look := rfl
theorem tM_49 : tM 49 = some mX4_isLetter := rfl
theorem tM_50 : tM 50 = some mX4_isDigit := rfl
theorem tM_51 : tM 51 = some mX4_takeExpr := rfl
theorem tM_52 : tM 52 = some mX4_takeMeaning := rfl
theorem tM_53 : tM 53 = some mX4_meaningOf := rfl
theorem tM_54 : tM 54 = some mX4_takeNumber := rfl
theorem tM_55 : tM 55 = some mX4_takeLambda := rfl
theorem tM_56 : tM 56 = some mX4_takeForm := rfl
theorem tM_57 : tM 57 = some mX4_nameLet := rfl
theorem tM_58 : tM 58 = some mX4_takeFormKind := rfl
theorem tM_59 : tM 59 = some mX4_isWord := rfl
theorem tM_60 : tM 60 = some mX4_wordEnd := rfl
theorem tM_61 : tM 61 = some mX4_takeName := rfl
theorem tM_62 : tM 62 = some mX4_takeBinding := rfl
theorem tM_63 : tM 63 = some mX4_expect := rfl
theorem tM_64 : tM 64 = some mX4_open := rfl
theorem tM_65 : tM 65 = some mX4_setVariable := rfl
theorem tM_66 : tM 66 = some mX4_bind := rfl
theorem tM_67 : tM 67 = some mX4_endExpr := rfl
theorem tM_68 : tM 68 = some mX4_bindLet := rfl
theorem tM_69 : tM 69 = some mX5_init := rfl
theorem tM_70 : tM 70 = some mX5_put := rfl
theorem tM_71 : tM 71 = some mX5_putByte := rfl
theorem tM_72 : tM 72 = some mX5_putText := rfl
theorem tM_73 : tM 73 = some mX5_putNumber := rfl
theorem tM_74 : tM 74 = some mX5_putVariable := rfl
theorem tM_75 : tM 75 = some mX5_putBlank := rfl
theorem tM_76 : tM 76 = some mX5_putHead := rfl
theorem tM_77 : tM 77 = some mX5_putEnds := rfl
theorem tM_78 : tM 78 = some mX6_init := rfl
theorem tM_79 : tM 79 = some mX6_type := rfl
theorem tM_80 : tM 80 = some mX6_clear := rfl
theorem tM_81 : tM 81 = some mX6_read := rfl
theorem tM_82 : tM 82 = some mX6_told := rfl
theorem tM_83 : tM 83 = some mX6_expr := rfl
theorem tM_84 : tM 84 = some mX6_flow := rfl
theorem tM_85 : tM 85 = some mX6_flows := rfl
theorem tM_86 : tM 86 = some mX6_function := rfl
theorem tM_87 : tM 87 = some mX6_reaches := rfl
theorem tM_88 : tM 88 = some mX6_single := rfl
theorem tM_89 : tM 89 = some mX6_run := rfl
theorem tM_90 : tM 90 = some mX6_result := rfl
theorem tM_91 : tM 91 = some mX6_used := rfl
theorem tM_92 : tM 92 = some mX6_inline := rfl
theorem tM_93 : tM 93 = some mX6_drop := rfl
theorem tM_94 : tM 94 = some mX6_write := rfl
theorem tM_95 : tM 95 = some mX6_out := rfl
theorem tM_96 : tM 96 = some mX6_at := rfl
theorem tM_97 : tM 97 = some mX6_bitsAt := rfl
theorem tM_98 : tM 98 = some mX6_takeSpare := rfl
theorem tM_99 : tM 99 = some mX6_isLabel := rfl
theorem tM_100 : tM 100 = some mX6_isOfKind := rfl
theorem tM_101 : tM 101 = some mX6_isFunction := rfl
theorem tM_102 : tM 102 = some mX6_operatorFlow := rfl
theorem tM_103 : tM 103 = some mX6_onlyFunction := rfl
theorem tM_104 : tM 104 = some mX6_isInlinable := rfl
theorem tM_105 : tM 105 = some mX6_isDroppable := rfl
theorem tM_106 : tM 106 = some mX6_hasRoom := rfl
theorem tM_107 : tM 107 = some mX6_countExprs := rfl
theorem tM_108 : tM 108 = some mX6_isOfSort := rfl
theorem tM_109 : tM 109 = some mX6_countCallsInto := rfl
theorem tM_110 : tM 110 = some mX7_init := rfl
theorem tM_111 : tM 111 = some mX7_thrown := rfl
theorem tM_112 : tM 112 = some mX7_at := rfl
theorem tM_113 : tM 113 = some mX7_get := rfl
theorem tM_114 : tM 114 = some mX7_set := rfl
theorem tM_115 : tM 115 = some mX7_begin := rfl
theorem tM_116 : tM 116 = some mX7_peek := rfl
theorem tM_117 : tM 117 = some mX7_peekBehind := rfl
theorem tM_118 : tM 118 = some mX7_blanks := rfl
theorem tM_119 : tM 119 = some mX7_fail := rfl
theorem tM_120 : tM 120 = some mX7_isLetter := rfl
theorem tM_121 : tM 121 = some mX7_isDigit := rfl
theorem tM_122 : tM 122 = some mX7_wordEnd := rfl
theorem tM_123 : tM 123 = some mX7_isWord := rfl
theorem tM_124 : tM 124 = some mX7_name := rfl
theorem tM_125 : tM 125 = some mX7_binding := rfl
theorem tM_126 : tM 126 = some mX7_expression := rfl
theorem tM_127 : tM 127 = some mX7_number := rfl
theorem tM_128 : tM 128 = some mX7_lambda := rfl
theorem tM_129 : tM 129 = some mX7_form := rfl
theorem tM_130 : tM 130 = some mX7_read := rfl
theorem tM_131 : tM 131 = some mX7_change := rfl
theorem tM_132 : tM 132 = some mX7_joinExpr := rfl
theorem tM_133 : tM 133 = some mX7_joinVariable := rfl
theorem tM_134 : tM 134 = some mX7_findFlows := rfl
theorem tM_135 : tM 135 = some mX7_flowOf := rfl
theorem tM_136 : tM 136 = some mX7_isLabel := rfl
theorem tM_137 : tM 137 = some mX7_isFunction := rfl
theorem tM_138 : tM 138 = some mX7_countBits := rfl
theorem tM_139 : tM 139 = some mX7_isSingle := rfl
theorem tM_140 : tM 140 = some mX7_only := rfl
theorem tM_141 : tM 141 = some mX7_isIn := rfl
theorem tM_142 : tM 142 = some mX7_freeOf := rfl
theorem tM_143 : tM 143 = some mX7_canInline := rfl
theorem tM_144 : tM 144 = some mX7_canDrop := rfl
theorem tM_145 : tM 145 = some mX7_told := rfl
theorem tM_146 : tM 146 = some mX7_expr := rfl
theorem tM_147 : tM 147 = some mX7_flow := rfl
theorem tM_148 : tM 148 = some mX7_flows := rfl
theorem tM_149 : tM 149 = some mX7_function := rfl
theorem tM_150 : tM 150 = some mX7_reaches := rfl
theorem tM_151 : tM 151 = some mX7_single := rfl
theorem tM_152 : tM 152 = some mX7_chain := rfl
theorem tM_153 : tM 153 = some mX7_push := rfl
theorem tM_154 : tM 154 = some mX7_run := rfl
theorem tM_155 : tM 155 = some mX7_work := rfl
theorem tM_156 : tM 156 = some mX7_goOn := rfl
theorem tM_157 : tM 157 = some mX7_stuck := rfl
theorem tM_158 : tM 158 = some mX7_call := rfl
theorem tM_159 : tM 159 = some mX7_reckon := rfl
theorem tM_160 : tM 160 = some mX7_result := rfl
theorem tM_161 : tM 161 = some mX7_used := rfl
theorem tM_162 : tM 162 = some mX7_copy := rfl
theorem tM_163 : tM 163 = some mX7_fresh := rfl
theorem tM_164 : tM 164 = some mX7_binder := rfl
theorem tM_165 : tM 165 = some mX7_place := rfl
theorem tM_166 : tM 166 = some mX7_changed := rfl
theorem tM_167 : tM 167 = some mX7_inline := rfl
theorem tM_168 : tM 168 = some mX7_drop := rfl
theorem tM_169 : tM 169 = some mX7_type := rfl
theorem tM_170 : tM 170 = some mX7_clear := rfl
theorem tM_171 : tM 171 = some mX7_say := rfl
theorem tM_172 : tM 172 = some mX7_sayNumber := rfl
theorem tM_173 : tM 173 = some mX7_sayVariable := rfl
theorem tM_174 : tM 174 = some mX7_sayExpr := rfl
theorem tM_175 : tM 175 = some mX7_sayWord := rfl
theorem tM_176 : tM 176 = some mX7_sayForm := rfl
theorem tM_177 : tM 177 = some mX7_write := rfl
theorem tM_178 : tM 178 = some mX7_out := rfl
theorem tM_179 : tM 179 = some mJ0_length_8abf5 := rfl
theorem tM_180 : tM 180 = some mJ0_charAt_5068e := rfl
theorem tM_181 : tM 181 = some mJ0_coder_7d493 := rfl
theorem tM_182 : tM 182 = some mJ0_isLatin1_aae02 := rfl
theorem tM_183 : tM 183 = some mJ0_substring_37a41 := rfl
theorem tM_184 : tM 184 = some mJ0_checkBoundsBeginEnd_23922 := rfl
theorem tM_185 : tM 185 = some mJ0_init_031fb := rfl
theorem tM_186 : tM 186 = some mJ1_charAt_3b067 := rfl
theorem tM_187 : tM 187 = some mJ1_newString_b4f7a := rfl
theorem tM_188 : tM 188 = some mJ7_copyOfRange_39247 := rfl
theorem tM_189 : tM 189 = some mJ0_checkIndex_df160 := rfl
theorem tM_190 : tM 190 = some mJ7_copyOfRangeByte_39247 := rfl
theorem tM_191 : tM 191 = some mJ7_checkLength_df160 := rfl
theorem tM_192 : tM 192 = some mJ3_checkIndex_8e157 := rfl
theorem tM_193 : tM 193 = some mJ3_checkFromToIndex_8c36e := rfl
def tFl : List (Nat × Nat × Nat × Nat × Nat) := [(3, 59, 5, 0, 152), (5, 19, 5, 0, 153), (4, 54, 5, 0, 154), (1, 25, 5, 0, 155), (6, 74, 5, 0, 156), (3, 77, 5, 1, 157), (1, 74, 5, 1, 158), (6, 77, 5, 1, 159), (3, 80, 5, 2, 160), (6, 80, 5, 2, 161), (3, 9, 5, 3, 162), (1, 51, 5, 3, 163), (2, 95, 5, 3, 164), (6, 94, 5, 3, 165), (5, 65, 5, 3, 166), (4, 182, 5, 3, 167), (3, 15, 5, 4, 168), (1, 43, 5, 4, 169), (2, 104, 5, 4, 170), (6, 98, 5, 4, 171), (5, 72, 5, 4, 172), (4, 173, 5, 4, 173), (3, 18, 5, 5, 174), (1, 61, 5, 5, 175), (2, 121, 5, 5, 176), (5, 84, 5, 5, 177), (6, 131, 5, 5, 178), (4, 176, 5, 5, 179), (3, 21, 5, 6, 180), (6, 101, 5, 6, 181), (5, 57, 5, 6, 182), (3, 24, 5, 7, 183), (1, 58, 5, 7, 184), (2, 113, 5, 7, 185), (6, 108, 5, 7, 186), (3, 27, 5, 8, 187), (6, 111, 5, 8, 188), (1, 86, 5, 8, 189), (3, 30, 5, 9, 190), (1, 77, 5, 9, 191), (6, 124, 5, 9, 192), (2, 156, 5, 9, 193), (3, 33, 5, 10, 194), (2, 118, 5, 10, 195), (3, 36, 5, 11, 196), (6, 218, 5, 11, 197), (3, 39, 5, 12, 198), (6, 134, 5, 12, 199), (3, 42, 5, 13, 200), (3, 47, 5, 14, 201), (3, 50, 5, 15, 202), (3, 53, 5, 16, 203), (3, 56, 5, 17, 204), (4, 30, 6, 0, 250), (4, 40, 6, 1, 251), (4, 44, 6, 2, 252), (4, 47, 6, 3, 253), (4, 50, 6, 4, 254), (4, 59, 6, 5, 255), (4, 62, 6, 6, 256), (4, 9, 6, 7, 257), (4, 15, 6, 8, 258), (4, 65, 6, 9, 259), (4, 18, 6, 10, 260), (4, 21, 6, 11, 261), (4, 24, 6, 12, 262), (4, 27, 6, 13, 263), (4, 68, 6, 14, 264), (1, 9, 3, 0, 302), (6, 114, 3, 0, 303), (1, 15, 3, 1, 304), (6, 118, 3, 1, 305), (1, 18, 3, 2, 306), (1, 21, 3, 3, 307), (0, 11, 2, 0, 330), (0, 15, 2, 1, 331), (0, 18, 2, 2, 332), (0, 22, 2, 3, 333), (0, 25, 2, 4, 334), (2, 39, 4, 0, 346), (6, 87, 4, 0, 347), (2, 63, 4, 1, 348), (6, 154, 4, 1, 349), (2, 43, 4, 2, 350), (6, 157, 4, 2, 351), (2, 9, 4, 3, 352), (6, 161, 4, 3, 353), (2, 50, 4, 4, 354), (2, 60, 4, 5, 355), (2, 18, 4, 6, 356), (2, 22, 4, 7, 357), (2, 26, 4, 8, 358), (2, 29, 4, 9, 359), (2, 33, 4, 10, 360), (2, 36, 4, 11, 361), (2, 69, 4, 12, 362), (2, 72, 4, 13, 363), (2, 75, 4, 14, 364), (2, 85, 4, 15, 365), (2, 88, 4, 16, 366), (5, 9, 7, 0, 409), (6, 190, 7, 0, 410), (5, 15, 7, 1, 411), (6, 189, 7, 1, 412), (6, 9, 8, 0, 418), (6, 58, 8, 1, 419), (6, 16, 8, 2, 420), (6, 20, 8, 3, 421), (6, 26, 8, 4, 422), (6, 33, 8, 5, 423), (6, 40, 8, 6, 424), (6, 47, 8, 7, 425), (7, 97, 9, 0, 1039), (7, 7, 9, 1, 1040), (7, 115, 9, 2, 1041), (7, 101, 9, 3, 1042), (7, 203, 9, 4, 1043), (7, 13, 9, 5, 1044), (7, 17, 9, 6, 1045), (7, 20, 9, 7, 1046), (7, 216, 9, 8, 1047), (7, 23, 9, 9, 1048), (7, 26, 9, 10, 1049), (7, 29, 9, 11, 1050), (7, 32, 9, 12, 1051), (7, 35, 9, 13, 1052), (7, 39, 9, 14, 1053), (7, 42, 9, 15, 1054), (7, 206, 9, 16, 1055), (7, 209, 9, 17, 1056), (7, 212, 9, 18, 1057), (7, 45, 9, 19, 1058), (7, 112, 9, 20, 1059), (7, 126, 9, 21, 1060), (7, 122, 9, 22, 1061), (7, 168, 9, 23, 1062), (7, 178, 9, 24, 1063), (7, 48, 9, 25, 1064), (7, 51, 9, 26, 1065), (7, 158, 9, 27, 1066), (7, 225, 9, 28, 1067), (7, 54, 9, 29, 1068), (7, 58, 9, 30, 1069), (7, 61, 9, 31, 1070), (7, 64, 9, 32, 1071), (7, 67, 9, 33, 1072), (7, 70, 9, 34, 1073), (7, 73, 9, 35, 1074), (7, 280, 9, 36, 1075), (7, 76, 9, 37, 1076), (7, 79, 9, 38, 1077), (7, 82, 9, 39, 1078), (7, 85, 9, 40, 1079), (7, 88, 9, 41, 1080), (7, 268, 9, 42, 1081), (7, 271, 9, 43, 1082), (7, 274, 9, 44, 1083), (7, 277, 9, 45, 1084), (7, 283, 9, 46, 1085), (7, 91, 9, 47, 1086), (7, 317, 9, 48, 1087), (7, 309, 9, 49, 1088), (7, 94, 9, 50, 1089), (7, 329, 9, 51, 1090), (9, 9, 0, 0, 1680), (9, 15, 0, 1, 1681)]
def tF (t i : Nat) : Option (Nat × Nat) := (tFl.find? (fun e => e.1 == t && e.2.1 == i)).map (fun e => (e.2.2.1, e.2.2.2.1))
theorem tF_3_59 : tF 3 59 = some (5, 0) := by decide +kernel
theorem tF_5_19 : tF 5 19 = some (5, 0) := by decide +kernel
theorem tF_4_54 : tF 4 54 = some (5, 0) := by decide +kernel
theorem tF_1_25 : tF 1 25 = some (5, 0) := by decide +kernel
theorem tF_6_74 : tF 6 74 = some (5, 0) := by decide +kernel
theorem tF_3_77 : tF 3 77 = some (5, 1) := by decide +kernel
theorem tF_1_74 : tF 1 74 = some (5, 1) := by decide +kernel
theorem tF_6_77 : tF 6 77 = some (5, 1) := by decide +kernel
theorem tF_3_80 : tF 3 80 = some (5, 2) := by decide +kernel
theorem tF_6_80 : tF 6 80 = some (5, 2) := by decide +kernel
theorem tF_3_9 : tF 3 9 = some (5, 3) := by decide +kernel
theorem tF_1_51 : tF 1 51 = some (5, 3) := by decide +kernel
theorem tF_2_95 : tF 2 95 = some (5, 3) := by decide +kernel
theorem tF_6_94 : tF 6 94 = some (5, 3) := by decide +kernel
theorem tF_5_65 : tF 5 65 = some (5, 3) := by decide +kernel
theorem tF_4_182 : tF 4 182 = some (5, 3) := by decide +kernel
theorem tF_3_15 : tF 3 15 = some (5, 4) := by decide +kernel
theorem tF_1_43 : tF 1 43 = some (5, 4) := by decide +kernel
theorem tF_2_104 : tF 2 104 = some (5, 4) := by decide +kernel
theorem tF_6_98 : tF 6 98 = some (5, 4) := by decide +kernel
theorem tF_5_72 : tF 5 72 = some (5, 4) := by decide +kernel
theorem tF_4_173 : tF 4 173 = some (5, 4) := by decide +kernel
theorem tF_3_18 : tF 3 18 = some (5, 5) := by decide +kernel
theorem tF_1_61 : tF 1 61 = some (5, 5) := by decide +kernel
theorem tF_2_121 : tF 2 121 = some (5, 5) := by decide +kernel
theorem tF_5_84 : tF 5 84 = some (5, 5) := by decide +kernel
theorem tF_6_131 : tF 6 131 = some (5, 5) := by decide +kernel
theorem tF_4_176 : tF 4 176 = some (5, 5) := by decide +kernel
theorem tF_3_21 : tF 3 21 = some (5, 6) := by decide +kernel
theorem tF_6_101 : tF 6 101 = some (5, 6) := by decide +kernel
theorem tF_5_57 : tF 5 57 = some (5, 6) := by decide +kernel
theorem tF_3_24 : tF 3 24 = some (5, 7) := by decide +kernel
theorem tF_1_58 : tF 1 58 = some (5, 7) := by decide +kernel
theorem tF_2_113 : tF 2 113 = some (5, 7) := by decide +kernel
theorem tF_6_108 : tF 6 108 = some (5, 7) := by decide +kernel
theorem tF_3_27 : tF 3 27 = some (5, 8) := by decide +kernel
theorem tF_6_111 : tF 6 111 = some (5, 8) := by decide +kernel
theorem tF_1_86 : tF 1 86 = some (5, 8) := by decide +kernel
theorem tF_3_30 : tF 3 30 = some (5, 9) := by decide +kernel
theorem tF_1_77 : tF 1 77 = some (5, 9) := by decide +kernel
theorem tF_6_124 : tF 6 124 = some (5, 9) := by decide +kernel
theorem tF_2_156 : tF 2 156 = some (5, 9) := by decide +kernel
theorem tF_3_33 : tF 3 33 = some (5, 10) := by decide +kernel
theorem tF_2_118 : tF 2 118 = some (5, 10) := by decide +kernel
theorem tF_3_36 : tF 3 36 = some (5, 11) := by decide +kernel
theorem tF_6_218 : tF 6 218 = some (5, 11) := by decide +kernel
theorem tF_3_39 : tF 3 39 = some (5, 12) := by decide +kernel
theorem tF_6_134 : tF 6 134 = some (5, 12) := by decide +kernel
theorem tF_3_42 : tF 3 42 = some (5, 13) := by decide +kernel
theorem tF_3_47 : tF 3 47 = some (5, 14) := by decide +kernel
theorem tF_3_50 : tF 3 50 = some (5, 15) := by decide +kernel
theorem tF_3_53 : tF 3 53 = some (5, 16) := by decide +kernel
theorem tF_3_56 : tF 3 56 = some (5, 17) := by decide +kernel
theorem tF_4_30 : tF 4 30 = some (6, 0) := by decide +kernel
theorem tF_4_40 : tF 4 40 = some (6, 1) := by decide +kernel
theorem tF_4_44 : tF 4 44 = some (6, 2) := by decide +kernel
theorem tF_4_47 : tF 4 47 = some (6, 3) := by decide +kernel
theorem tF_4_50 : tF 4 50 = some (6, 4) := by decide +kernel
theorem tF_4_59 : tF 4 59 = some (6, 5) := by decide +kernel
theorem tF_4_62 : tF 4 62 = some (6, 6) := by decide +kernel
theorem tF_4_9 : tF 4 9 = some (6, 7) := by decide +kernel
theorem tF_4_15 : tF 4 15 = some (6, 8) := by decide +kernel
theorem tF_4_65 : tF 4 65 = some (6, 9) := by decide +kernel
theorem tF_4_18 : tF 4 18 = some (6, 10) := by decide +kernel
theorem tF_4_21 : tF 4 21 = some (6, 11) := by decide +kernel
theorem tF_4_24 : tF 4 24 = some (6, 12) := by decide +kernel
theorem tF_4_27 : tF 4 27 = some (6, 13) := by decide +kernel
theorem tF_4_68 : tF 4 68 = some (6, 14) := by decide +kernel
theorem tF_1_9 : tF 1 9 = some (3, 0) := by decide +kernel
theorem tF_6_114 : tF 6 114 = some (3, 0) := by decide +kernel
theorem tF_1_15 : tF 1 15 = some (3, 1) := by decide +kernel
theorem tF_6_118 : tF 6 118 = some (3, 1) := by decide +kernel
theorem tF_1_18 : tF 1 18 = some (3, 2) := by decide +kernel
theorem tF_1_21 : tF 1 21 = some (3, 3) := by decide +kernel
theorem tF_0_11 : tF 0 11 = some (2, 0) := by decide +kernel
theorem tF_0_15 : tF 0 15 = some (2, 1) := by decide +kernel
theorem tF_0_18 : tF 0 18 = some (2, 2) := by decide +kernel
theorem tF_0_22 : tF 0 22 = some (2, 3) := by decide +kernel
theorem tF_0_25 : tF 0 25 = some (2, 4) := by decide +kernel
theorem tF_2_39 : tF 2 39 = some (4, 0) := by decide +kernel
theorem tF_6_87 : tF 6 87 = some (4, 0) := by decide +kernel
theorem tF_2_63 : tF 2 63 = some (4, 1) := by decide +kernel
theorem tF_6_154 : tF 6 154 = some (4, 1) := by decide +kernel
theorem tF_2_43 : tF 2 43 = some (4, 2) := by decide +kernel
theorem tF_6_157 : tF 6 157 = some (4, 2) := by decide +kernel
theorem tF_2_9 : tF 2 9 = some (4, 3) := by decide +kernel
theorem tF_6_161 : tF 6 161 = some (4, 3) := by decide +kernel
theorem tF_2_50 : tF 2 50 = some (4, 4) := by decide +kernel
theorem tF_2_60 : tF 2 60 = some (4, 5) := by decide +kernel
theorem tF_2_18 : tF 2 18 = some (4, 6) := by decide +kernel
theorem tF_2_22 : tF 2 22 = some (4, 7) := by decide +kernel
theorem tF_2_26 : tF 2 26 = some (4, 8) := by decide +kernel
theorem tF_2_29 : tF 2 29 = some (4, 9) := by decide +kernel
theorem tF_2_33 : tF 2 33 = some (4, 10) := by decide +kernel
theorem tF_2_36 : tF 2 36 = some (4, 11) := by decide +kernel
theorem tF_2_69 : tF 2 69 = some (4, 12) := by decide +kernel
theorem tF_2_72 : tF 2 72 = some (4, 13) := by decide +kernel
theorem tF_2_75 : tF 2 75 = some (4, 14) := by decide +kernel
theorem tF_2_85 : tF 2 85 = some (4, 15) := by decide +kernel
theorem tF_2_88 : tF 2 88 = some (4, 16) := by decide +kernel
theorem tF_5_9 : tF 5 9 = some (7, 0) := by decide +kernel
theorem tF_6_190 : tF 6 190 = some (7, 0) := by decide +kernel
theorem tF_5_15 : tF 5 15 = some (7, 1) := by decide +kernel
theorem tF_6_189 : tF 6 189 = some (7, 1) := by decide +kernel
theorem tF_6_9 : tF 6 9 = some (8, 0) := by decide +kernel
theorem tF_6_58 : tF 6 58 = some (8, 1) := by decide +kernel
theorem tF_6_16 : tF 6 16 = some (8, 2) := by decide +kernel
theorem tF_6_20 : tF 6 20 = some (8, 3) := by decide +kernel
theorem tF_6_26 : tF 6 26 = some (8, 4) := by decide +kernel
theorem tF_6_33 : tF 6 33 = some (8, 5) := by decide +kernel
theorem tF_6_40 : tF 6 40 = some (8, 6) := by decide +kernel
theorem tF_6_47 : tF 6 47 = some (8, 7) := by decide +kernel
theorem tF_7_97 : tF 7 97 = some (9, 0) := by decide +kernel
theorem tF_7_7 : tF 7 7 = some (9, 1) := by decide +kernel
theorem tF_7_115 : tF 7 115 = some (9, 2) := by decide +kernel
theorem tF_7_101 : tF 7 101 = some (9, 3) := by decide +kernel
theorem tF_7_203 : tF 7 203 = some (9, 4) := by decide +kernel
theorem tF_7_13 : tF 7 13 = some (9, 5) := by decide +kernel
theorem tF_7_17 : tF 7 17 = some (9, 6) := by decide +kernel
theorem tF_7_20 : tF 7 20 = some (9, 7) := by decide +kernel
theorem tF_7_216 : tF 7 216 = some (9, 8) := by decide +kernel
theorem tF_7_23 : tF 7 23 = some (9, 9) := by decide +kernel
theorem tF_7_26 : tF 7 26 = some (9, 10) := by decide +kernel
theorem tF_7_29 : tF 7 29 = some (9, 11) := by decide +kernel
theorem tF_7_32 : tF 7 32 = some (9, 12) := by decide +kernel
theorem tF_7_35 : tF 7 35 = some (9, 13) := by decide +kernel
theorem tF_7_39 : tF 7 39 = some (9, 14) := by decide +kernel
theorem tF_7_42 : tF 7 42 = some (9, 15) := by decide +kernel
theorem tF_7_206 : tF 7 206 = some (9, 16) := by decide +kernel
theorem tF_7_209 : tF 7 209 = some (9, 17) := by decide +kernel
theorem tF_7_212 : tF 7 212 = some (9, 18) := by decide +kernel
theorem tF_7_45 : tF 7 45 = some (9, 19) := by decide +kernel
theorem tF_7_112 : tF 7 112 = some (9, 20) := by decide +kernel
theorem tF_7_126 : tF 7 126 = some (9, 21) := by decide +kernel
theorem tF_7_122 : tF 7 122 = some (9, 22) := by decide +kernel
theorem tF_7_168 : tF 7 168 = some (9, 23) := by decide +kernel
theorem tF_7_178 : tF 7 178 = some (9, 24) := by decide +kernel
theorem tF_7_48 : tF 7 48 = some (9, 25) := by decide +kernel
theorem tF_7_51 : tF 7 51 = some (9, 26) := by decide +kernel
theorem tF_7_158 : tF 7 158 = some (9, 27) := by decide +kernel
theorem tF_7_225 : tF 7 225 = some (9, 28) := by decide +kernel
theorem tF_7_54 : tF 7 54 = some (9, 29) := by decide +kernel
theorem tF_7_58 : tF 7 58 = some (9, 30) := by decide +kernel
theorem tF_7_61 : tF 7 61 = some (9, 31) := by decide +kernel
theorem tF_7_64 : tF 7 64 = some (9, 32) := by decide +kernel
theorem tF_7_67 : tF 7 67 = some (9, 33) := by decide +kernel
theorem tF_7_70 : tF 7 70 = some (9, 34) := by decide +kernel
theorem tF_7_73 : tF 7 73 = some (9, 35) := by decide +kernel
theorem tF_7_280 : tF 7 280 = some (9, 36) := by decide +kernel
theorem tF_7_76 : tF 7 76 = some (9, 37) := by decide +kernel
theorem tF_7_79 : tF 7 79 = some (9, 38) := by decide +kernel
theorem tF_7_82 : tF 7 82 = some (9, 39) := by decide +kernel
theorem tF_7_85 : tF 7 85 = some (9, 40) := by decide +kernel
theorem tF_7_88 : tF 7 88 = some (9, 41) := by decide +kernel
theorem tF_7_268 : tF 7 268 = some (9, 42) := by decide +kernel
theorem tF_7_271 : tF 7 271 = some (9, 43) := by decide +kernel
theorem tF_7_274 : tF 7 274 = some (9, 44) := by decide +kernel
theorem tF_7_277 : tF 7 277 = some (9, 45) := by decide +kernel
theorem tF_7_283 : tF 7 283 = some (9, 46) := by decide +kernel
theorem tF_7_91 : tF 7 91 = some (9, 47) := by decide +kernel
theorem tF_7_317 : tF 7 317 = some (9, 48) := by decide +kernel
theorem tF_7_309 : tF 7 309 = some (9, 49) := by decide +kernel
theorem tF_7_94 : tF 7 94 = some (9, 50) := by decide +kernel
theorem tF_7_329 : tF 7 329 = some (9, 51) := by decide +kernel
theorem tF_9_9 : tF 9 9 = some (0, 0) := by decide +kernel
theorem tF_9_15 : tF 9 15 = some (0, 1) := by decide +kernel
/-- a static of which only null or a reference is said -/
def tSv (sa : Nat → Nat) : Value := match sa 102 with
  | 0 => .null
  | n + 1 => .ref n
/-- the statics, sa: where constants stand -/
def tZs (sa : Nat → Nat) : List (String × String × String × Value) := [("FlowDesk", "PARTS_OF_KIND", "[I", .ref (sa 100)), ("FlowDesk", "OPERATION_SIGNS", "[I", .ref (sa 101)), ("java/lang/String", "COMPACT_STRINGS", "Z", .int 1), ("jdk/internal/util/Preconditions", "SIOOBE_FORMATTER", "Ljava/util/function/BiFunction;", tSv sa)]
def tZl : List (Nat × Nat × Nat × Bool × Nat) := [(4, 166, 0, true, 512), (4, 141, 1, true, 541), (9, 38, 2, false, 556), (9, 1053, 3, false, 572), (3, 113, 0, true, 643), (5, 91, 1, true, 928)]
def tZ (sa : Nat → Nat) (t i : Nat) : Option Value := match tZl.find? (fun e => e.1 == t && e.2.1 == i) with
  | some e => ((tZs sa)[e.2.2.1]?).map (fun z => z.2.2.2)
  | none => none
theorem tZ_4_166 (sa : Nat → Nat) : tZ sa 4 166 = some (.ref (sa 100)) := rfl
theorem tZ_4_141 (sa : Nat → Nat) : tZ sa 4 141 = some (.ref (sa 101)) := rfl
theorem tZ_9_38 (sa : Nat → Nat) : tZ sa 9 38 = some (.int 1) := rfl
theorem tZ_9_1053 (sa : Nat → Nat) : tZ sa 9 1053 = some (tSv sa) := rfl
theorem tZ_3_113 (sa : Nat → Nat) : tZ sa 3 113 = some (.ref (sa 100)) := rfl
theorem tZ_5_91 (sa : Nat → Nat) : tZ sa 5 91 = some (.ref (sa 101)) := rfl
def tRs (sa : Nat → Nat) : List (String × Nat × String × Nat) := [("FlowDesk$Reader", 147, "if", sa 0), ("FlowDesk$Reader", 153, "let", sa 1), ("FlowDesk$Reader", 155, "fix", sa 2), ("FlowDesk$Writer", 78, "(fix ", sa 3), ("FlowDesk$Writer", 87, "(if", sa 4), ("FlowDesk$Writer", 89, "(let ", sa 5), ("FlowDesk", 53, "n is not 0 .. 8", sa 6), ("FlowDesk", 64, "the text would be too long", sa 7), ("FlowDeskModel", 187, "if", sa 8), ("FlowDeskModel", 193, "let", sa 9), ("FlowDeskModel", 195, "fix", sa 10), ("FlowDeskModel", 347, "if ", sa 11), ("FlowDeskModel", 353, "let ", sa 12), ("FlowDeskModel", 355, "fix ", sa 13), ("FlowDeskModel", 357, "+-*=<", sa 14), ("java/lang/StringLatin1", 151, "", sa 15), ("java/util/Arrays", 337, " > ", sa 16)]
/-- ints, longs, strings by their places in tRs -/
def tKl : List (Nat × Nat × (Int32 ⊕ Int64 ⊕ Nat) × Nat) := [(1, 84, .inr (.inl (-1)), 671), (5, 53, .inl (100000), 918), (6, 199, .inr (.inl (255)), 941), (7, 363, .inr (.inl (255)), 1708), (8, 21, .inr (.inl (4294967295)), 1709), (4, 147, .inr (.inr 0), 543), (4, 153, .inr (.inr 1), 596), (4, 155, .inr (.inr 2), 597), (5, 78, .inr (.inr 3), 919), (5, 87, .inr (.inr 4), 926), (5, 89, .inr (.inr 5), 927), (6, 53, .inr (.inr 6), 991), (6, 64, .inr (.inr 7), 1026), (7, 187, .inr (.inr 8), 1258), (7, 193, .inr (.inr 9), 1265), (7, 195, .inr (.inr 10), 1266), (7, 347, .inr (.inr 11), 1462), (7, 353, .inr (.inr 12), 1467), (7, 355, .inr (.inr 13), 1468), (7, 357, .inr (.inr 14), 1469), (10, 151, .inr (.inr 15), 1484), (11, 337, .inr (.inr 16), 1593)]
def tK (sa : Nat → Nat) (t i : Nat) : Option Value := match tKl.find? (fun e => e.1 == t && e.2.1 == i) with
  | some e => some (match e.2.2.1 with | .inl x => .int x | .inr (.inl x) => .long x | .inr (.inr x) => .ref (sa x))
  | none => none
theorem tK_1_84 (sa : Nat → Nat) : tK sa 1 84 = some (.long (-1)) := rfl
theorem tK_5_53 (sa : Nat → Nat) : tK sa 5 53 = some (.int (100000)) := rfl
theorem tK_6_199 (sa : Nat → Nat) : tK sa 6 199 = some (.long (255)) := rfl
theorem tK_7_363 (sa : Nat → Nat) : tK sa 7 363 = some (.long (255)) := rfl
theorem tK_8_21 (sa : Nat → Nat) : tK sa 8 21 = some (.long (4294967295)) := rfl
theorem tK_4_147 (sa : Nat → Nat) : tK sa 4 147 = some (.ref (sa 0)) := rfl
theorem tK_4_153 (sa : Nat → Nat) : tK sa 4 153 = some (.ref (sa 1)) := rfl
theorem tK_4_155 (sa : Nat → Nat) : tK sa 4 155 = some (.ref (sa 2)) := rfl
theorem tK_5_78 (sa : Nat → Nat) : tK sa 5 78 = some (.ref (sa 3)) := rfl
theorem tK_5_87 (sa : Nat → Nat) : tK sa 5 87 = some (.ref (sa 4)) := rfl
theorem tK_5_89 (sa : Nat → Nat) : tK sa 5 89 = some (.ref (sa 5)) := rfl
theorem tK_6_53 (sa : Nat → Nat) : tK sa 6 53 = some (.ref (sa 6)) := rfl
theorem tK_6_64 (sa : Nat → Nat) : tK sa 6 64 = some (.ref (sa 7)) := rfl
theorem tK_7_187 (sa : Nat → Nat) : tK sa 7 187 = some (.ref (sa 8)) := rfl
theorem tK_7_193 (sa : Nat → Nat) : tK sa 7 193 = some (.ref (sa 9)) := rfl
theorem tK_7_195 (sa : Nat → Nat) : tK sa 7 195 = some (.ref (sa 10)) := rfl
theorem tK_7_347 (sa : Nat → Nat) : tK sa 7 347 = some (.ref (sa 11)) := rfl
theorem tK_7_353 (sa : Nat → Nat) : tK sa 7 353 = some (.ref (sa 12)) := rfl
theorem tK_7_355 (sa : Nat → Nat) : tK sa 7 355 = some (.ref (sa 13)) := rfl
theorem tK_7_357 (sa : Nat → Nat) : tK sa 7 357 = some (.ref (sa 14)) := rfl
theorem tK_10_151 (sa : Nat → Nat) : tK sa 10 151 = some (.ref (sa 15)) := rfl
theorem tK_11_337 (sa : Nat → Nat) : tK sa 11 337 = some (.ref (sa 16)) := rfl
def tNl : List (Nat × Nat × Nat × Nat × Nat × Nat) := [(8, 8, 8, 136, 137, 112), (6, 13, 5, 144, 145, 113), (6, 23, 6, 244, 245, 114), (6, 30, 3, 296, 297, 115), (6, 37, 4, 318, 319, 116), (2, 15, 2, 324, 325, 117), (6, 44, 7, 403, 404, 118), (8, 18, 9, 1033, 1034, 119), (10, 1, 0, 1485, 1486, 126), (11, 45, 1, 1497, 1498, 133)]
def tC (t i : Nat) : Option Nat := (tNl.find? (fun e => e.1 == t && e.2.1 == i)).map (fun e => e.2.2.1)
theorem tC_8_8 : tC 8 8 = some 8 := by decide +kernel
theorem tC_6_13 : tC 6 13 = some 5 := by decide +kernel
theorem tC_6_23 : tC 6 23 = some 6 := by decide +kernel
theorem tC_6_30 : tC 6 30 = some 3 := by decide +kernel
theorem tC_6_37 : tC 6 37 = some 4 := by decide +kernel
theorem tC_2_15 : tC 2 15 = some 2 := by decide +kernel
theorem tC_6_44 : tC 6 44 = some 7 := by decide +kernel
theorem tC_8_18 : tC 8 18 = some 9 := by decide +kernel
theorem tC_10_1 : tC 10 1 = some 0 := by decide +kernel
theorem tC_11_45 : tC 11 45 = some 1 := by decide +kernel
/-- tag, place, 0 virtual 1 static 2 special, primitive?, which; then the places of the words: link, is it the nest's, code, initialised, instance or static, selects -/
def tCl : List (Nat × Nat × Nat × Nat × Nat × Nat × Nat × Nat × Nat × Nat × Nat) := [(8, 17, 2, 0, 78, 138, 0, 140, 112, 139, 0), (6, 1, 2, 1, 0, 141, 0, 0, 0, 0, 0), (6, 15, 2, 0, 28, 146, 1, 148, 113, 147, 0), (3, 3, 2, 1, 0, 149, 0, 0, 0, 0, 0), (6, 25, 2, 0, 44, 246, 1, 248, 114, 247, 0), (4, 3, 2, 1, 0, 249, 0, 0, 0, 0, 0), (6, 32, 2, 0, 7, 298, 1, 300, 115, 299, 0), (1, 3, 2, 1, 0, 301, 0, 0, 0, 0, 0), (6, 39, 2, 0, 16, 320, 1, 322, 116, 321, 0), (2, 3, 2, 1, 0, 323, 0, 0, 0, 0, 0), (2, 17, 2, 0, 0, 326, 1, 328, 117, 327, 0), (0, 3, 2, 1, 0, 329, 0, 0, 0, 0, 0), (6, 46, 2, 0, 69, 405, 1, 407, 118, 406, 0), (5, 3, 2, 1, 0, 408, 0, 0, 0, 0, 0), (8, 33, 0, 0, 80, 443, 0, 446, 112, 444, 445), (8, 37, 0, 0, 81, 447, 0, 450, 112, 448, 449), (6, 67, 0, 0, 45, 451, 0, 454, 114, 452, 453), (4, 34, 1, 1, 2, 455, 0, 0, 0, 0, 0), (4, 71, 0, 0, 51, 458, 0, 461, 114, 460, 0), (4, 78, 0, 0, 48, 462, 0, 465, 114, 464, 1), (4, 86, 0, 0, 47, 466, 0, 469, 114, 468, 2), (4, 82, 0, 0, 46, 470, 0, 473, 114, 472, 3), (4, 90, 1, 0, 49, 474, 0, 476, 114, 475, 0), (4, 94, 0, 0, 52, 477, 0, 480, 114, 479, 4), (4, 109, 0, 0, 61, 481, 0, 484, 114, 483, 5), (4, 144, 0, 0, 60, 485, 0, 488, 114, 487, 6), (4, 97, 1, 0, 50, 489, 0, 491, 114, 490, 0), (4, 112, 0, 0, 53, 492, 0, 495, 114, 494, 7), (4, 115, 0, 0, 29, 496, 0, 499, 113, 497, 498), (4, 100, 0, 0, 54, 500, 0, 503, 114, 502, 8), (4, 103, 0, 0, 55, 504, 0, 507, 114, 506, 9), (4, 119, 0, 0, 64, 508, 0, 511, 114, 510, 10), (4, 169, 1, 0, 96, 514, 1, 516, 112, 515, 0), (4, 122, 0, 0, 62, 517, 0, 520, 114, 519, 11), (4, 125, 0, 0, 65, 521, 0, 524, 114, 523, 12), (4, 129, 0, 0, 63, 525, 0, 528, 114, 527, 13), (4, 132, 0, 0, 66, 529, 0, 532, 114, 531, 14), (4, 106, 0, 0, 56, 533, 0, 536, 114, 535, 15), (4, 135, 0, 0, 58, 537, 0, 540, 114, 539, 16), (4, 149, 0, 0, 59, 544, 0, 547, 114, 546, 17), (4, 157, 0, 0, 179, 548, 0, 551, 126, 549, 550), (9, 335, 0, 0, 181, 552, 0, 555, 126, 553, 554), (4, 162, 0, 0, 180, 558, 0, 561, 126, 559, 560), (9, 492, 0, 0, 182, 562, 0, 565, 126, 563, 564), (9, 495, 1, 0, 186, 566, 0, 568, 127, 567, 0), (10, 9, 1, 0, 189, 569, 0, 571, 126, 570, 0), (9, 1059, 1, 0, 192, 574, 0, 576, 128, 575, 0), (4, 138, 0, 0, 57, 598, 0, 601, 114, 600, 18), (4, 75, 0, 0, 67, 602, 0, 605, 114, 604, 19), (4, 179, 0, 0, 68, 606, 0, 609, 114, 608, 20), (6, 71, 0, 0, 98, 610, 0, 613, 112, 612, 21), (6, 201, 0, 0, 31, 614, 0, 617, 113, 615, 616), (3, 83, 0, 0, 32, 618, 0, 621, 113, 620, 22), (3, 100, 1, 0, 96, 622, 1, 516, 112, 515, 0), (3, 104, 0, 0, 34, 623, 0, 626, 113, 625, 23), (3, 107, 0, 0, 33, 627, 0, 630, 113, 629, 24), (3, 87, 0, 0, 37, 631, 0, 634, 113, 633, 25), (3, 91, 0, 0, 36, 635, 0, 638, 113, 637, 26), (3, 94, 0, 0, 38, 639, 0, 642, 113, 641, 27), (3, 97, 0, 0, 35, 644, 0, 647, 113, 646, 28), (3, 63, 1, 1, 3, 648, 0, 0, 0, 0, 0), (3, 110, 0, 0, 40, 651, 0, 654, 113, 652, 653), (6, 204, 0, 0, 8, 655, 0, 658, 115, 656, 657), (1, 31, 0, 0, 10, 659, 0, 662, 115, 661, 29), (1, 47, 1, 0, 96, 663, 1, 516, 112, 515, 0), (1, 39, 1, 0, 97, 664, 1, 666, 112, 665, 0), (1, 54, 0, 0, 13, 667, 0, 670, 115, 669, 30), (1, 64, 0, 0, 14, 672, 0, 675, 115, 674, 31), (1, 67, 0, 0, 12, 676, 0, 679, 115, 678, 32), (1, 80, 0, 0, 39, 680, 0, 683, 113, 681, 682), (1, 71, 0, 0, 11, 684, 0, 687, 115, 686, 33), (1, 35, 0, 0, 15, 688, 0, 691, 115, 690, 34), (1, 89, 0, 0, 9, 692, 0, 695, 115, 693, 694), (6, 207, 0, 0, 17, 696, 0, 699, 116, 697, 698), (8, 41, 0, 0, 82, 700, 0, 703, 112, 701, 702), (6, 83, 0, 0, 107, 704, 0, 707, 112, 706, 35), (6, 227, 0, 0, 108, 708, 0, 711, 112, 710, 36), (6, 143, 0, 0, 100, 712, 0, 715, 112, 714, 37), (6, 90, 0, 0, 99, 716, 0, 719, 112, 718, 38), (6, 147, 0, 0, 103, 720, 0, 723, 112, 722, 39), (6, 214, 0, 0, 102, 724, 0, 727, 112, 726, 40), (6, 104, 0, 0, 39, 728, 0, 683, 113, 681, 682), (6, 210, 1, 0, 97, 729, 0, 666, 112, 665, 0), (6, 164, 0, 0, 104, 730, 0, 733, 112, 732, 41), (6, 140, 0, 0, 9, 734, 0, 695, 115, 693, 694), (6, 127, 1, 0, 96, 735, 0, 516, 112, 515, 0), (6, 182, 0, 0, 105, 736, 0, 739, 112, 738, 42), (8, 46, 0, 0, 83, 740, 0, 743, 112, 741, 742), (8, 51, 0, 0, 84, 744, 0, 747, 112, 745, 746), (8, 56, 0, 0, 85, 748, 0, 751, 112, 749, 750), (8, 60, 0, 0, 86, 752, 0, 755, 112, 753, 754), (6, 121, 0, 0, 101, 756, 0, 759, 112, 758, 43), (6, 137, 0, 0, 109, 760, 0, 763, 112, 762, 44), (8, 64, 0, 0, 87, 764, 0, 767, 112, 765, 766), (8, 68, 0, 0, 88, 768, 0, 771, 112, 769, 770), (8, 72, 0, 0, 89, 772, 0, 775, 112, 773, 774), (6, 150, 0, 0, 18, 776, 0, 779, 116, 777, 778), (2, 47, 0, 0, 17, 780, 0, 699, 116, 697, 698), (2, 54, 1, 1, 2, 781, 0, 0, 0, 0, 0), (2, 66, 0, 0, 1, 782, 0, 785, 117, 783, 784), (2, 78, 0, 0, 20, 786, 0, 789, 116, 788, 45), (2, 91, 0, 0, 19, 790, 0, 793, 116, 792, 46), (2, 100, 1, 0, 96, 794, 1, 516, 112, 515, 0), (2, 107, 0, 0, 22, 795, 0, 798, 116, 797, 47), (2, 124, 0, 0, 3, 799, 0, 802, 117, 800, 801), (2, 127, 0, 0, 6, 803, 0, 806, 117, 804, 805), (0, 29, 1, 0, 96, 807, 1, 516, 112, 515, 0), (2, 110, 0, 0, 21, 808, 0, 811, 116, 810, 48), (2, 131, 0, 0, 4, 812, 0, 815, 117, 813, 814), (2, 134, 0, 0, 5, 816, 0, 819, 117, 817, 818), (0, 33, 1, 0, 97, 820, 1, 666, 112, 665, 0), (2, 115, 0, 0, 23, 821, 0, 824, 116, 823, 49), (2, 138, 0, 0, 39, 825, 0, 683, 113, 681, 682), (2, 82, 0, 0, 24, 826, 0, 829, 116, 828, 50), (2, 141, 0, 0, 25, 830, 0, 833, 116, 832, 51), (2, 144, 0, 0, 2, 834, 0, 837, 117, 835, 836), (2, 148, 0, 0, 26, 838, 0, 841, 116, 840, 52), (2, 152, 0, 0, 27, 842, 0, 845, 116, 844, 53), (8, 76, 0, 0, 90, 846, 0, 849, 112, 847, 848), (8, 81, 0, 0, 91, 850, 0, 853, 112, 851, 852), (8, 85, 0, 0, 92, 854, 0, 857, 112, 855, 856), (6, 167, 0, 0, 106, 858, 0, 861, 112, 860, 54), (6, 179, 0, 0, 40, 862, 0, 654, 113, 652, 653), (6, 221, 0, 0, 41, 863, 0, 866, 113, 864, 865), (6, 224, 0, 0, 42, 867, 0, 870, 113, 868, 869), (3, 69, 0, 0, 43, 871, 0, 874, 113, 873, 55), (6, 171, 0, 0, 30, 875, 0, 878, 113, 876, 877), (3, 73, 0, 0, 29, 879, 0, 499, 113, 497, 498), (6, 175, 0, 0, 29, 880, 0, 499, 113, 497, 498), (8, 89, 0, 0, 93, 881, 0, 884, 112, 882, 883), (8, 93, 0, 0, 94, 885, 0, 888, 112, 886, 887), (6, 185, 0, 0, 70, 889, 0, 892, 118, 890, 891), (5, 24, 0, 0, 75, 893, 0, 896, 118, 895, 56), (5, 61, 1, 0, 96, 897, 1, 516, 112, 515, 0), (5, 68, 0, 0, 39, 898, 0, 683, 113, 681, 682), (5, 43, 0, 0, 71, 899, 0, 902, 118, 901, 57), (5, 28, 0, 0, 76, 903, 0, 906, 118, 905, 58), (5, 75, 0, 0, 74, 907, 0, 910, 118, 909, 59), (5, 54, 0, 0, 73, 911, 0, 914, 118, 913, 60), (5, 47, 1, 1, 4, 915, 0, 0, 0, 0, 0), (5, 80, 0, 0, 72, 920, 0, 923, 118, 922, 61), (5, 34, 0, 0, 179, 924, 0, 551, 126, 549, 550), (5, 39, 0, 0, 180, 925, 0, 561, 126, 559, 560), (5, 31, 0, 0, 77, 929, 0, 932, 118, 931, 62), (5, 94, 0, 0, 40, 933, 0, 654, 113, 652, 653), (6, 193, 1, 1, 1, 934, 0, 0, 0, 0, 0), (8, 97, 0, 0, 95, 937, 0, 940, 112, 938, 939), (8, 7, 0, 0, 79, 947, 0, 950, 112, 948, 949), (8, 20, 2, 0, 110, 1035, 0, 1037, 119, 1036, 0), (7, 1, 2, 1, 0, 1038, 0, 0, 0, 0, 0), (8, 29, 0, 0, 111, 1196, 0, 1199, 119, 1197, 1198), (8, 40, 0, 0, 130, 1200, 0, 1203, 119, 1201, 1202), (7, 184, 0, 0, 126, 1204, 0, 1207, 119, 1206, 64), (7, 148, 0, 0, 118, 1208, 0, 1211, 119, 1210, 65), (7, 118, 0, 0, 116, 1212, 0, 1215, 119, 1214, 66), (7, 151, 0, 0, 119, 1216, 0, 1219, 119, 1218, 67), (7, 129, 1, 0, 120, 1220, 0, 1222, 119, 1221, 0), (7, 155, 0, 0, 124, 1223, 0, 1226, 119, 1225, 68), (7, 141, 0, 0, 122, 1227, 0, 1230, 119, 1229, 69), (7, 133, 1, 0, 121, 1231, 0, 1233, 119, 1232, 0), (7, 161, 0, 0, 115, 1234, 0, 1237, 119, 1236, 70), (7, 108, 0, 0, 114, 1238, 0, 1241, 119, 1240, 71), (7, 165, 0, 0, 127, 1242, 0, 1245, 119, 1244, 72), (7, 171, 0, 0, 128, 1246, 0, 1249, 119, 1248, 73), (7, 181, 0, 0, 125, 1250, 0, 1253, 119, 1252, 74), (7, 175, 0, 0, 129, 1254, 0, 1257, 119, 1256, 75), (7, 189, 0, 0, 123, 1259, 0, 1262, 119, 1261, 76), (7, 136, 0, 0, 179, 1263, 0, 551, 126, 549, 550), (7, 144, 0, 0, 180, 1264, 0, 561, 126, 559, 560), (7, 197, 0, 0, 117, 1267, 0, 1270, 119, 1269, 77), (7, 200, 0, 0, 131, 1271, 0, 1274, 119, 1273, 78), (7, 219, 0, 0, 113, 1275, 0, 1278, 119, 1277, 79), (7, 104, 0, 0, 112, 1279, 0, 1282, 119, 1281, 80), (7, 222, 0, 0, 134, 1283, 0, 1286, 119, 1285, 81), (7, 228, 0, 0, 135, 1287, 0, 1290, 119, 1289, 82), (7, 232, 0, 0, 132, 1291, 0, 1294, 119, 1293, 83), (7, 236, 0, 0, 133, 1295, 0, 1298, 119, 1297, 84), (8, 45, 0, 0, 145, 1299, 0, 1302, 119, 1300, 1301), (7, 247, 0, 0, 139, 1303, 0, 1306, 119, 1305, 85), (7, 239, 1, 0, 138, 1307, 0, 1309, 119, 1308, 0), (7, 256, 0, 0, 143, 1310, 0, 1313, 119, 1312, 86), (7, 250, 0, 0, 140, 1314, 0, 1317, 119, 1316, 87), (7, 253, 0, 0, 142, 1318, 0, 1321, 119, 1320, 88), (7, 243, 0, 0, 141, 1322, 0, 1325, 119, 1324, 89), (7, 259, 0, 0, 144, 1326, 0, 1329, 119, 1328, 90), (8, 50, 0, 0, 146, 1330, 0, 1333, 119, 1331, 1332), (7, 262, 0, 0, 136, 1334, 0, 1337, 119, 1336, 91), (8, 55, 0, 0, 147, 1338, 0, 1341, 119, 1339, 1340), (8, 59, 0, 0, 148, 1342, 0, 1345, 119, 1343, 1344), (8, 63, 0, 0, 149, 1346, 0, 1349, 119, 1347, 1348), (7, 265, 0, 0, 137, 1350, 0, 1353, 119, 1352, 92), (8, 67, 0, 0, 150, 1354, 0, 1357, 119, 1355, 1356), (8, 71, 0, 0, 151, 1358, 0, 1361, 119, 1359, 1360), (8, 75, 0, 0, 154, 1362, 0, 1365, 119, 1363, 1364), (7, 286, 0, 0, 153, 1366, 0, 1369, 119, 1368, 93), (7, 290, 0, 0, 155, 1370, 0, 1373, 119, 1372, 94), (7, 293, 0, 0, 156, 1374, 0, 1377, 119, 1376, 95), (7, 296, 0, 0, 157, 1378, 0, 1381, 119, 1380, 96), (7, 299, 0, 0, 152, 1382, 0, 1385, 119, 1384, 97), (7, 302, 0, 0, 158, 1386, 0, 1389, 119, 1388, 98), (7, 305, 0, 0, 159, 1390, 0, 1393, 119, 1392, 99), (8, 80, 0, 0, 160, 1394, 0, 1397, 119, 1395, 1396), (8, 84, 0, 0, 161, 1398, 0, 1401, 119, 1399, 1400), (8, 88, 0, 0, 167, 1402, 0, 1405, 119, 1403, 1404), (7, 326, 0, 0, 166, 1406, 0, 1409, 119, 1408, 100), (7, 312, 0, 0, 162, 1410, 0, 1413, 119, 1412, 101), (7, 315, 0, 0, 165, 1414, 0, 1417, 119, 1416, 102), (7, 320, 0, 0, 163, 1418, 0, 1421, 119, 1420, 103), (7, 323, 0, 0, 164, 1422, 0, 1425, 119, 1424, 104), (8, 92, 0, 0, 168, 1426, 0, 1429, 119, 1427, 1428), (8, 28, 0, 0, 169, 1430, 0, 1433, 119, 1431, 1432), (8, 36, 0, 0, 170, 1434, 0, 1437, 119, 1435, 1436), (8, 96, 0, 0, 177, 1438, 0, 1441, 119, 1439, 1440), (7, 341, 0, 0, 174, 1442, 0, 1445, 119, 1444, 105), (7, 338, 0, 0, 173, 1446, 0, 1449, 119, 1448, 106), (7, 332, 0, 0, 171, 1450, 0, 1453, 119, 1452, 107), (7, 335, 0, 0, 172, 1454, 0, 1457, 119, 1456, 108), (7, 344, 0, 0, 176, 1458, 0, 1461, 119, 1460, 109), (7, 349, 0, 0, 175, 1463, 0, 1466, 119, 1465, 110), (7, 359, 0, 0, 183, 1470, 0, 1473, 126, 1471, 1472), (9, 505, 0, 0, 179, 1474, 0, 551, 126, 549, 550), (9, 521, 1, 0, 184, 1475, 0, 1477, 126, 1476, 0), (9, 1062, 1, 0, 193, 1478, 0, 1480, 128, 1479, 0), (9, 685, 1, 0, 187, 1481, 0, 1483, 127, 1482, 0), (10, 232, 1, 0, 188, 1487, 0, 1489, 131, 1488, 0), (11, 339, 1, 0, 190, 1490, 0, 1492, 131, 1491, 0), (11, 343, 1, 0, 191, 1493, 0, 1495, 131, 1494, 0), (11, 304, 1, 1, 2, 1564, 0, 0, 0, 0, 0), (11, 150, 1, 1, 1, 1565, 0, 0, 0, 0, 0), (9, 212, 1, 1, 1, 1641, 0, 0, 0, 0, 0), (9, 1, 2, 1, 0, 1654, 0, 0, 0, 0, 0), (9, 54, 1, 0, 188, 1669, 0, 1489, 131, 1488, 0), (10, 112, 2, 0, 185, 1692, 0, 1694, 126, 1693, 0), (8, 100, 0, 0, 178, 1704, 0, 1707, 119, 1705, 1706)]
def tG (t i : Nat) : Option (Nat × (Nat ⊕ Nat)) := match tCl.find? (fun e => e.1 == t && e.2.1 == i) with
  | some e => some (e.2.2.1, if e.2.2.2.1 = 1 then .inr e.2.2.2.2.1 else .inl e.2.2.2.2.1)
  | none => none
theorem tG_8_17 : tG 8 17 = some (2, .inl 78) := rfl
theorem tG_6_1 : tG 6 1 = some (2, .inr 0) := rfl
theorem tG_6_15 : tG 6 15 = some (2, .inl 28) := rfl
theorem tG_3_3 : tG 3 3 = some (2, .inr 0) := rfl
theorem tG_6_25 : tG 6 25 = some (2, .inl 44) := rfl
theorem tG_4_3 : tG 4 3 = some (2, .inr 0) := rfl
theorem tG_6_32 : tG 6 32 = some (2, .inl 7) := rfl
theorem tG_1_3 : tG 1 3 = some (2, .inr 0) := rfl
theorem tG_6_39 : tG 6 39 = some (2, .inl 16) := rfl
theorem tG_2_3 : tG 2 3 = some (2, .inr 0) := rfl
theorem tG_2_17 : tG 2 17 = some (2, .inl 0) := rfl
theorem tG_0_3 : tG 0 3 = some (2, .inr 0) := rfl
theorem tG_6_46 : tG 6 46 = some (2, .inl 69) := rfl
theorem tG_5_3 : tG 5 3 = some (2, .inr 0) := rfl
theorem tG_8_33 : tG 8 33 = some (0, .inl 80) := rfl
theorem tG_8_37 : tG 8 37 = some (0, .inl 81) := rfl
theorem tG_6_67 : tG 6 67 = some (0, .inl 45) := rfl
theorem tG_4_34 : tG 4 34 = some (1, .inr 2) := rfl
theorem tG_4_71 : tG 4 71 = some (0, .inl 51) := rfl
theorem tG_4_78 : tG 4 78 = some (0, .inl 48) := rfl
theorem tG_4_86 : tG 4 86 = some (0, .inl 47) := rfl
theorem tG_4_82 : tG 4 82 = some (0, .inl 46) := rfl
theorem tG_4_90 : tG 4 90 = some (1, .inl 49) := rfl
theorem tG_4_94 : tG 4 94 = some (0, .inl 52) := rfl
theorem tG_4_109 : tG 4 109 = some (0, .inl 61) := rfl
theorem tG_4_144 : tG 4 144 = some (0, .inl 60) := rfl
theorem tG_4_97 : tG 4 97 = some (1, .inl 50) := rfl
theorem tG_4_112 : tG 4 112 = some (0, .inl 53) := rfl
theorem tG_4_115 : tG 4 115 = some (0, .inl 29) := rfl
theorem tG_4_100 : tG 4 100 = some (0, .inl 54) := rfl
theorem tG_4_103 : tG 4 103 = some (0, .inl 55) := rfl
theorem tG_4_119 : tG 4 119 = some (0, .inl 64) := rfl
theorem tG_4_169 : tG 4 169 = some (1, .inl 96) := rfl
theorem tG_4_122 : tG 4 122 = some (0, .inl 62) := rfl
theorem tG_4_125 : tG 4 125 = some (0, .inl 65) := rfl
theorem tG_4_129 : tG 4 129 = some (0, .inl 63) := rfl
theorem tG_4_132 : tG 4 132 = some (0, .inl 66) := rfl
theorem tG_4_106 : tG 4 106 = some (0, .inl 56) := rfl
theorem tG_4_135 : tG 4 135 = some (0, .inl 58) := rfl
theorem tG_4_149 : tG 4 149 = some (0, .inl 59) := rfl
theorem tG_4_157 : tG 4 157 = some (0, .inl 179) := rfl
theorem tG_9_335 : tG 9 335 = some (0, .inl 181) := rfl
theorem tG_4_162 : tG 4 162 = some (0, .inl 180) := rfl
theorem tG_9_492 : tG 9 492 = some (0, .inl 182) := rfl
theorem tG_9_495 : tG 9 495 = some (1, .inl 186) := rfl
theorem tG_10_9 : tG 10 9 = some (1, .inl 189) := rfl
theorem tG_9_1059 : tG 9 1059 = some (1, .inl 192) := rfl
theorem tG_4_138 : tG 4 138 = some (0, .inl 57) := rfl
theorem tG_4_75 : tG 4 75 = some (0, .inl 67) := rfl
theorem tG_4_179 : tG 4 179 = some (0, .inl 68) := rfl
theorem tG_6_71 : tG 6 71 = some (0, .inl 98) := rfl
theorem tG_6_201 : tG 6 201 = some (0, .inl 31) := rfl
theorem tG_3_83 : tG 3 83 = some (0, .inl 32) := rfl
theorem tG_3_100 : tG 3 100 = some (1, .inl 96) := rfl
theorem tG_3_104 : tG 3 104 = some (0, .inl 34) := rfl
theorem tG_3_107 : tG 3 107 = some (0, .inl 33) := rfl
theorem tG_3_87 : tG 3 87 = some (0, .inl 37) := rfl
theorem tG_3_91 : tG 3 91 = some (0, .inl 36) := rfl
theorem tG_3_94 : tG 3 94 = some (0, .inl 38) := rfl
theorem tG_3_97 : tG 3 97 = some (0, .inl 35) := rfl
theorem tG_3_63 : tG 3 63 = some (1, .inr 3) := rfl
theorem tG_3_110 : tG 3 110 = some (0, .inl 40) := rfl
theorem tG_6_204 : tG 6 204 = some (0, .inl 8) := rfl
theorem tG_1_31 : tG 1 31 = some (0, .inl 10) := rfl
theorem tG_1_47 : tG 1 47 = some (1, .inl 96) := rfl
theorem tG_1_39 : tG 1 39 = some (1, .inl 97) := rfl
theorem tG_1_54 : tG 1 54 = some (0, .inl 13) := rfl
theorem tG_1_64 : tG 1 64 = some (0, .inl 14) := rfl
theorem tG_1_67 : tG 1 67 = some (0, .inl 12) := rfl
theorem tG_1_80 : tG 1 80 = some (0, .inl 39) := rfl
theorem tG_1_71 : tG 1 71 = some (0, .inl 11) := rfl
theorem tG_1_35 : tG 1 35 = some (0, .inl 15) := rfl
theorem tG_1_89 : tG 1 89 = some (0, .inl 9) := rfl
theorem tG_6_207 : tG 6 207 = some (0, .inl 17) := rfl
theorem tG_8_41 : tG 8 41 = some (0, .inl 82) := rfl
theorem tG_6_83 : tG 6 83 = some (0, .inl 107) := rfl
theorem tG_6_227 : tG 6 227 = some (0, .inl 108) := rfl
theorem tG_6_143 : tG 6 143 = some (0, .inl 100) := rfl
theorem tG_6_90 : tG 6 90 = some (0, .inl 99) := rfl
theorem tG_6_147 : tG 6 147 = some (0, .inl 103) := rfl
theorem tG_6_214 : tG 6 214 = some (0, .inl 102) := rfl
theorem tG_6_104 : tG 6 104 = some (0, .inl 39) := rfl
theorem tG_6_210 : tG 6 210 = some (1, .inl 97) := rfl
theorem tG_6_164 : tG 6 164 = some (0, .inl 104) := rfl
theorem tG_6_140 : tG 6 140 = some (0, .inl 9) := rfl
theorem tG_6_127 : tG 6 127 = some (1, .inl 96) := rfl
theorem tG_6_182 : tG 6 182 = some (0, .inl 105) := rfl
theorem tG_8_46 : tG 8 46 = some (0, .inl 83) := rfl
theorem tG_8_51 : tG 8 51 = some (0, .inl 84) := rfl
theorem tG_8_56 : tG 8 56 = some (0, .inl 85) := rfl
theorem tG_8_60 : tG 8 60 = some (0, .inl 86) := rfl
theorem tG_6_121 : tG 6 121 = some (0, .inl 101) := rfl
theorem tG_6_137 : tG 6 137 = some (0, .inl 109) := rfl
theorem tG_8_64 : tG 8 64 = some (0, .inl 87) := rfl
theorem tG_8_68 : tG 8 68 = some (0, .inl 88) := rfl
theorem tG_8_72 : tG 8 72 = some (0, .inl 89) := rfl
theorem tG_6_150 : tG 6 150 = some (0, .inl 18) := rfl
theorem tG_2_47 : tG 2 47 = some (0, .inl 17) := rfl
theorem tG_2_54 : tG 2 54 = some (1, .inr 2) := rfl
theorem tG_2_66 : tG 2 66 = some (0, .inl 1) := rfl
theorem tG_2_78 : tG 2 78 = some (0, .inl 20) := rfl
theorem tG_2_91 : tG 2 91 = some (0, .inl 19) := rfl
theorem tG_2_100 : tG 2 100 = some (1, .inl 96) := rfl
theorem tG_2_107 : tG 2 107 = some (0, .inl 22) := rfl
theorem tG_2_124 : tG 2 124 = some (0, .inl 3) := rfl
theorem tG_2_127 : tG 2 127 = some (0, .inl 6) := rfl
theorem tG_0_29 : tG 0 29 = some (1, .inl 96) := rfl
theorem tG_2_110 : tG 2 110 = some (0, .inl 21) := rfl
theorem tG_2_131 : tG 2 131 = some (0, .inl 4) := rfl
theorem tG_2_134 : tG 2 134 = some (0, .inl 5) := rfl
theorem tG_0_33 : tG 0 33 = some (1, .inl 97) := rfl
theorem tG_2_115 : tG 2 115 = some (0, .inl 23) := rfl
theorem tG_2_138 : tG 2 138 = some (0, .inl 39) := rfl
theorem tG_2_82 : tG 2 82 = some (0, .inl 24) := rfl
theorem tG_2_141 : tG 2 141 = some (0, .inl 25) := rfl
theorem tG_2_144 : tG 2 144 = some (0, .inl 2) := rfl
theorem tG_2_148 : tG 2 148 = some (0, .inl 26) := rfl
theorem tG_2_152 : tG 2 152 = some (0, .inl 27) := rfl
theorem tG_8_76 : tG 8 76 = some (0, .inl 90) := rfl
theorem tG_8_81 : tG 8 81 = some (0, .inl 91) := rfl
theorem tG_8_85 : tG 8 85 = some (0, .inl 92) := rfl
theorem tG_6_167 : tG 6 167 = some (0, .inl 106) := rfl
theorem tG_6_179 : tG 6 179 = some (0, .inl 40) := rfl
theorem tG_6_221 : tG 6 221 = some (0, .inl 41) := rfl
theorem tG_6_224 : tG 6 224 = some (0, .inl 42) := rfl
theorem tG_3_69 : tG 3 69 = some (0, .inl 43) := rfl
theorem tG_6_171 : tG 6 171 = some (0, .inl 30) := rfl
theorem tG_3_73 : tG 3 73 = some (0, .inl 29) := rfl
theorem tG_6_175 : tG 6 175 = some (0, .inl 29) := rfl
theorem tG_8_89 : tG 8 89 = some (0, .inl 93) := rfl
theorem tG_8_93 : tG 8 93 = some (0, .inl 94) := rfl
theorem tG_6_185 : tG 6 185 = some (0, .inl 70) := rfl
theorem tG_5_24 : tG 5 24 = some (0, .inl 75) := rfl
theorem tG_5_61 : tG 5 61 = some (1, .inl 96) := rfl
theorem tG_5_68 : tG 5 68 = some (0, .inl 39) := rfl
theorem tG_5_43 : tG 5 43 = some (0, .inl 71) := rfl
theorem tG_5_28 : tG 5 28 = some (0, .inl 76) := rfl
theorem tG_5_75 : tG 5 75 = some (0, .inl 74) := rfl
theorem tG_5_54 : tG 5 54 = some (0, .inl 73) := rfl
theorem tG_5_47 : tG 5 47 = some (1, .inr 4) := rfl
theorem tG_5_80 : tG 5 80 = some (0, .inl 72) := rfl
theorem tG_5_34 : tG 5 34 = some (0, .inl 179) := rfl
theorem tG_5_39 : tG 5 39 = some (0, .inl 180) := rfl
theorem tG_5_31 : tG 5 31 = some (0, .inl 77) := rfl
theorem tG_5_94 : tG 5 94 = some (0, .inl 40) := rfl
theorem tG_6_193 : tG 6 193 = some (1, .inr 1) := rfl
theorem tG_8_97 : tG 8 97 = some (0, .inl 95) := rfl
theorem tG_8_7 : tG 8 7 = some (0, .inl 79) := rfl
theorem tG_8_20 : tG 8 20 = some (2, .inl 110) := rfl
theorem tG_7_1 : tG 7 1 = some (2, .inr 0) := rfl
theorem tG_8_29 : tG 8 29 = some (0, .inl 111) := rfl
theorem tG_8_40 : tG 8 40 = some (0, .inl 130) := rfl
theorem tG_7_184 : tG 7 184 = some (0, .inl 126) := rfl
theorem tG_7_148 : tG 7 148 = some (0, .inl 118) := rfl
theorem tG_7_118 : tG 7 118 = some (0, .inl 116) := rfl
theorem tG_7_151 : tG 7 151 = some (0, .inl 119) := rfl
theorem tG_7_129 : tG 7 129 = some (1, .inl 120) := rfl
theorem tG_7_155 : tG 7 155 = some (0, .inl 124) := rfl
theorem tG_7_141 : tG 7 141 = some (0, .inl 122) := rfl
theorem tG_7_133 : tG 7 133 = some (1, .inl 121) := rfl
theorem tG_7_161 : tG 7 161 = some (0, .inl 115) := rfl
theorem tG_7_108 : tG 7 108 = some (0, .inl 114) := rfl
theorem tG_7_165 : tG 7 165 = some (0, .inl 127) := rfl
theorem tG_7_171 : tG 7 171 = some (0, .inl 128) := rfl
theorem tG_7_181 : tG 7 181 = some (0, .inl 125) := rfl
theorem tG_7_175 : tG 7 175 = some (0, .inl 129) := rfl
theorem tG_7_189 : tG 7 189 = some (0, .inl 123) := rfl
theorem tG_7_136 : tG 7 136 = some (0, .inl 179) := rfl
theorem tG_7_144 : tG 7 144 = some (0, .inl 180) := rfl
theorem tG_7_197 : tG 7 197 = some (0, .inl 117) := rfl
theorem tG_7_200 : tG 7 200 = some (0, .inl 131) := rfl
theorem tG_7_219 : tG 7 219 = some (0, .inl 113) := rfl
theorem tG_7_104 : tG 7 104 = some (0, .inl 112) := rfl
theorem tG_7_222 : tG 7 222 = some (0, .inl 134) := rfl
theorem tG_7_228 : tG 7 228 = some (0, .inl 135) := rfl
theorem tG_7_232 : tG 7 232 = some (0, .inl 132) := rfl
theorem tG_7_236 : tG 7 236 = some (0, .inl 133) := rfl
theorem tG_8_45 : tG 8 45 = some (0, .inl 145) := rfl
theorem tG_7_247 : tG 7 247 = some (0, .inl 139) := rfl
theorem tG_7_239 : tG 7 239 = some (1, .inl 138) := rfl
theorem tG_7_256 : tG 7 256 = some (0, .inl 143) := rfl
theorem tG_7_250 : tG 7 250 = some (0, .inl 140) := rfl
theorem tG_7_253 : tG 7 253 = some (0, .inl 142) := rfl
theorem tG_7_243 : tG 7 243 = some (0, .inl 141) := rfl
theorem tG_7_259 : tG 7 259 = some (0, .inl 144) := rfl
theorem tG_8_50 : tG 8 50 = some (0, .inl 146) := rfl
theorem tG_7_262 : tG 7 262 = some (0, .inl 136) := rfl
theorem tG_8_55 : tG 8 55 = some (0, .inl 147) := rfl
theorem tG_8_59 : tG 8 59 = some (0, .inl 148) := rfl
theorem tG_8_63 : tG 8 63 = some (0, .inl 149) := rfl
theorem tG_7_265 : tG 7 265 = some (0, .inl 137) := rfl
theorem tG_8_67 : tG 8 67 = some (0, .inl 150) := rfl
theorem tG_8_71 : tG 8 71 = some (0, .inl 151) := rfl
theorem tG_8_75 : tG 8 75 = some (0, .inl 154) := rfl
theorem tG_7_286 : tG 7 286 = some (0, .inl 153) := rfl
theorem tG_7_290 : tG 7 290 = some (0, .inl 155) := rfl
theorem tG_7_293 : tG 7 293 = some (0, .inl 156) := rfl
theorem tG_7_296 : tG 7 296 = some (0, .inl 157) := rfl
theorem tG_7_299 : tG 7 299 = some (0, .inl 152) := rfl
theorem tG_7_302 : tG 7 302 = some (0, .inl 158) := rfl
theorem tG_7_305 : tG 7 305 = some (0, .inl 159) := rfl
theorem tG_8_80 : tG 8 80 = some (0, .inl 160) := rfl
theorem tG_8_84 : tG 8 84 = some (0, .inl 161) := rfl
theorem tG_8_88 : tG 8 88 = some (0, .inl 167) := rfl
theorem tG_7_326 : tG 7 326 = some (0, .inl 166) := rfl
theorem tG_7_312 : tG 7 312 = some (0, .inl 162) := rfl
theorem tG_7_315 : tG 7 315 = some (0, .inl 165) := rfl
theorem tG_7_320 : tG 7 320 = some (0, .inl 163) := rfl
theorem tG_7_323 : tG 7 323 = some (0, .inl 164) := rfl
theorem tG_8_92 : tG 8 92 = some (0, .inl 168) := rfl
theorem tG_8_28 : tG 8 28 = some (0, .inl 169) := rfl
theorem tG_8_36 : tG 8 36 = some (0, .inl 170) := rfl
theorem tG_8_96 : tG 8 96 = some (0, .inl 177) := rfl
theorem tG_7_341 : tG 7 341 = some (0, .inl 174) := rfl
theorem tG_7_338 : tG 7 338 = some (0, .inl 173) := rfl
theorem tG_7_332 : tG 7 332 = some (0, .inl 171) := rfl
theorem tG_7_335 : tG 7 335 = some (0, .inl 172) := rfl
theorem tG_7_344 : tG 7 344 = some (0, .inl 176) := rfl
theorem tG_7_349 : tG 7 349 = some (0, .inl 175) := rfl
theorem tG_7_359 : tG 7 359 = some (0, .inl 183) := rfl
theorem tG_9_505 : tG 9 505 = some (0, .inl 179) := rfl
theorem tG_9_521 : tG 9 521 = some (1, .inl 184) := rfl
theorem tG_9_1062 : tG 9 1062 = some (1, .inl 193) := rfl
theorem tG_9_685 : tG 9 685 = some (1, .inl 187) := rfl
theorem tG_10_232 : tG 10 232 = some (1, .inl 188) := rfl
theorem tG_11_339 : tG 11 339 = some (1, .inl 190) := rfl
theorem tG_11_343 : tG 11 343 = some (1, .inl 191) := rfl
theorem tG_11_304 : tG 11 304 = some (1, .inr 2) := rfl
theorem tG_11_150 : tG 11 150 = some (1, .inr 1) := rfl
theorem tG_9_212 : tG 9 212 = some (1, .inr 1) := rfl
theorem tG_9_1 : tG 9 1 = some (2, .inr 0) := rfl
theorem tG_9_54 : tG 9 54 = some (1, .inl 188) := rfl
theorem tG_10_112 : tG 10 112 = some (2, .inl 185) := rfl
theorem tG_8_100 : tG 8 100 = some (0, .inl 178) := rfl
def tP (sa : Nat → Nat) : mP := (tF, tC, tG, tK sa, tZ sa, tM)
