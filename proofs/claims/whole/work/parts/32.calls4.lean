def tCq_0 : List (MethodName × mM) := [(yX0_init, mX0_init), (yX0_empty, mX0_empty), (yX0_bind, mX0_bind), (yX0_find, mX0_find), (yX0_functionAt, mX0_functionAt), (yX0_numberAt, mX0_numberAt), (yX0_roundOf, mX0_roundOf), (yX1_init, mX1_init), (yX1_solve, mX1_solve), (yX1_reachesBit, mX1_reachesBit), (yX1_pour, mX1_pour), (yX1_pourCall, mX1_pourCall), (yX1_ofPart, mX1_ofPart), (yX1_intoExpr, mX1_intoExpr), (yX1_intoVariable, mX1_intoVariable), (yX1_findReached, mX1_findReached)]
theorem tCr_0 : ∀ x ∈ tCq_0, tCw x := List.forall_mem_cons.mpr ⟨tCw_0, List.forall_mem_cons.mpr ⟨tCw_1, List.forall_mem_cons.mpr ⟨tCw_2, List.forall_mem_cons.mpr ⟨tCw_3, List.forall_mem_cons.mpr ⟨tCw_4, List.forall_mem_cons.mpr ⟨tCw_5, List.forall_mem_cons.mpr ⟨tCw_6, List.forall_mem_cons.mpr ⟨tCw_7, List.forall_mem_cons.mpr ⟨tCw_8, List.forall_mem_cons.mpr ⟨tCw_9, List.forall_mem_cons.mpr ⟨tCw_10, List.forall_mem_cons.mpr ⟨tCw_11, List.forall_mem_cons.mpr ⟨tCw_12, List.forall_mem_cons.mpr ⟨tCw_13, List.forall_mem_cons.mpr ⟨tCw_14, List.forall_mem_cons.mpr ⟨tCw_15, fun _ h => absurd h List.not_mem_nil⟩⟩⟩⟩⟩⟩⟩⟩⟩⟩⟩⟩⟩⟩⟩⟩
def tCq_1 : List (MethodName × mM) := [(yX2_init, mX2_init), (yX2_forget, mX2_forget), (yX2_start, mX2_start), (yX2_end, mX2_end), (yX2_begin, mX2_begin), (yX2_come, mX2_come), (yX2_recall, mX2_recall), (yX2_await, mX2_await), (yX2_hand, mX2_hand), (yX2_choose, mX2_choose), (yX2_enter, mX2_enter), (yX2_reckon, mX2_reckon), (yX3_init, mX3_init), (yX3_add, mX3_add), (yX3_addCopies, mX3_addCopies), (yX3_settle, mX3_settle)]
theorem tCr_1 : ∀ x ∈ tCq_1, tCw x := List.forall_mem_cons.mpr ⟨tCw_16, List.forall_mem_cons.mpr ⟨tCw_17, List.forall_mem_cons.mpr ⟨tCw_18, List.forall_mem_cons.mpr ⟨tCw_19, List.forall_mem_cons.mpr ⟨tCw_20, List.forall_mem_cons.mpr ⟨tCw_21, List.forall_mem_cons.mpr ⟨tCw_22, List.forall_mem_cons.mpr ⟨tCw_23, List.forall_mem_cons.mpr ⟨tCw_24, List.forall_mem_cons.mpr ⟨tCw_25, List.forall_mem_cons.mpr ⟨tCw_26, List.forall_mem_cons.mpr ⟨tCw_27, List.forall_mem_cons.mpr ⟨tCw_28, List.forall_mem_cons.mpr ⟨tCw_29, List.forall_mem_cons.mpr ⟨tCw_30, List.forall_mem_cons.mpr ⟨tCw_31, fun _ h => absurd h List.not_mem_nil⟩⟩⟩⟩⟩⟩⟩⟩⟩⟩⟩⟩⟩⟩⟩⟩
def tCq_2 : List (MethodName × mM) := [(yX3_numberVariables, mX3_numberVariables), (yX3_newVariable, mX3_newVariable), (yX3_countMeeting, mX3_countMeeting), (yX3_countFree, mX3_countFree), (yX3_numberFunction, mX3_numberFunction), (yX3_join, mX3_join), (yX3_openBehind, mX3_openBehind), (yX3_part, mX3_part), (yX3_endOf, mX3_endOf), (yX3_functionsIn, mX3_functionsIn), (yX3_variablesIn, mX3_variablesIn), (yX3_variablesOf, mX3_variablesOf), (yX4_init, mX4_init), (yX4_load, mX4_load), (yX4_fail, mX4_fail), (yX4_byteAt, mX4_byteAt)]
theorem tCr_2 : ∀ x ∈ tCq_2, tCw x := List.forall_mem_cons.mpr ⟨tCw_32, List.forall_mem_cons.mpr ⟨tCw_33, List.forall_mem_cons.mpr ⟨tCw_34, List.forall_mem_cons.mpr ⟨tCw_35, List.forall_mem_cons.mpr ⟨tCw_36, List.forall_mem_cons.mpr ⟨tCw_37, List.forall_mem_cons.mpr ⟨tCw_38, List.forall_mem_cons.mpr ⟨tCw_39, List.forall_mem_cons.mpr ⟨tCw_40, List.forall_mem_cons.mpr ⟨tCw_41, List.forall_mem_cons.mpr ⟨tCw_42, List.forall_mem_cons.mpr ⟨tCw_43, List.forall_mem_cons.mpr ⟨tCw_44, List.forall_mem_cons.mpr ⟨tCw_45, List.forall_mem_cons.mpr ⟨tCw_46, List.forall_mem_cons.mpr ⟨tCw_47, fun _ h => absurd h List.not_mem_nil⟩⟩⟩⟩⟩⟩⟩⟩⟩⟩⟩⟩⟩⟩⟩⟩
def tCq_3 : List (MethodName × mM) := [(yX4_look, mX4_look), (yX4_isLetter, mX4_isLetter), (yX4_isDigit, mX4_isDigit), (yX4_takeExpr, mX4_takeExpr), (yX4_takeMeaning, mX4_takeMeaning), (yX4_meaningOf, mX4_meaningOf), (yX4_takeNumber, mX4_takeNumber), (yX4_takeLambda, mX4_takeLambda), (yX4_takeForm, mX4_takeForm), (yX4_nameLet, mX4_nameLet), (yX4_takeFormKind, mX4_takeFormKind), (yX4_isWord, mX4_isWord), (yX4_wordEnd, mX4_wordEnd), (yX4_takeName, mX4_takeName), (yX4_takeBinding, mX4_takeBinding), (yX4_expect, mX4_expect)]
theorem tCr_3 : ∀ x ∈ tCq_3, tCw x := List.forall_mem_cons.mpr ⟨tCw_48, List.forall_mem_cons.mpr ⟨tCw_49, List.forall_mem_cons.mpr ⟨tCw_50, List.forall_mem_cons.mpr ⟨tCw_51, List.forall_mem_cons.mpr ⟨tCw_52, List.forall_mem_cons.mpr ⟨tCw_53, List.forall_mem_cons.mpr ⟨tCw_54, List.forall_mem_cons.mpr ⟨tCw_55, List.forall_mem_cons.mpr ⟨tCw_56, List.forall_mem_cons.mpr ⟨tCw_57, List.forall_mem_cons.mpr ⟨tCw_58, List.forall_mem_cons.mpr ⟨tCw_59, List.forall_mem_cons.mpr ⟨tCw_60, List.forall_mem_cons.mpr ⟨tCw_61, List.forall_mem_cons.mpr ⟨tCw_62, List.forall_mem_cons.mpr ⟨tCw_63, fun _ h => absurd h List.not_mem_nil⟩⟩⟩⟩⟩⟩⟩⟩⟩⟩⟩⟩⟩⟩⟩⟩
def tCq_4 : List (MethodName × mM) := [(yX4_open, mX4_open), (yX4_setVariable, mX4_setVariable), (yX4_bind, mX4_bind), (yX4_endExpr, mX4_endExpr), (yX4_bindLet, mX4_bindLet), (yX5_init, mX5_init), (yX5_put, mX5_put), (yX5_putByte, mX5_putByte), (yX5_putText, mX5_putText), (yX5_putNumber, mX5_putNumber), (yX5_putVariable, mX5_putVariable), (yX5_putBlank, mX5_putBlank), (yX5_putHead, mX5_putHead), (yX5_putEnds, mX5_putEnds), (yX6_init, mX6_init), (yX6_type, mX6_type)]
theorem tCr_4 : ∀ x ∈ tCq_4, tCw x := List.forall_mem_cons.mpr ⟨tCw_64, List.forall_mem_cons.mpr ⟨tCw_65, List.forall_mem_cons.mpr ⟨tCw_66, List.forall_mem_cons.mpr ⟨tCw_67, List.forall_mem_cons.mpr ⟨tCw_68, List.forall_mem_cons.mpr ⟨tCw_69, List.forall_mem_cons.mpr ⟨tCw_70, List.forall_mem_cons.mpr ⟨tCw_71, List.forall_mem_cons.mpr ⟨tCw_72, List.forall_mem_cons.mpr ⟨tCw_73, List.forall_mem_cons.mpr ⟨tCw_74, List.forall_mem_cons.mpr ⟨tCw_75, List.forall_mem_cons.mpr ⟨tCw_76, List.forall_mem_cons.mpr ⟨tCw_77, List.forall_mem_cons.mpr ⟨tCw_78, List.forall_mem_cons.mpr ⟨tCw_79, fun _ h => absurd h List.not_mem_nil⟩⟩⟩⟩⟩⟩⟩⟩⟩⟩⟩⟩⟩⟩⟩⟩
def tCq_5 : List (MethodName × mM) := [(yX6_clear, mX6_clear), (yX6_read, mX6_read), (yX6_told, mX6_told), (yX6_expr, mX6_expr), (yX6_flow, mX6_flow), (yX6_flows, mX6_flows), (yX6_function, mX6_function), (yX6_reaches, mX6_reaches), (yX6_single, mX6_single), (yX6_run, mX6_run), (yX6_result, mX6_result), (yX6_used, mX6_used), (yX6_inline, mX6_inline), (yX6_drop, mX6_drop), (yX6_write, mX6_write), (yX6_out, mX6_out)]
theorem tCr_5 : ∀ x ∈ tCq_5, tCw x := List.forall_mem_cons.mpr ⟨tCw_80, List.forall_mem_cons.mpr ⟨tCw_81, List.forall_mem_cons.mpr ⟨tCw_82, List.forall_mem_cons.mpr ⟨tCw_83, List.forall_mem_cons.mpr ⟨tCw_84, List.forall_mem_cons.mpr ⟨tCw_85, List.forall_mem_cons.mpr ⟨tCw_86, List.forall_mem_cons.mpr ⟨tCw_87, List.forall_mem_cons.mpr ⟨tCw_88, List.forall_mem_cons.mpr ⟨tCw_89, List.forall_mem_cons.mpr ⟨tCw_90, List.forall_mem_cons.mpr ⟨tCw_91, List.forall_mem_cons.mpr ⟨tCw_92, List.forall_mem_cons.mpr ⟨tCw_93, List.forall_mem_cons.mpr ⟨tCw_94, List.forall_mem_cons.mpr ⟨tCw_95, fun _ h => absurd h List.not_mem_nil⟩⟩⟩⟩⟩⟩⟩⟩⟩⟩⟩⟩⟩⟩⟩⟩
def tCq_6 : List (MethodName × mM) := [(yX6_at, mX6_at), (yX6_bitsAt, mX6_bitsAt), (yX6_takeSpare, mX6_takeSpare), (yX6_isLabel, mX6_isLabel), (yX6_isOfKind, mX6_isOfKind), (yX6_isFunction, mX6_isFunction), (yX6_operatorFlow, mX6_operatorFlow), (yX6_onlyFunction, mX6_onlyFunction), (yX6_isInlinable, mX6_isInlinable), (yX6_isDroppable, mX6_isDroppable), (yX6_hasRoom, mX6_hasRoom), (yX6_countExprs, mX6_countExprs), (yX6_isOfSort, mX6_isOfSort), (yX6_countCallsInto, mX6_countCallsInto), (yX7_init, mX7_init), (yX7_thrown, mX7_thrown)]
theorem tCr_6 : ∀ x ∈ tCq_6, tCw x := List.forall_mem_cons.mpr ⟨tCw_96, List.forall_mem_cons.mpr ⟨tCw_97, List.forall_mem_cons.mpr ⟨tCw_98, List.forall_mem_cons.mpr ⟨tCw_99, List.forall_mem_cons.mpr ⟨tCw_100, List.forall_mem_cons.mpr ⟨tCw_101, List.forall_mem_cons.mpr ⟨tCw_102, List.forall_mem_cons.mpr ⟨tCw_103, List.forall_mem_cons.mpr ⟨tCw_104, List.forall_mem_cons.mpr ⟨tCw_105, List.forall_mem_cons.mpr ⟨tCw_106, List.forall_mem_cons.mpr ⟨tCw_107, List.forall_mem_cons.mpr ⟨tCw_108, List.forall_mem_cons.mpr ⟨tCw_109, List.forall_mem_cons.mpr ⟨tCw_110, List.forall_mem_cons.mpr ⟨tCw_111, fun _ h => absurd h List.not_mem_nil⟩⟩⟩⟩⟩⟩⟩⟩⟩⟩⟩⟩⟩⟩⟩⟩
def tCq_7 : List (MethodName × mM) := [(yX7_at, mX7_at), (yX7_get, mX7_get), (yX7_set, mX7_set), (yX7_begin, mX7_begin), (yX7_peek, mX7_peek), (yX7_peekBehind, mX7_peekBehind), (yX7_blanks, mX7_blanks), (yX7_fail, mX7_fail), (yX7_isLetter, mX7_isLetter), (yX7_isDigit, mX7_isDigit), (yX7_wordEnd, mX7_wordEnd), (yX7_isWord, mX7_isWord), (yX7_name, mX7_name), (yX7_binding, mX7_binding), (yX7_expression, mX7_expression), (yX7_number, mX7_number)]
theorem tCr_7 : ∀ x ∈ tCq_7, tCw x := List.forall_mem_cons.mpr ⟨tCw_112, List.forall_mem_cons.mpr ⟨tCw_113, List.forall_mem_cons.mpr ⟨tCw_114, List.forall_mem_cons.mpr ⟨tCw_115, List.forall_mem_cons.mpr ⟨tCw_116, List.forall_mem_cons.mpr ⟨tCw_117, List.forall_mem_cons.mpr ⟨tCw_118, List.forall_mem_cons.mpr ⟨tCw_119, List.forall_mem_cons.mpr ⟨tCw_120, List.forall_mem_cons.mpr ⟨tCw_121, List.forall_mem_cons.mpr ⟨tCw_122, List.forall_mem_cons.mpr ⟨tCw_123, List.forall_mem_cons.mpr ⟨tCw_124, List.forall_mem_cons.mpr ⟨tCw_125, List.forall_mem_cons.mpr ⟨tCw_126, List.forall_mem_cons.mpr ⟨tCw_127, fun _ h => absurd h List.not_mem_nil⟩⟩⟩⟩⟩⟩⟩⟩⟩⟩⟩⟩⟩⟩⟩⟩
def tCq_8 : List (MethodName × mM) := [(yX7_lambda, mX7_lambda), (yX7_form, mX7_form), (yX7_read, mX7_read), (yX7_change, mX7_change), (yX7_joinExpr, mX7_joinExpr), (yX7_joinVariable, mX7_joinVariable), (yX7_findFlows, mX7_findFlows), (yX7_flowOf, mX7_flowOf), (yX7_isLabel, mX7_isLabel), (yX7_isFunction, mX7_isFunction), (yX7_countBits, mX7_countBits), (yX7_isSingle, mX7_isSingle), (yX7_only, mX7_only), (yX7_isIn, mX7_isIn), (yX7_freeOf, mX7_freeOf), (yX7_canInline, mX7_canInline)]
theorem tCr_8 : ∀ x ∈ tCq_8, tCw x := List.forall_mem_cons.mpr ⟨tCw_128, List.forall_mem_cons.mpr ⟨tCw_129, List.forall_mem_cons.mpr ⟨tCw_130, List.forall_mem_cons.mpr ⟨tCw_131, List.forall_mem_cons.mpr ⟨tCw_132, List.forall_mem_cons.mpr ⟨tCw_133, List.forall_mem_cons.mpr ⟨tCw_134, List.forall_mem_cons.mpr ⟨tCw_135, List.forall_mem_cons.mpr ⟨tCw_136, List.forall_mem_cons.mpr ⟨tCw_137, List.forall_mem_cons.mpr ⟨tCw_138, List.forall_mem_cons.mpr ⟨tCw_139, List.forall_mem_cons.mpr ⟨tCw_140, List.forall_mem_cons.mpr ⟨tCw_141, List.forall_mem_cons.mpr ⟨tCw_142, List.forall_mem_cons.mpr ⟨tCw_143, fun _ h => absurd h List.not_mem_nil⟩⟩⟩⟩⟩⟩⟩⟩⟩⟩⟩⟩⟩⟩⟩⟩
def tCq_9 : List (MethodName × mM) := [(yX7_canDrop, mX7_canDrop), (yX7_told, mX7_told), (yX7_expr, mX7_expr), (yX7_flow, mX7_flow), (yX7_flows, mX7_flows), (yX7_function, mX7_function), (yX7_reaches, mX7_reaches), (yX7_single, mX7_single), (yX7_chain, mX7_chain), (yX7_push, mX7_push), (yX7_run, mX7_run), (yX7_work, mX7_work), (yX7_goOn, mX7_goOn), (yX7_stuck, mX7_stuck), (yX7_call, mX7_call), (yX7_reckon, mX7_reckon)]
theorem tCr_9 : ∀ x ∈ tCq_9, tCw x := List.forall_mem_cons.mpr ⟨tCw_144, List.forall_mem_cons.mpr ⟨tCw_145, List.forall_mem_cons.mpr ⟨tCw_146, List.forall_mem_cons.mpr ⟨tCw_147, List.forall_mem_cons.mpr ⟨tCw_148, List.forall_mem_cons.mpr ⟨tCw_149, List.forall_mem_cons.mpr ⟨tCw_150, List.forall_mem_cons.mpr ⟨tCw_151, List.forall_mem_cons.mpr ⟨tCw_152, List.forall_mem_cons.mpr ⟨tCw_153, List.forall_mem_cons.mpr ⟨tCw_154, List.forall_mem_cons.mpr ⟨tCw_155, List.forall_mem_cons.mpr ⟨tCw_156, List.forall_mem_cons.mpr ⟨tCw_157, List.forall_mem_cons.mpr ⟨tCw_158, List.forall_mem_cons.mpr ⟨tCw_159, fun _ h => absurd h List.not_mem_nil⟩⟩⟩⟩⟩⟩⟩⟩⟩⟩⟩⟩⟩⟩⟩⟩
def tCq_10 : List (MethodName × mM) := [(yX7_result, mX7_result), (yX7_used, mX7_used), (yX7_copy, mX7_copy), (yX7_fresh, mX7_fresh), (yX7_binder, mX7_binder), (yX7_place, mX7_place), (yX7_changed, mX7_changed), (yX7_inline, mX7_inline), (yX7_drop, mX7_drop), (yX7_type, mX7_type), (yX7_clear, mX7_clear), (yX7_say, mX7_say), (yX7_sayNumber, mX7_sayNumber), (yX7_sayVariable, mX7_sayVariable), (yX7_sayExpr, mX7_sayExpr), (yX7_sayWord, mX7_sayWord)]
theorem tCr_10 : ∀ x ∈ tCq_10, tCw x := List.forall_mem_cons.mpr ⟨tCw_160, List.forall_mem_cons.mpr ⟨tCw_161, List.forall_mem_cons.mpr ⟨tCw_162, List.forall_mem_cons.mpr ⟨tCw_163, List.forall_mem_cons.mpr ⟨tCw_164, List.forall_mem_cons.mpr ⟨tCw_165, List.forall_mem_cons.mpr ⟨tCw_166, List.forall_mem_cons.mpr ⟨tCw_167, List.forall_mem_cons.mpr ⟨tCw_168, List.forall_mem_cons.mpr ⟨tCw_169, List.forall_mem_cons.mpr ⟨tCw_170, List.forall_mem_cons.mpr ⟨tCw_171, List.forall_mem_cons.mpr ⟨tCw_172, List.forall_mem_cons.mpr ⟨tCw_173, List.forall_mem_cons.mpr ⟨tCw_174, List.forall_mem_cons.mpr ⟨tCw_175, fun _ h => absurd h List.not_mem_nil⟩⟩⟩⟩⟩⟩⟩⟩⟩⟩⟩⟩⟩⟩⟩⟩
def tCq_11 : List (MethodName × mM) := [(yX7_sayForm, mX7_sayForm), (yX7_write, mX7_write), (yX7_out, mX7_out), (yJ0_length_8abf5, mJ0_length_8abf5), (yJ0_charAt_5068e, mJ0_charAt_5068e), (yJ0_coder_7d493, mJ0_coder_7d493), (yJ0_isLatin1_aae02, mJ0_isLatin1_aae02), (yJ0_substring_37a41, mJ0_substring_37a41), (yJ0_checkBoundsBeginEnd_23922, mJ0_checkBoundsBeginEnd_23922), (yJ0_init_031fb, mJ0_init_031fb), (yJ1_charAt_3b067, mJ1_charAt_3b067), (yJ1_newString_b4f7a, mJ1_newString_b4f7a), (yJ7_copyOfRange_39247, mJ7_copyOfRange_39247), (yJ0_checkIndex_df160, mJ0_checkIndex_df160), (yJ7_copyOfRangeByte_39247, mJ7_copyOfRangeByte_39247), (yJ7_checkLength_df160, mJ7_checkLength_df160)]
theorem tCr_11 : ∀ x ∈ tCq_11, tCw x := List.forall_mem_cons.mpr ⟨tCw_176, List.forall_mem_cons.mpr ⟨tCw_177, List.forall_mem_cons.mpr ⟨tCw_178, List.forall_mem_cons.mpr ⟨tCw_179, List.forall_mem_cons.mpr ⟨tCw_180, List.forall_mem_cons.mpr ⟨tCw_181, List.forall_mem_cons.mpr ⟨tCw_182, List.forall_mem_cons.mpr ⟨tCw_183, List.forall_mem_cons.mpr ⟨tCw_184, List.forall_mem_cons.mpr ⟨tCw_185, List.forall_mem_cons.mpr ⟨tCw_186, List.forall_mem_cons.mpr ⟨tCw_187, List.forall_mem_cons.mpr ⟨tCw_188, List.forall_mem_cons.mpr ⟨tCw_189, List.forall_mem_cons.mpr ⟨tCw_190, List.forall_mem_cons.mpr ⟨tCw_191, fun _ h => absurd h List.not_mem_nil⟩⟩⟩⟩⟩⟩⟩⟩⟩⟩⟩⟩⟩⟩⟩⟩
def tCq_12 : List (MethodName × mM) := [(yJ3_checkIndex_8e157, mJ3_checkIndex_8e157), (yJ3_checkFromToIndex_8c36e, mJ3_checkFromToIndex_8c36e)]
theorem tCr_12 : ∀ x ∈ tCq_12, tCw x := List.forall_mem_cons.mpr ⟨tCw_192, List.forall_mem_cons.mpr ⟨tCw_193, fun _ h => absurd h List.not_mem_nil⟩⟩
def tCq : List (MethodName × mM) := tCq_0 ++ (tCq_1 ++ (tCq_2 ++ (tCq_3 ++ (tCq_4 ++ (tCq_5 ++ (tCq_6 ++ (tCq_7 ++ (tCq_8 ++ (tCq_9 ++ (tCq_10 ++ (tCq_11 ++ (tCq_12))))))))))))
theorem tCr : ∀ x ∈ tCq, tCw x := by
  show ∀ x ∈ tCq_0 ++ (tCq_1 ++ (tCq_2 ++ (tCq_3 ++ (tCq_4 ++ (tCq_5 ++ (tCq_6 ++ (tCq_7 ++ (tCq_8 ++ (tCq_9 ++ (tCq_10 ++ (tCq_11 ++ (tCq_12)))))))))))), tCw x
  exact List.forall_mem_append.mpr ⟨tCr_0, List.forall_mem_append.mpr ⟨tCr_1, List.forall_mem_append.mpr ⟨tCr_2, List.forall_mem_append.mpr ⟨tCr_3, List.forall_mem_append.mpr ⟨tCr_4, List.forall_mem_append.mpr ⟨tCr_5, List.forall_mem_append.mpr ⟨tCr_6, List.forall_mem_append.mpr ⟨tCr_7, List.forall_mem_append.mpr ⟨tCr_8, List.forall_mem_append.mpr ⟨tCr_9, List.forall_mem_append.mpr ⟨tCr_10, List.forall_mem_append.mpr ⟨tCr_11, tCr_12⟩⟩⟩⟩⟩⟩⟩⟩⟩⟩⟩⟩
set_option maxRecDepth 100000 in
theorem tCq_eq : tCq = List.zip tYl tMl := rfl
theorem tCode {q : Nat} {M : mM} (h : tM q = some M) : Cond.code (tY q) (mCode M) (mMax M) (mRet M) ∈ tTs := by
  have hq : q < tMl.length := (List.getElem?_eq_some_iff.mp h).1
  have hy : tYl[q]? = some (tY q) := by
    have h2 : q < tYl.length := by rw [show tYl.length = tMl.length from rfl]; exact hq
    unfold tY
    rw [List.getD_eq_getElem?_getD, List.getElem?_eq_getElem h2]
    rfl
  have : (tY q, M) ∈ tCq := by
    rw [tCq_eq]
    refine List.mem_of_getElem? (i := q) ?_
    rw [List.getElem?_zip_eq_some]
    exact ⟨hy, h⟩
  exact tCr _ this
/-- what is checked of a call -/
def tGchk (e : Nat × Nat × Nat × Nat × Nat × Nat × Nat × Nat × Nat × Nat × Nat) : Bool := match e with
  | (t, i, kd, pr, q, w1, nb, _, w3, w4, w5) =>
    if pr = 1 then (if q = 0 then decide (kd = 2) && kAt w1 (.methodLink (tN t) i Lib.objectInit) else decide (kd = 1) && (if q = 1 then kAt w1 (.methodLink (tN t) i arraycopyName) else if q = 2 then kAt w1 (.methodLink (tN t) i Lib.Math.min.name) else if q = 3 then kAt w1 (.methodLink (tN t) i Lib.Math.max.name) else decide (q = 4) && kAt w1 (.methodLink (tN t) i Lib.Math.abs.name)))
    else match tM q with
      | none => false
      | some M => (if nb = 1 then kNt w1 (.methodLinkNest (tN t) i (tY q) "FlowDesk") else kAt w1 (.methodLink (tN t) i (tY q))) && (kAt w3 (.initialized (tY q).cls) && (decide ((tY q).cls ≠ "java/lang/invoke/MethodHandle" ∧ (tY q).cls ≠ "java/lang/invoke/VarHandle" ∧ plainName (tY q).cls = true) &&
        (decide ((parseMethodDescriptor (tY q).desc).map (fun d => d.parameters.length) = some (if kd = 1 then mNa M else mNa M - 1)) && (decide (kd = 1 ∨ 1 ≤ mNa M) &&
        (if kd = 0 then kAt w4 (.instanceMethod (tY q)) && (kAt w5 (.selects (tY q).cls (tY q) (tY q)) && (match vwCl[mCi M]? with | some z => decide (z.1 = (tY q).cls) | none => false))
         else if kd = 1 then kAt w4 (.static (tY q))
         else decide (kd = 2) && (kAt w4 (.instanceMethod (tY q)) && (decide ((tY q).name = "<init>") && decide (mRet M = none))))))))
set_option maxRecDepth 100000 in
set_option maxHeartbeats 4000000 in
theorem tGall : tCl.all tGchk = true := by decide +kernel
theorem tG_inv {t i kd : Nat} {c : Nat ⊕ Nat} (h : tG t i = some (kd, c)) : ∃ pr q w1 nb w2 w3 w4 w5, tGchk (t, i, kd, pr, q, w1, nb, w2, w3, w4, w5) = true ∧ c = (if pr = 1 then .inr q else .inl q) := by
  unfold tG at h
  cases he : tCl.find? (fun e => e.1 == t && e.2.1 == i) with
  | none => rw [he] at h; cases h
  | some e =>
    rw [he] at h
    obtain ⟨h1, h2⟩ := tFind tGall he
    obtain ⟨t', i', kd', pr, q, w1, nb, w2, w3, w4, w5⟩ := e
    simp only [Bool.and_eq_true, beq_iff_eq] at h2
    obtain ⟨rfl, rfl⟩ := h2
    cases h
    exact ⟨pr, q, w1, nb, w2, w3, w4, w5, h1, rfl⟩
set_option maxRecDepth 100000 in
theorem tPrims : (decide (Cond.instanceMethod Lib.objectInit ∈ tTs) && decide (Cond.native arraycopyName ∈ tTs) && decide (Cond.static arraycopyName ∈ tTs) && decide (Cond.initialized "java/lang/System" ∈ tTs) && decide (Cond.code Lib.objectInit ⟨#[0xb1]⟩ 1 none ∈ tTs)) = true := by decide +kernel
set_option maxRecDepth 100000 in
theorem tMath : (decide (Cond.initialized "java/lang/Math" ∈ tTs) && decide (Cond.static Lib.Math.min.name ∈ tTs) && decide (Cond.static Lib.Math.max.name ∈ tTs) && decide (Cond.static Lib.Math.abs.name ∈ tTs) && decide (Cond.code Lib.Math.min.name Lib.Math.min.code 2 (some .int) ∈ tTs) && decide (Cond.code Lib.Math.max.name Lib.Math.max.code 2 (some .int) ∈ tTs) && decide (Cond.code Lib.Math.abs.name Lib.Math.abs.code 1 (some .int) ∈ tTs)) = true := by decide +kernel
/-- methods: their class and name -/
def tMchk (x : MethodName × mM) : Bool := decide (tN (mTag x.2) = x.1.cls) && ((!mIni x.2 || decide (x.1.name = "<init>")) && (match vwCl[mCi x.2]? with | some z => decide (z.1 = x.1.cls) | none => true))
set_option maxRecDepth 100000 in
theorem tMall : tCq.all tMchk = true := by decide +kernel
theorem tCalls (sa : Nat → Nat) : mCalls (tP sa) tN tY tTs tNs := by
  have hp := tPrims
  simp only [Bool.and_eq_true, decide_eq_true_eq] at hp
  obtain ⟨⟨⟨⟨p1, p2⟩, p3⟩, p4⟩, p5⟩ := hp
  refine ⟨fun t k kd q M' h hm => ?_, fun t k kd q h => ?_, fun q M' hm => ?_⟩
  · obtain ⟨pr, q', w1, nb, w2, w3, w4, w5, hc, e⟩ := tG_inv h
    by_cases hpr : pr = 1
    · rw [if_pos hpr] at e; cases e
    · rw [if_neg hpr] at e
      cases e
      replace hm : tM q = some M' := hm
      unfold tGchk at hc
      dsimp only at hc
      rw [if_neg hpr, hm] at hc
      simp only [Bool.and_eq_true, decide_eq_true_eq] at hc
      obtain ⟨c1, c2, ⟨c3, c4, c5⟩, c6, c7, c8⟩ := hc
      refine ⟨⟨tCode hm, kAt_mem c2⟩, ⟨c3, c4, plainFor_of_name c5⟩, c6, c7, ?_, ?_⟩
      · by_cases hn : nb = 1
        · rw [if_pos hn] at c1
          exact Or.inr ⟨_, kNt_mem c1⟩
        · rw [if_neg hn] at c1
          exact Or.inl (kAt_mem c1)
      · by_cases k0 : kd = 0
        · rw [if_pos k0] at c8
          simp only [Bool.and_eq_true] at c8
          refine Or.inl ⟨k0, kAt_mem c8.1, kAt_mem c8.2.1, ?_⟩
          have c9 := c8.2.2
          cases hz : vwCl[mCi M']? with
          | none => rw [hz] at c9; cases c9
          | some z =>
            rw [hz] at c9
            exact ⟨z, rfl, by simpa using c9⟩
        · rw [if_neg k0] at c8
          by_cases k1 : kd = 1
          · rw [if_pos k1] at c8
            exact Or.inr (Or.inl ⟨k1, kAt_mem c8⟩)
          · rw [if_neg k1] at c8
            simp only [Bool.and_eq_true, decide_eq_true_eq] at c8
            exact Or.inr (Or.inr ⟨c8.1, kAt_mem c8.2.1, c8.2.2.1, c8.2.2.2⟩)
  · obtain ⟨pr, q', w1, nb, w2, w3, w4, w5, hc, e⟩ := tG_inv h
    by_cases hpr : pr = 1
    · rw [if_pos hpr] at e
      cases e
      unfold tGchk at hc
      dsimp only at hc
      rw [if_pos hpr] at hc
      by_cases q0 : q = 0
      · rw [if_pos q0] at hc
        simp only [Bool.and_eq_true, decide_eq_true_eq] at hc
        exact Or.inl ⟨q0, hc.1, kAt_mem hc.2, p1, p5⟩
      · rw [if_neg q0] at hc
        simp only [Bool.and_eq_true, decide_eq_true_eq] at hc
        obtain ⟨k1, hc⟩ := hc
        by_cases q1 : q = 1
        · rw [if_pos q1] at hc
          exact Or.inr (Or.inl ⟨q1, k1, kAt_mem hc, p2, p3, p4⟩)
        · rw [if_neg q1] at hc
          have hM := tMath
          simp only [Bool.and_eq_true, decide_eq_true_eq] at hM
          obtain ⟨⟨⟨⟨⟨⟨m0, m1⟩, m2⟩, m3⟩, m4⟩, m5⟩, m6⟩ := hM
          refine Or.inr (Or.inr ⟨k1, m0, ?_⟩)
          by_cases q2 : q = 2
          · rw [if_pos q2] at hc
            exact Or.inl ⟨q2, kAt_mem hc, m1, m4⟩
          · rw [if_neg q2] at hc
            by_cases q3 : q = 3
            · rw [if_pos q3] at hc
              exact Or.inr (Or.inl ⟨q3, kAt_mem hc, m2, m5⟩)
            · rw [if_neg q3] at hc
              simp only [Bool.and_eq_true, decide_eq_true_eq] at hc
              exact Or.inr (Or.inr ⟨hc.1, kAt_mem hc.2, m3, m6⟩)
    · rw [if_neg hpr] at e; cases e
  · replace hm : tM q = some M' := hm
    have hq : q < tMl.length := (List.getElem?_eq_some_iff.mp hm).1
    have hy : tYl[q]? = some (tY q) := by
      have h2 : q < tYl.length := by rw [show tYl.length = tMl.length from rfl]; exact hq
      unfold tY
      rw [List.getD_eq_getElem?_getD, List.getElem?_eq_getElem h2]
      rfl
    have : (tY q, M') ∈ tCq := by
      rw [tCq_eq]
      refine List.mem_of_getElem? (i := q) ?_
      rw [List.getElem?_zip_eq_some]
      exact ⟨hy, hm⟩
    have hc := List.all_eq_true.mp tMall _ this
    unfold tMchk at hc
    simp only [Bool.and_eq_true, Bool.or_eq_true, decide_eq_true_eq, Bool.not_eq_true'] at hc
    refine ⟨hc.1, fun hi => ?_, fun z hz => ?_⟩
    · rcases hc.2.1 with h | h
      · rw [h] at hi; cases hi
      · exact h
    · have c9 := hc.2.2
      rw [hz] at c9
      simpa using c9

