set_option maxRecDepth 100000 in
theorem tCw_100 : tCw (yX6_isOfKind, mX6_isOfKind) := List.mem_filter.mpr ⟨List.mem_of_getElem? (i := 715) rfl, rfl⟩
set_option maxRecDepth 100000 in
theorem tCw_101 : tCw (yX6_isFunction, mX6_isFunction) := List.mem_filter.mpr ⟨List.mem_of_getElem? (i := 759) rfl, rfl⟩
set_option maxRecDepth 100000 in
theorem tCw_102 : tCw (yX6_operatorFlow, mX6_operatorFlow) := List.mem_filter.mpr ⟨List.mem_of_getElem? (i := 727) rfl, rfl⟩
set_option maxRecDepth 100000 in
theorem tCw_103 : tCw (yX6_onlyFunction, mX6_onlyFunction) := List.mem_filter.mpr ⟨List.mem_of_getElem? (i := 723) rfl, rfl⟩
set_option maxRecDepth 100000 in
theorem tCw_104 : tCw (yX6_isInlinable, mX6_isInlinable) := List.mem_filter.mpr ⟨List.mem_of_getElem? (i := 733) rfl, rfl⟩
set_option maxRecDepth 100000 in
theorem tCw_105 : tCw (yX6_isDroppable, mX6_isDroppable) := List.mem_filter.mpr ⟨List.mem_of_getElem? (i := 739) rfl, rfl⟩
set_option maxRecDepth 100000 in
theorem tCw_106 : tCw (yX6_hasRoom, mX6_hasRoom) := List.mem_filter.mpr ⟨List.mem_of_getElem? (i := 861) rfl, rfl⟩
set_option maxRecDepth 100000 in
theorem tCw_107 : tCw (yX6_countExprs, mX6_countExprs) := List.mem_filter.mpr ⟨List.mem_of_getElem? (i := 707) rfl, rfl⟩
set_option maxRecDepth 100000 in
theorem tCw_108 : tCw (yX6_isOfSort, mX6_isOfSort) := List.mem_filter.mpr ⟨List.mem_of_getElem? (i := 711) rfl, rfl⟩
set_option maxRecDepth 100000 in
theorem tCw_109 : tCw (yX6_countCallsInto, mX6_countCallsInto) := List.mem_filter.mpr ⟨List.mem_of_getElem? (i := 763) rfl, rfl⟩
set_option maxRecDepth 100000 in
theorem tCw_110 : tCw (yX7_init, mX7_init) := List.mem_filter.mpr ⟨List.mem_of_getElem? (i := 1037) rfl, rfl⟩
set_option maxRecDepth 100000 in
theorem tCw_111 : tCw (yX7_thrown, mX7_thrown) := List.mem_filter.mpr ⟨List.mem_of_getElem? (i := 1199) rfl, rfl⟩
set_option maxRecDepth 100000 in
theorem tCw_112 : tCw (yX7_at, mX7_at) := List.mem_filter.mpr ⟨List.mem_of_getElem? (i := 1282) rfl, rfl⟩
set_option maxRecDepth 100000 in
theorem tCw_113 : tCw (yX7_get, mX7_get) := List.mem_filter.mpr ⟨List.mem_of_getElem? (i := 1278) rfl, rfl⟩
set_option maxRecDepth 100000 in
theorem tCw_114 : tCw (yX7_set, mX7_set) := List.mem_filter.mpr ⟨List.mem_of_getElem? (i := 1241) rfl, rfl⟩
set_option maxRecDepth 100000 in
theorem tCw_115 : tCw (yX7_begin, mX7_begin) := List.mem_filter.mpr ⟨List.mem_of_getElem? (i := 1237) rfl, rfl⟩
set_option maxRecDepth 100000 in
theorem tCw_116 : tCw (yX7_peek, mX7_peek) := List.mem_filter.mpr ⟨List.mem_of_getElem? (i := 1215) rfl, rfl⟩
set_option maxRecDepth 100000 in
theorem tCw_117 : tCw (yX7_peekBehind, mX7_peekBehind) := List.mem_filter.mpr ⟨List.mem_of_getElem? (i := 1270) rfl, rfl⟩
set_option maxRecDepth 100000 in
theorem tCw_118 : tCw (yX7_blanks, mX7_blanks) := List.mem_filter.mpr ⟨List.mem_of_getElem? (i := 1211) rfl, rfl⟩
set_option maxRecDepth 100000 in
theorem tCw_119 : tCw (yX7_fail, mX7_fail) := List.mem_filter.mpr ⟨List.mem_of_getElem? (i := 1219) rfl, rfl⟩
set_option maxRecDepth 100000 in
theorem tCw_120 : tCw (yX7_isLetter, mX7_isLetter) := List.mem_filter.mpr ⟨List.mem_of_getElem? (i := 1222) rfl, rfl⟩
set_option maxRecDepth 100000 in
theorem tCw_121 : tCw (yX7_isDigit, mX7_isDigit) := List.mem_filter.mpr ⟨List.mem_of_getElem? (i := 1233) rfl, rfl⟩
set_option maxRecDepth 100000 in
theorem tCw_122 : tCw (yX7_wordEnd, mX7_wordEnd) := List.mem_filter.mpr ⟨List.mem_of_getElem? (i := 1230) rfl, rfl⟩
set_option maxRecDepth 100000 in
theorem tCw_123 : tCw (yX7_isWord, mX7_isWord) := List.mem_filter.mpr ⟨List.mem_of_getElem? (i := 1262) rfl, rfl⟩
set_option maxRecDepth 100000 in
theorem tCw_124 : tCw (yX7_name, mX7_name) := List.mem_filter.mpr ⟨List.mem_of_getElem? (i := 1226) rfl, rfl⟩
set_option maxRecDepth 100000 in
theorem tCw_125 : tCw (yX7_binding, mX7_binding) := List.mem_filter.mpr ⟨List.mem_of_getElem? (i := 1253) rfl, rfl⟩
set_option maxRecDepth 100000 in
theorem tCw_126 : tCw (yX7_expression, mX7_expression) := List.mem_filter.mpr ⟨List.mem_of_getElem? (i := 1207) rfl, rfl⟩
set_option maxRecDepth 100000 in
theorem tCw_127 : tCw (yX7_number, mX7_number) := List.mem_filter.mpr ⟨List.mem_of_getElem? (i := 1245) rfl, rfl⟩
set_option maxRecDepth 100000 in
theorem tCw_128 : tCw (yX7_lambda, mX7_lambda) := List.mem_filter.mpr ⟨List.mem_of_getElem? (i := 1249) rfl, rfl⟩
set_option maxRecDepth 100000 in
theorem tCw_129 : tCw (yX7_form, mX7_form) := List.mem_filter.mpr ⟨List.mem_of_getElem? (i := 1257) rfl, rfl⟩
set_option maxRecDepth 100000 in
theorem tCw_130 : tCw (yX7_read, mX7_read) := List.mem_filter.mpr ⟨List.mem_of_getElem? (i := 1203) rfl, rfl⟩
set_option maxRecDepth 100000 in
theorem tCw_131 : tCw (yX7_change, mX7_change) := List.mem_filter.mpr ⟨List.mem_of_getElem? (i := 1274) rfl, rfl⟩
set_option maxRecDepth 100000 in
theorem tCw_132 : tCw (yX7_joinExpr, mX7_joinExpr) := List.mem_filter.mpr ⟨List.mem_of_getElem? (i := 1294) rfl, rfl⟩
set_option maxRecDepth 100000 in
theorem tCw_133 : tCw (yX7_joinVariable, mX7_joinVariable) := List.mem_filter.mpr ⟨List.mem_of_getElem? (i := 1298) rfl, rfl⟩
set_option maxRecDepth 100000 in
theorem tCw_134 : tCw (yX7_findFlows, mX7_findFlows) := List.mem_filter.mpr ⟨List.mem_of_getElem? (i := 1286) rfl, rfl⟩
set_option maxRecDepth 100000 in
theorem tCw_135 : tCw (yX7_flowOf, mX7_flowOf) := List.mem_filter.mpr ⟨List.mem_of_getElem? (i := 1290) rfl, rfl⟩
set_option maxRecDepth 100000 in
theorem tCw_136 : tCw (yX7_isLabel, mX7_isLabel) := List.mem_filter.mpr ⟨List.mem_of_getElem? (i := 1337) rfl, rfl⟩
set_option maxRecDepth 100000 in
theorem tCw_137 : tCw (yX7_isFunction, mX7_isFunction) := List.mem_filter.mpr ⟨List.mem_of_getElem? (i := 1353) rfl, rfl⟩
set_option maxRecDepth 100000 in
theorem tCw_138 : tCw (yX7_countBits, mX7_countBits) := List.mem_filter.mpr ⟨List.mem_of_getElem? (i := 1309) rfl, rfl⟩
set_option maxRecDepth 100000 in
theorem tCw_139 : tCw (yX7_isSingle, mX7_isSingle) := List.mem_filter.mpr ⟨List.mem_of_getElem? (i := 1306) rfl, rfl⟩
set_option maxRecDepth 100000 in
theorem tCw_140 : tCw (yX7_only, mX7_only) := List.mem_filter.mpr ⟨List.mem_of_getElem? (i := 1317) rfl, rfl⟩
set_option maxRecDepth 100000 in
theorem tCw_141 : tCw (yX7_isIn, mX7_isIn) := List.mem_filter.mpr ⟨List.mem_of_getElem? (i := 1325) rfl, rfl⟩
set_option maxRecDepth 100000 in
theorem tCw_142 : tCw (yX7_freeOf, mX7_freeOf) := List.mem_filter.mpr ⟨List.mem_of_getElem? (i := 1321) rfl, rfl⟩
set_option maxRecDepth 100000 in
theorem tCw_143 : tCw (yX7_canInline, mX7_canInline) := List.mem_filter.mpr ⟨List.mem_of_getElem? (i := 1313) rfl, rfl⟩
set_option maxRecDepth 100000 in
theorem tCw_144 : tCw (yX7_canDrop, mX7_canDrop) := List.mem_filter.mpr ⟨List.mem_of_getElem? (i := 1329) rfl, rfl⟩
set_option maxRecDepth 100000 in
theorem tCw_145 : tCw (yX7_told, mX7_told) := List.mem_filter.mpr ⟨List.mem_of_getElem? (i := 1302) rfl, rfl⟩
set_option maxRecDepth 100000 in
theorem tCw_146 : tCw (yX7_expr, mX7_expr) := List.mem_filter.mpr ⟨List.mem_of_getElem? (i := 1333) rfl, rfl⟩
set_option maxRecDepth 100000 in
theorem tCw_147 : tCw (yX7_flow, mX7_flow) := List.mem_filter.mpr ⟨List.mem_of_getElem? (i := 1341) rfl, rfl⟩
set_option maxRecDepth 100000 in
theorem tCw_148 : tCw (yX7_flows, mX7_flows) := List.mem_filter.mpr ⟨List.mem_of_getElem? (i := 1345) rfl, rfl⟩
set_option maxRecDepth 100000 in
theorem tCw_149 : tCw (yX7_function, mX7_function) := List.mem_filter.mpr ⟨List.mem_of_getElem? (i := 1349) rfl, rfl⟩
