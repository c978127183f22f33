set_option maxRecDepth 100000 in
theorem tCw_150 : tCw (yX7_reaches, mX7_reaches) := List.mem_filter.mpr ⟨List.mem_of_getElem? (i := 1357) rfl, rfl⟩
set_option maxRecDepth 100000 in
theorem tCw_151 : tCw (yX7_single, mX7_single) := List.mem_filter.mpr ⟨List.mem_of_getElem? (i := 1361) rfl, rfl⟩
set_option maxRecDepth 100000 in
theorem tCw_152 : tCw (yX7_chain, mX7_chain) := List.mem_filter.mpr ⟨List.mem_of_getElem? (i := 1385) rfl, rfl⟩
set_option maxRecDepth 100000 in
theorem tCw_153 : tCw (yX7_push, mX7_push) := List.mem_filter.mpr ⟨List.mem_of_getElem? (i := 1369) rfl, rfl⟩
set_option maxRecDepth 100000 in
theorem tCw_154 : tCw (yX7_run, mX7_run) := List.mem_filter.mpr ⟨List.mem_of_getElem? (i := 1365) rfl, rfl⟩
set_option maxRecDepth 100000 in
theorem tCw_155 : tCw (yX7_work, mX7_work) := List.mem_filter.mpr ⟨List.mem_of_getElem? (i := 1373) rfl, rfl⟩
set_option maxRecDepth 100000 in
theorem tCw_156 : tCw (yX7_goOn, mX7_goOn) := List.mem_filter.mpr ⟨List.mem_of_getElem? (i := 1377) rfl, rfl⟩
set_option maxRecDepth 100000 in
theorem tCw_157 : tCw (yX7_stuck, mX7_stuck) := List.mem_filter.mpr ⟨List.mem_of_getElem? (i := 1381) rfl, rfl⟩
set_option maxRecDepth 100000 in
theorem tCw_158 : tCw (yX7_call, mX7_call) := List.mem_filter.mpr ⟨List.mem_of_getElem? (i := 1389) rfl, rfl⟩
set_option maxRecDepth 100000 in
theorem tCw_159 : tCw (yX7_reckon, mX7_reckon) := List.mem_filter.mpr ⟨List.mem_of_getElem? (i := 1393) rfl, rfl⟩
set_option maxRecDepth 100000 in
theorem tCw_160 : tCw (yX7_result, mX7_result) := List.mem_filter.mpr ⟨List.mem_of_getElem? (i := 1397) rfl, rfl⟩
set_option maxRecDepth 100000 in
theorem tCw_161 : tCw (yX7_used, mX7_used) := List.mem_filter.mpr ⟨List.mem_of_getElem? (i := 1401) rfl, rfl⟩
set_option maxRecDepth 100000 in
theorem tCw_162 : tCw (yX7_copy, mX7_copy) := List.mem_filter.mpr ⟨List.mem_of_getElem? (i := 1413) rfl, rfl⟩
set_option maxRecDepth 100000 in
theorem tCw_163 : tCw (yX7_fresh, mX7_fresh) := List.mem_filter.mpr ⟨List.mem_of_getElem? (i := 1421) rfl, rfl⟩
set_option maxRecDepth 100000 in
theorem tCw_164 : tCw (yX7_binder, mX7_binder) := List.mem_filter.mpr ⟨List.mem_of_getElem? (i := 1425) rfl, rfl⟩
set_option maxRecDepth 100000 in
theorem tCw_165 : tCw (yX7_place, mX7_place) := List.mem_filter.mpr ⟨List.mem_of_getElem? (i := 1417) rfl, rfl⟩
set_option maxRecDepth 100000 in
theorem tCw_166 : tCw (yX7_changed, mX7_changed) := List.mem_filter.mpr ⟨List.mem_of_getElem? (i := 1409) rfl, rfl⟩
set_option maxRecDepth 100000 in
theorem tCw_167 : tCw (yX7_inline, mX7_inline) := List.mem_filter.mpr ⟨List.mem_of_getElem? (i := 1405) rfl, rfl⟩
set_option maxRecDepth 100000 in
theorem tCw_168 : tCw (yX7_drop, mX7_drop) := List.mem_filter.mpr ⟨List.mem_of_getElem? (i := 1429) rfl, rfl⟩
set_option maxRecDepth 100000 in
theorem tCw_169 : tCw (yX7_type, mX7_type) := List.mem_filter.mpr ⟨List.mem_of_getElem? (i := 1433) rfl, rfl⟩
set_option maxRecDepth 100000 in
theorem tCw_170 : tCw (yX7_clear, mX7_clear) := List.mem_filter.mpr ⟨List.mem_of_getElem? (i := 1437) rfl, rfl⟩
set_option maxRecDepth 100000 in
theorem tCw_171 : tCw (yX7_say, mX7_say) := List.mem_filter.mpr ⟨List.mem_of_getElem? (i := 1453) rfl, rfl⟩
set_option maxRecDepth 100000 in
theorem tCw_172 : tCw (yX7_sayNumber, mX7_sayNumber) := List.mem_filter.mpr ⟨List.mem_of_getElem? (i := 1457) rfl, rfl⟩
set_option maxRecDepth 100000 in
theorem tCw_173 : tCw (yX7_sayVariable, mX7_sayVariable) := List.mem_filter.mpr ⟨List.mem_of_getElem? (i := 1449) rfl, rfl⟩
set_option maxRecDepth 100000 in
theorem tCw_174 : tCw (yX7_sayExpr, mX7_sayExpr) := List.mem_filter.mpr ⟨List.mem_of_getElem? (i := 1445) rfl, rfl⟩
set_option maxRecDepth 100000 in
theorem tCw_175 : tCw (yX7_sayWord, mX7_sayWord) := List.mem_filter.mpr ⟨List.mem_of_getElem? (i := 1466) rfl, rfl⟩
set_option maxRecDepth 100000 in
theorem tCw_176 : tCw (yX7_sayForm, mX7_sayForm) := List.mem_filter.mpr ⟨List.mem_of_getElem? (i := 1461) rfl, rfl⟩
set_option maxRecDepth 100000 in
theorem tCw_177 : tCw (yX7_write, mX7_write) := List.mem_filter.mpr ⟨List.mem_of_getElem? (i := 1441) rfl, rfl⟩
set_option maxRecDepth 100000 in
theorem tCw_178 : tCw (yX7_out, mX7_out) := List.mem_filter.mpr ⟨List.mem_of_getElem? (i := 1707) rfl, rfl⟩
set_option maxRecDepth 100000 in
theorem tCw_179 : tCw (yJ0_length_8abf5, mJ0_length_8abf5) := List.mem_filter.mpr ⟨List.mem_of_getElem? (i := 551) rfl, rfl⟩
set_option maxRecDepth 100000 in
theorem tCw_180 : tCw (yJ0_charAt_5068e, mJ0_charAt_5068e) := List.mem_filter.mpr ⟨List.mem_of_getElem? (i := 561) rfl, rfl⟩
set_option maxRecDepth 100000 in
theorem tCw_181 : tCw (yJ0_coder_7d493, mJ0_coder_7d493) := List.mem_filter.mpr ⟨List.mem_of_getElem? (i := 555) rfl, rfl⟩
set_option maxRecDepth 100000 in
theorem tCw_182 : tCw (yJ0_isLatin1_aae02, mJ0_isLatin1_aae02) := List.mem_filter.mpr ⟨List.mem_of_getElem? (i := 565) rfl, rfl⟩
set_option maxRecDepth 100000 in
theorem tCw_183 : tCw (yJ0_substring_37a41, mJ0_substring_37a41) := List.mem_filter.mpr ⟨List.mem_of_getElem? (i := 1473) rfl, rfl⟩
set_option maxRecDepth 100000 in
theorem tCw_184 : tCw (yJ0_checkBoundsBeginEnd_23922, mJ0_checkBoundsBeginEnd_23922) := List.mem_filter.mpr ⟨List.mem_of_getElem? (i := 1477) rfl, rfl⟩
set_option maxRecDepth 100000 in
theorem tCw_185 : tCw (yJ0_init_031fb, mJ0_init_031fb) := List.mem_filter.mpr ⟨List.mem_of_getElem? (i := 1694) rfl, rfl⟩
set_option maxRecDepth 100000 in
theorem tCw_186 : tCw (yJ1_charAt_3b067, mJ1_charAt_3b067) := List.mem_filter.mpr ⟨List.mem_of_getElem? (i := 568) rfl, rfl⟩
set_option maxRecDepth 100000 in
theorem tCw_187 : tCw (yJ1_newString_b4f7a, mJ1_newString_b4f7a) := List.mem_filter.mpr ⟨List.mem_of_getElem? (i := 1483) rfl, rfl⟩
set_option maxRecDepth 100000 in
theorem tCw_188 : tCw (yJ7_copyOfRange_39247, mJ7_copyOfRange_39247) := List.mem_filter.mpr ⟨List.mem_of_getElem? (i := 1489) rfl, rfl⟩
set_option maxRecDepth 100000 in
theorem tCw_189 : tCw (yJ0_checkIndex_df160, mJ0_checkIndex_df160) := List.mem_filter.mpr ⟨List.mem_of_getElem? (i := 571) rfl, rfl⟩
set_option maxRecDepth 100000 in
theorem tCw_190 : tCw (yJ7_copyOfRangeByte_39247, mJ7_copyOfRangeByte_39247) := List.mem_filter.mpr ⟨List.mem_of_getElem? (i := 1492) rfl, rfl⟩
set_option maxRecDepth 100000 in
theorem tCw_191 : tCw (yJ7_checkLength_df160, mJ7_checkLength_df160) := List.mem_filter.mpr ⟨List.mem_of_getElem? (i := 1495) rfl, rfl⟩
set_option maxRecDepth 100000 in
theorem tCw_192 : tCw (yJ3_checkIndex_8e157, mJ3_checkIndex_8e157) := List.mem_filter.mpr ⟨List.mem_of_getElem? (i := 576) rfl, rfl⟩
set_option maxRecDepth 100000 in
theorem tCw_193 : tCw (yJ3_checkFromToIndex_8c36e, mJ3_checkFromToIndex_8c36e) := List.mem_filter.mpr ⟨List.mem_of_getElem? (i := 1480) rfl, rfl⟩
