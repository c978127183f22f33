set_option maxRecDepth 100000 in
theorem tCw_50 : tCw (yX4_isDigit, mX4_isDigit) := List.mem_filter.mpr ⟨List.mem_of_getElem? (i := 491) rfl, rfl⟩
set_option maxRecDepth 100000 in
theorem tCw_51 : tCw (yX4_takeExpr, mX4_takeExpr) := List.mem_filter.mpr ⟨List.mem_of_getElem? (i := 461) rfl, rfl⟩
set_option maxRecDepth 100000 in
theorem tCw_52 : tCw (yX4_takeMeaning, mX4_takeMeaning) := List.mem_filter.mpr ⟨List.mem_of_getElem? (i := 480) rfl, rfl⟩
set_option maxRecDepth 100000 in
theorem tCw_53 : tCw (yX4_meaningOf, mX4_meaningOf) := List.mem_filter.mpr ⟨List.mem_of_getElem? (i := 495) rfl, rfl⟩
set_option maxRecDepth 100000 in
theorem tCw_54 : tCw (yX4_takeNumber, mX4_takeNumber) := List.mem_filter.mpr ⟨List.mem_of_getElem? (i := 503) rfl, rfl⟩
set_option maxRecDepth 100000 in
theorem tCw_55 : tCw (yX4_takeLambda, mX4_takeLambda) := List.mem_filter.mpr ⟨List.mem_of_getElem? (i := 507) rfl, rfl⟩
set_option maxRecDepth 100000 in
theorem tCw_56 : tCw (yX4_takeForm, mX4_takeForm) := List.mem_filter.mpr ⟨List.mem_of_getElem? (i := 536) rfl, rfl⟩
set_option maxRecDepth 100000 in
theorem tCw_57 : tCw (yX4_nameLet, mX4_nameLet) := List.mem_filter.mpr ⟨List.mem_of_getElem? (i := 601) rfl, rfl⟩
set_option maxRecDepth 100000 in
theorem tCw_58 : tCw (yX4_takeFormKind, mX4_takeFormKind) := List.mem_filter.mpr ⟨List.mem_of_getElem? (i := 540) rfl, rfl⟩
set_option maxRecDepth 100000 in
theorem tCw_59 : tCw (yX4_isWord, mX4_isWord) := List.mem_filter.mpr ⟨List.mem_of_getElem? (i := 547) rfl, rfl⟩
set_option maxRecDepth 100000 in
theorem tCw_60 : tCw (yX4_wordEnd, mX4_wordEnd) := List.mem_filter.mpr ⟨List.mem_of_getElem? (i := 488) rfl, rfl⟩
set_option maxRecDepth 100000 in
theorem tCw_61 : tCw (yX4_takeName, mX4_takeName) := List.mem_filter.mpr ⟨List.mem_of_getElem? (i := 484) rfl, rfl⟩
set_option maxRecDepth 100000 in
theorem tCw_62 : tCw (yX4_takeBinding, mX4_takeBinding) := List.mem_filter.mpr ⟨List.mem_of_getElem? (i := 520) rfl, rfl⟩
set_option maxRecDepth 100000 in
theorem tCw_63 : tCw (yX4_expect, mX4_expect) := List.mem_filter.mpr ⟨List.mem_of_getElem? (i := 528) rfl, rfl⟩
set_option maxRecDepth 100000 in
theorem tCw_64 : tCw (yX4_open, mX4_open) := List.mem_filter.mpr ⟨List.mem_of_getElem? (i := 511) rfl, rfl⟩
set_option maxRecDepth 100000 in
theorem tCw_65 : tCw (yX4_setVariable, mX4_setVariable) := List.mem_filter.mpr ⟨List.mem_of_getElem? (i := 524) rfl, rfl⟩
set_option maxRecDepth 100000 in
theorem tCw_66 : tCw (yX4_bind, mX4_bind) := List.mem_filter.mpr ⟨List.mem_of_getElem? (i := 532) rfl, rfl⟩
set_option maxRecDepth 100000 in
theorem tCw_67 : tCw (yX4_endExpr, mX4_endExpr) := List.mem_filter.mpr ⟨List.mem_of_getElem? (i := 605) rfl, rfl⟩
set_option maxRecDepth 100000 in
theorem tCw_68 : tCw (yX4_bindLet, mX4_bindLet) := List.mem_filter.mpr ⟨List.mem_of_getElem? (i := 609) rfl, rfl⟩
set_option maxRecDepth 100000 in
theorem tCw_69 : tCw (yX5_init, mX5_init) := List.mem_filter.mpr ⟨List.mem_of_getElem? (i := 407) rfl, rfl⟩
set_option maxRecDepth 100000 in
theorem tCw_70 : tCw (yX5_put, mX5_put) := List.mem_filter.mpr ⟨List.mem_of_getElem? (i := 892) rfl, rfl⟩
set_option maxRecDepth 100000 in
theorem tCw_71 : tCw (yX5_putByte, mX5_putByte) := List.mem_filter.mpr ⟨List.mem_of_getElem? (i := 902) rfl, rfl⟩
set_option maxRecDepth 100000 in
theorem tCw_72 : tCw (yX5_putText, mX5_putText) := List.mem_filter.mpr ⟨List.mem_of_getElem? (i := 923) rfl, rfl⟩
set_option maxRecDepth 100000 in
theorem tCw_73 : tCw (yX5_putNumber, mX5_putNumber) := List.mem_filter.mpr ⟨List.mem_of_getElem? (i := 914) rfl, rfl⟩
set_option maxRecDepth 100000 in
theorem tCw_74 : tCw (yX5_putVariable, mX5_putVariable) := List.mem_filter.mpr ⟨List.mem_of_getElem? (i := 910) rfl, rfl⟩
set_option maxRecDepth 100000 in
theorem tCw_75 : tCw (yX5_putBlank, mX5_putBlank) := List.mem_filter.mpr ⟨List.mem_of_getElem? (i := 896) rfl, rfl⟩
set_option maxRecDepth 100000 in
theorem tCw_76 : tCw (yX5_putHead, mX5_putHead) := List.mem_filter.mpr ⟨List.mem_of_getElem? (i := 906) rfl, rfl⟩
set_option maxRecDepth 100000 in
theorem tCw_77 : tCw (yX5_putEnds, mX5_putEnds) := List.mem_filter.mpr ⟨List.mem_of_getElem? (i := 932) rfl, rfl⟩
set_option maxRecDepth 100000 in
theorem tCw_78 : tCw (yX6_init, mX6_init) := List.mem_filter.mpr ⟨List.mem_of_getElem? (i := 140) rfl, rfl⟩
set_option maxRecDepth 100000 in
theorem tCw_79 : tCw (yX6_type, mX6_type) := List.mem_filter.mpr ⟨List.mem_of_getElem? (i := 950) rfl, rfl⟩
set_option maxRecDepth 100000 in
theorem tCw_80 : tCw (yX6_clear, mX6_clear) := List.mem_filter.mpr ⟨List.mem_of_getElem? (i := 446) rfl, rfl⟩
set_option maxRecDepth 100000 in
theorem tCw_81 : tCw (yX6_read, mX6_read) := List.mem_filter.mpr ⟨List.mem_of_getElem? (i := 450) rfl, rfl⟩
set_option maxRecDepth 100000 in
theorem tCw_82 : tCw (yX6_told, mX6_told) := List.mem_filter.mpr ⟨List.mem_of_getElem? (i := 703) rfl, rfl⟩
set_option maxRecDepth 100000 in
theorem tCw_83 : tCw (yX6_expr, mX6_expr) := List.mem_filter.mpr ⟨List.mem_of_getElem? (i := 743) rfl, rfl⟩
set_option maxRecDepth 100000 in
theorem tCw_84 : tCw (yX6_flow, mX6_flow) := List.mem_filter.mpr ⟨List.mem_of_getElem? (i := 747) rfl, rfl⟩
set_option maxRecDepth 100000 in
theorem tCw_85 : tCw (yX6_flows, mX6_flows) := List.mem_filter.mpr ⟨List.mem_of_getElem? (i := 751) rfl, rfl⟩
set_option maxRecDepth 100000 in
theorem tCw_86 : tCw (yX6_function, mX6_function) := List.mem_filter.mpr ⟨List.mem_of_getElem? (i := 755) rfl, rfl⟩
set_option maxRecDepth 100000 in
theorem tCw_87 : tCw (yX6_reaches, mX6_reaches) := List.mem_filter.mpr ⟨List.mem_of_getElem? (i := 767) rfl, rfl⟩
set_option maxRecDepth 100000 in
theorem tCw_88 : tCw (yX6_single, mX6_single) := List.mem_filter.mpr ⟨List.mem_of_getElem? (i := 771) rfl, rfl⟩
set_option maxRecDepth 100000 in
theorem tCw_89 : tCw (yX6_run, mX6_run) := List.mem_filter.mpr ⟨List.mem_of_getElem? (i := 775) rfl, rfl⟩
set_option maxRecDepth 100000 in
theorem tCw_90 : tCw (yX6_result, mX6_result) := List.mem_filter.mpr ⟨List.mem_of_getElem? (i := 849) rfl, rfl⟩
set_option maxRecDepth 100000 in
theorem tCw_91 : tCw (yX6_used, mX6_used) := List.mem_filter.mpr ⟨List.mem_of_getElem? (i := 853) rfl, rfl⟩
set_option maxRecDepth 100000 in
theorem tCw_92 : tCw (yX6_inline, mX6_inline) := List.mem_filter.mpr ⟨List.mem_of_getElem? (i := 857) rfl, rfl⟩
set_option maxRecDepth 100000 in
theorem tCw_93 : tCw (yX6_drop, mX6_drop) := List.mem_filter.mpr ⟨List.mem_of_getElem? (i := 884) rfl, rfl⟩
set_option maxRecDepth 100000 in
theorem tCw_94 : tCw (yX6_write, mX6_write) := List.mem_filter.mpr ⟨List.mem_of_getElem? (i := 888) rfl, rfl⟩
set_option maxRecDepth 100000 in
theorem tCw_95 : tCw (yX6_out, mX6_out) := List.mem_filter.mpr ⟨List.mem_of_getElem? (i := 940) rfl, rfl⟩
set_option maxRecDepth 100000 in
theorem tCw_96 : tCw (yX6_at, mX6_at) := List.mem_filter.mpr ⟨List.mem_of_getElem? (i := 516) rfl, rfl⟩
set_option maxRecDepth 100000 in
theorem tCw_97 : tCw (yX6_bitsAt, mX6_bitsAt) := List.mem_filter.mpr ⟨List.mem_of_getElem? (i := 666) rfl, rfl⟩
set_option maxRecDepth 100000 in
theorem tCw_98 : tCw (yX6_takeSpare, mX6_takeSpare) := List.mem_filter.mpr ⟨List.mem_of_getElem? (i := 613) rfl, rfl⟩
set_option maxRecDepth 100000 in
theorem tCw_99 : tCw (yX6_isLabel, mX6_isLabel) := List.mem_filter.mpr ⟨List.mem_of_getElem? (i := 719) rfl, rfl⟩
