/-! THE START: what the Statement gives (rows printed by wip/whole/gen_start.py) -/
def nW : List Cond := flatC (Jvm.Cond.and given_1 narrow_1)
/-- an array's words -/
def aWs (tm : Term) (ty : FieldType) (vs : List Nat) : List Cond := Cond.arrayOf tm ty :: Cond.eq (.length tm) (.int (nI vs.length)) :: (List.range vs.length).map (fun j => Cond.eq (.elem tm (.int (nI j))) (.int (nI (vs.getD j 0))))
/-- a string's words -/
def sWs (own : String) (k : Nat) (vs : List Nat) : List Cond := Cond.exactly (.string own k) "java/lang/String" :: Cond.eq (.field (.string own k) "java/lang/String" "coder" "B") (.int 0) :: aWs (.field (.string own k) "java/lang/String" "value" "[B") .byte vs
theorem nW_in {ws : List Cond} {p n : Nat} (h : (nW.drop p).take n = ws) : ∀ w ∈ ws, w ∈ nW := by
  intro w hw
  rw [← h] at hw
  exact List.mem_of_mem_drop (List.mem_of_mem_take hw)
set_option maxRecDepth 100000 in
theorem nS_0 : (nW.drop 262).take 6 = sWs "FlowDesk$Reader" 147 [105, 102] := by decide +kernel
set_option maxRecDepth 100000 in
theorem nR_0 : lw_tbl[543]? = some (Cond.stringRef "FlowDesk$Reader" 147 "if") := by decide +kernel
set_option maxRecDepth 100000 in
theorem nS_1 : (nW.drop 268).take 7 = sWs "FlowDesk$Reader" 153 [108, 101, 116] := by decide +kernel
set_option maxRecDepth 100000 in
theorem nR_1 : lw_tbl[596]? = some (Cond.stringRef "FlowDesk$Reader" 153 "let") := by decide +kernel
set_option maxRecDepth 100000 in
theorem nS_2 : (nW.drop 276).take 7 = sWs "FlowDesk$Reader" 155 [102, 105, 120] := by decide +kernel
set_option maxRecDepth 100000 in
theorem nR_2 : lw_tbl[597]? = some (Cond.stringRef "FlowDesk$Reader" 155 "fix") := by decide +kernel
set_option maxRecDepth 100000 in
theorem nS_3 : (nW.drop 285).take 9 = sWs "FlowDesk$Writer" 78 [40, 102, 105, 120, 32] := by decide +kernel
set_option maxRecDepth 100000 in
theorem nR_3 : lw_tbl[919]? = some (Cond.stringRef "FlowDesk$Writer" 78 "(fix ") := by decide +kernel
set_option maxRecDepth 100000 in
theorem nS_4 : (nW.drop 297).take 7 = sWs "FlowDesk$Writer" 87 [40, 105, 102] := by decide +kernel
set_option maxRecDepth 100000 in
theorem nR_4 : lw_tbl[926]? = some (Cond.stringRef "FlowDesk$Writer" 87 "(if") := by decide +kernel
set_option maxRecDepth 100000 in
theorem nS_5 : (nW.drop 308).take 9 = sWs "FlowDesk$Writer" 89 [40, 108, 101, 116, 32] := by decide +kernel
set_option maxRecDepth 100000 in
theorem nR_5 : lw_tbl[927]? = some (Cond.stringRef "FlowDesk$Writer" 89 "(let ") := by decide +kernel
set_option maxRecDepth 100000 in
theorem nS_6 : (nW.drop 322).take 19 = sWs "FlowDesk" 53 [110, 32, 105, 115, 32, 110, 111, 116, 32, 48, 32, 46, 46, 32, 56] := by decide +kernel
set_option maxRecDepth 100000 in
theorem nR_6 : lw_tbl[991]? = some (Cond.stringRef "FlowDesk" 53 "n is not 0 .. 8") := by decide +kernel
set_option maxRecDepth 100000 in
theorem nS_7 : (nW.drop 347).take 30 = sWs "FlowDesk" 64 [116, 104, 101, 32, 116, 101, 120, 116, 32, 119, 111, 117, 108, 100, 32, 98, 101, 32, 116, 111, 111, 32, 108, 111, 110, 103] := by decide +kernel
set_option maxRecDepth 100000 in
theorem nR_7 : lw_tbl[1026]? = some (Cond.stringRef "FlowDesk" 64 "the text would be too long") := by decide +kernel
set_option maxRecDepth 100000 in
theorem nS_8 : (nW.drop 384).take 6 = sWs "FlowDeskModel" 187 [105, 102] := by decide +kernel
set_option maxRecDepth 100000 in
theorem nR_8 : lw_tbl[1258]? = some (Cond.stringRef "FlowDeskModel" 187 "if") := by decide +kernel
set_option maxRecDepth 100000 in
theorem nS_9 : (nW.drop 398).take 7 = sWs "FlowDeskModel" 193 [108, 101, 116] := by decide +kernel
set_option maxRecDepth 100000 in
theorem nR_9 : lw_tbl[1265]? = some (Cond.stringRef "FlowDeskModel" 193 "let") := by decide +kernel
set_option maxRecDepth 100000 in
theorem nS_10 : (nW.drop 414).take 7 = sWs "FlowDeskModel" 195 [102, 105, 120] := by decide +kernel
set_option maxRecDepth 100000 in
theorem nR_10 : lw_tbl[1266]? = some (Cond.stringRef "FlowDeskModel" 195 "fix") := by decide +kernel
set_option maxRecDepth 100000 in
theorem nS_11 : (nW.drop 431).take 7 = sWs "FlowDeskModel" 347 [105, 102, 32] := by decide +kernel
set_option maxRecDepth 100000 in
theorem nR_11 : lw_tbl[1462]? = some (Cond.stringRef "FlowDeskModel" 347 "if ") := by decide +kernel
set_option maxRecDepth 100000 in
theorem nS_12 : (nW.drop 449).take 8 = sWs "FlowDeskModel" 353 [108, 101, 116, 32] := by decide +kernel
set_option maxRecDepth 100000 in
theorem nR_12 : lw_tbl[1467]? = some (Cond.stringRef "FlowDeskModel" 353 "let ") := by decide +kernel
set_option maxRecDepth 100000 in
theorem nS_13 : (nW.drop 469).take 8 = sWs "FlowDeskModel" 355 [102, 105, 120, 32] := by decide +kernel
set_option maxRecDepth 100000 in
theorem nR_13 : lw_tbl[1468]? = some (Cond.stringRef "FlowDeskModel" 355 "fix ") := by decide +kernel
set_option maxRecDepth 100000 in
theorem nS_14 : (nW.drop 490).take 9 = sWs "FlowDeskModel" 357 [43, 45, 42, 61, 60] := by decide +kernel
set_option maxRecDepth 100000 in
theorem nR_14 : lw_tbl[1469]? = some (Cond.stringRef "FlowDeskModel" 357 "+-*=<") := by decide +kernel
set_option maxRecDepth 100000 in
theorem nS_15 : (nW.drop 513).take 4 = sWs "java/lang/StringLatin1" 151 [] := by decide +kernel
set_option maxRecDepth 100000 in
theorem nR_15 : lw_tbl[1484]? = some (Cond.stringRef "java/lang/StringLatin1" 151 "") := by decide +kernel
set_option maxRecDepth 100000 in
theorem nS_16 : (nW.drop 532).take 7 = sWs "java/util/Arrays" 337 [32, 62, 32] := by decide +kernel
set_option maxRecDepth 100000 in
theorem nR_16 : lw_tbl[1593]? = some (Cond.stringRef "java/util/Arrays" 337 " > ") := by decide +kernel
set_option maxRecDepth 100000 in
theorem nA_0 : (nW.drop 5).take 14 = aWs (.static "FlowDesk" "PARTS_OF_KIND" "[I") .int stA := by decide +kernel
set_option maxRecDepth 100000 in
theorem nA_1 : (nW.drop 20).take 7 = aWs (.static "FlowDesk" "OPERATION_SIGNS" "[I") .int stB := by decide +kernel
set_option maxRecDepth 100000 in
theorem nZ_0 : nW[27]? = some (Cond.eq (.static "java/lang/String" "COMPACT_STRINGS" "Z") (.int 1)) := by decide +kernel
set_option maxRecDepth 100000 in
theorem nZ_1 : nW[28]? = some (Cond.isRef (.static "jdk/internal/util/Preconditions" "SIOOBE_FORMATTER" "Ljava/util/function/BiFunction;")) := by decide +kernel
set_option maxRecDepth 100000 in
theorem nZ_2 : nW[32]? = some (Cond.isRef (.static Bundle.tN "UNASSIGNED_STACK" Bundle.steD)) := by decide +kernel
set_option maxRecDepth 100000 in
theorem nZ_3 : nW[33]? = some (Cond.isRef (.static Bundle.tN "SUPPRESSED_SENTINEL" Bundle.listD)) := by decide +kernel
set_option maxRecDepth 100000 in
theorem nZ_4 : nW[248]? = some (Cond.not (Cond.castable eU eI)) := by decide +kernel
set_option maxRecDepth 100000 in
theorem lS_0 : Cond.laysStatic "FlowDesk" "PARTS_OF_KIND" "[I" ∈ lw_tbl := List.mem_of_getElem? (i := 513) (by decide +kernel)
set_option maxRecDepth 100000 in
theorem lS_1 : Cond.laysStatic "FlowDesk" "OPERATION_SIGNS" "[I" ∈ lw_tbl := List.mem_of_getElem? (i := 542) (by decide +kernel)
set_option maxRecDepth 100000 in
theorem lS_2 : Cond.laysStatic "java/lang/String" "COMPACT_STRINGS" "Z" ∈ lw_tbl := List.mem_of_getElem? (i := 557) (by decide +kernel)
set_option maxRecDepth 100000 in
theorem lS_3 : Cond.laysStatic "jdk/internal/util/Preconditions" "SIOOBE_FORMATTER" "Ljava/util/function/BiFunction;" ∈ lw_tbl := List.mem_of_getElem? (i := 573) (by decide +kernel)
set_option maxRecDepth 100000 in
theorem lS_4 : Cond.laysStatic Bundle.tN "UNASSIGNED_STACK" Bundle.steD ∈ lw_tbl := List.mem_of_getElem? (i := 978) (by decide +kernel)
set_option maxRecDepth 100000 in
theorem lS_5 : Cond.laysStatic Bundle.tN "SUPPRESSED_SENTINEL" Bundle.listD ∈ lw_tbl := List.mem_of_getElem? (i := 980) (by decide +kernel)
set_option maxRecDepth 100000 in
theorem lI_0 : Cond.initialized "FlowDesk" ∈ lw_tbl := List.mem_of_getElem? (i := 112) (by decide +kernel)
set_option maxRecDepth 100000 in
theorem lI_1 : Cond.initialized "java/lang/String" ∈ lw_tbl := List.mem_of_getElem? (i := 126) (by decide +kernel)
set_option maxRecDepth 100000 in
theorem lI_2 : Cond.initialized "jdk/internal/util/Preconditions" ∈ lw_tbl := List.mem_of_getElem? (i := 128) (by decide +kernel)
set_option maxRecDepth 100000 in
theorem lI_3 : Cond.initialized Bundle.tN ∈ lw_tbl := List.mem_of_getElem? (i := 120) (by decide +kernel)
set_option maxRecDepth 100000 in
theorem lC_0 : Cond.castable eI eI ∈ lw_tbl := List.mem_of_getElem? (i := 953) (by decide +kernel)
set_option maxRecDepth 100000 in
theorem lC_1 : Cond.castable eU eU ∈ lw_tbl := List.mem_of_getElem? (i := 1019) (by decide +kernel)
set_option maxRecDepth 100000 in
theorem lO_0 : Cond.arrayOver (.array .int) ∈ lw_tbl := List.mem_of_getElem? (i := 151) (by decide +kernel)
set_option maxRecDepth 100000 in
theorem nI_all : (List.range 10).all (fun k => match vwCl[k]? with | some q => kAt ([1486, 1498, 325, 297, 319, 145, 245, 404, 137, 1034].getD k 0) (.instantiable q.1 q.2.2) | none => false) = true := by decide +kernel
