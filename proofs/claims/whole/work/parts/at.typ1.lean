/-! TYPE THROWS, AND THE LAW'S OWN type CATCHES -/
/-- the words of a throw stand here among the tables' -/
def tSeg : List Cond := (lw_tbl.drop 945).take 95 ++ (lw_tbl.drop 111).take 40
theorem tSeg_in {w : Cond} (h : w ∈ tSeg) (g : goodWord w = true) : w ∈ tTs := by
  refine List.mem_filter.mpr ⟨?_, g⟩
  rcases List.mem_append.mp h with h | h
  · exact List.mem_of_mem_drop (List.mem_of_mem_take h)
  · exact List.mem_of_mem_drop (List.mem_of_mem_take h)
def xNm : List String := ["java/lang/RuntimeException", "java/lang/Exception"]
/-- a constructor's code word is there -/
def xCo (y : MethodName) (w : Cond) : Bool := match w with
  | .code z _ _ _ => decide (z = y)
  | _ => false
def xDec (w : Cond) : Bool := match w with
  | .declares y => decide (Cond.instanceMethod y ∈ tSeg) && tSeg.any (xCo y)
  | _ => false
def xOk (E : String) (w : Cond) : Bool := ((goodWord w && decide (w ∈ tSeg)) || decide (w = .castable E E)) || xDec w
theorem decl_of {args : Array Value} {s : State} {y : MethodName} {bytes : ByteArray} {ml : Nat} {rt : Option FieldType} (hi : (Cond.instanceMethod y).before args s = true) (hc : (Cond.code y bytes ml rt).before args s = true) : (Cond.declares y).before args s = true := by
  obtain ⟨m, meth, h1, h2, h3, -⟩ := Cond.instanceMethod_spec (args := args) (first := s) (o := none) (s := s) (idx := []) hi
  obtain ⟨meth', c, g1, -, -, -, -, -, -, g8⟩ := Cond.code_spec (args := args) (first := s) (o := none) (s := s) (idx := []) h1 hc
  cases Option.some.inj (h2.symm.trans g1)
  simp [Cond.before, Cond.holds, Cond.value, h1, h2, h3, g8]
set_option maxRecDepth 100000 in
set_option maxHeartbeats 4000000 in
theorem xI_all : (Cond.classLink "FlowDesk" 51 eI :: Cond.initialized eI :: vx_atS "FlowDesk" 55 eI xNm).all (xOk eI) = true := by decide +kernel
set_option maxRecDepth 100000 in
set_option maxHeartbeats 4000000 in
theorem xU_all : (Cond.classLink "FlowDesk" 62 eU :: Cond.initialized eU :: vx_atS "FlowDesk" 66 eU xNm).all (xOk eU) = true := by decide +kernel
theorem xOk_ot {E : String} {w : Cond} (h : xOk E w = true) : vx_ot w = true := by
  unfold xOk at h
  simp only [Bool.or_eq_true, Bool.and_eq_true, decide_eq_true_eq] at h
  unfold vx_ot
  rcases h with (⟨h, -⟩ | rfl) | h
  · rw [h, Bool.or_true]
  · rfl
  · cases w <;> first | rfl | (cases h; done)
theorem xOk_use {E : String} {w : Cond} {args : Array Value} {s : State} (hts : ∀ w ∈ tTs, w.before args s = true) (hc : va_Nw (.castable E E) s) (h : xOk E w = true) : w.before args s = true := by
  unfold xOk at h
  simp only [Bool.or_eq_true, Bool.and_eq_true, decide_eq_true_eq] at h
  rcases h with (⟨g, h⟩ | rfl) | h
  · exact hts _ (tSeg_in h g)
  · exact va_Nw.use rfl hc
  · cases w with
    | declares y =>
      have h' : (decide (Cond.instanceMethod y ∈ tSeg) && tSeg.any (xCo y)) = true := h
      simp only [Bool.and_eq_true, decide_eq_true_eq, List.any_eq_true] at h'
      obtain ⟨h1, w2, h2, h3⟩ := h'
      cases w2 with
      | code z bt ml rt =>
        have e : z = y := of_decide_eq_true h3
        subst e
        exact decl_of (hts _ (tSeg_in h1 rfl)) (hts _ (tSeg_in h2 rfl))
      | _ => cases h3
    | _ => cases h
/-- a frame of a method of the tables -/
def tC9 (p : Program) (s : State) (m : MethodId) (args : Array Value) (c : Code) (M : mM) (D : va_G) (b : Nat) (sa : Nat → Nat) : Prop := p.tables.exec = Jvm.exec ∧ c.code = mCode M ∧ c.maxLocals = mMax M ∧ s.vm.findClass (tN (mTag M)) = some m.cls ∧ (∀ w ∈ tTs, w.before args s = true) ∧ mKn D b tNs (tRs sa) (tZs sa) s s.heap ∧ b ≤ s.heap.size ∧ mIni M = false ∧ ∀ q : vw_C, vwCl[mCi M]? = some q → q.1 = tN (mTag M)
section TT
variable {p : Program} {l : Launch} {e : Env} {R : Room} {s : State} {m : MethodId} {args : Array Value} {below : List Frame} {meth : Method} {c : Code} {Q : State → Prop} {D : va_G} {b ns0 : Nat} {pc : Nat} {L : mL} {st : List Value} {S : mS} {sa : Nat → Nat} {M : mM}
theorem t_step (C : tC9 p s m args c M D b sa) {i : Instr} {len : Nat} {nx : Nat × mL × List Value × mS} (hd : decode (mCode M) pc = .ok (i, len)) (hl : mLen i = 0 ∨ mLen i = len) (hs : mStep (tP sa) b M i pc L st S = some nx) (hr : nx.2.2.2.2.1 - s.heap.size ≤ R.cells ∧ nx.2.2.2.2.2 - ns0 ≤ R.slots) (k : mOK p l e R s m args below meth c Q D b ns0 nx.1 nx.2.1 nx.2.2.1 nx.2.2.2) : mOK p l e R s m args below meth c Q D b ns0 pc L st S := by
  obtain ⟨hx, hb, hml, hown, hts, hk, hbs, hin, hci⟩ := C
  exact mStep_ok (P := tP sa) (M := M) (tn := tN) hx hb hown hts hk (tPok sa) hbs (fun h => by rw [hin] at h; cases h) hci hd hl hs hr k
theorem t_pure (C : tC9 p s m args c M D b sa) (hR : S.2.1 - s.heap.size ≤ R.cells ∧ S.2.2 - ns0 ≤ R.slots) {i : Instr} {len pc' : Nat} {L' : mL} {st' : List Value} (hd : decode (mCode M) pc = .ok (i, len)) (hl : mLen i = 0 ∨ mLen i = len) (hs : ∀ S : mS, mStep (tP sa) b M i pc L st S = some (pc', L', st', S)) (k : mOK p l e R s m args below meth c Q D b ns0 pc' L' st' S) : mOK p l e R s m args below meth c Q D b ns0 pc L st S := t_step C hd hl (hs S) hR k
/-- behind a throw: one cell more, all else as it was -/
def xB (D : va_G) (S : mS) (E9 : String) : String → Unit → State → Prop := fun E _ t => E = E9 ∧ t.heap.size = S.2.1 + 1 ∧ mRel D t t.heap S.1
abbrev xX (D : va_G) (b : Nat) (S : mS) (E9 : String) : String → State → State → Prop := vx_X (S := Unit) (fun _ => True) (xB D S E9) (fun q => b ≤ q)
abbrev xQ (b : Nat) : Array Value → State → Outcome → State → Prop := va_Qi (S := Unit) (fun _ _ => False) (fun _ _ => True) (fun q => b ≤ q)
theorem t_thr (C : tC9 p s m args c mX6_type D b sa) (hl : l.stackTraces = false) (hlocks : meth.locks = false) (hex : ∀ x ∈ c.exceptionTable.toList, False) (hsz : s.heap.size = S.2.1) (hL : L.length = 5) {ik is ic k6 : Nat} {E9 text : String} (hE : Bundle.fit E9 = true) (hall : (Cond.classLink "FlowDesk" ik E9 :: Cond.initialized E9 :: vx_atS "FlowDesk" ic E9 xNm).all (xOk E9) = true) (hcast : va_Nw (.castable E9 E9) s) (hstr : ("FlowDesk", is, text, k6) ∈ tRs sa)
    (d0 : decode cX6_type pc = .ok (.new ik, 3)) (d3 : decode cX6_type (pc + 3) = .ok (.dup, 1)) (d4 : decode cX6_type (pc + 4) = .ok (.ldc is, 2)) (d6 : decode cX6_type (pc + 6) = .ok (.invokespecial ic, 3)) (d9 : decode cX6_type (pc + 9) = .ok (.athrow, 1)) :
    mOK p l e (mRm 20 1 6) s m args below meth c (vx_MQ below (xQ b) (xX D b S E9) args s 1 6 (fun q => b ≤ q)) D b S.2.2 pc L [] S := by
  obtain ⟨hx, hb, hml, hown, hts, hk, hbs, -, -⟩ := C
  intro ls H locs hls hszH hRel hns hS
  have hall' := List.all_eq_true.mp hall
  have use : ∀ w, xOk E9 w = true → w.before args s = true := fun w => xOk_use hts hcast
  obtain ⟨-, -, hRs, -, -, -, ⟨hU, hN⟩, -⟩ := hk
  refine vx_throwS (A := fun q => b ≤ q) (own := "FlowDesk") (cls := E9) (text := text) (names := xNm) (ik := ik) (is := is) (ic := ic) (sa := k6) hx hb hl hown hE (by decide +kernel) (use _ (hall' _ List.mem_cons_self)) (use _ (hall' _ (List.mem_cons_of_mem _ List.mem_cons_self))) (hRs _ hstr) (fun w hw => use w (hall' w (List.mem_cons_of_mem _ (List.mem_cons_of_mem _ hw)))) (fun w hw => xOk_ot (hall' w hw)) hU hN hS (hls.1.trans (hL.trans hml.symm)) d0 d3 d4 d6 d9 (fun x hx => (hex x hx).elim) (by decide) (by decide) ?_ ?_ hlocks ?_ hS.2.2 ?_ ?_
  · show S.2.1 - s.heap.size + 1 ≤ 1
    omega
  · show S.2.2 - S.2.2 + 6 ≤ 6
    omega
  · intro t ha hz hq
    refine ⟨(), trivial, ⟨rfl, by rw [hz, hszH], fun a9 c9 hc9 => ((hRel a9 c9 hc9).kept (hq a9 (hRel a9 c9 hc9).lt)).moved ha⟩, Nat.le_trans hS.1 (by rw [hz]; exact Nat.le_succ _), fun q h1 h2 => ?_⟩
    exact (hq q (Nat.lt_of_lt_of_le h1 hS.1)).trans (hS.2.1 q h1 h2)
  · omega
  · omega
set_option maxHeartbeats 4000000 in
/-- the desk's type, where it throws -/
theorem t_throw (hl : l.stackTraces = false) {a : Nat} {fs : List Value} {x : Int64} {n v1 : Int32} {E9 : String} (hS0 : S.1 a = some (.inr (8, fs))) (hf : fs[1]? = some (.int v1)) (hcase : (E9 = eI ∧ (n < 0 ∨ 8 < n)) ∨ (E9 = eU ∧ ¬ n < 0 ∧ ¬ 8 < n ∧ 400 < v1 + n)) :
    vx_Met l (tY 79) (Cond.code (tY 79) (mCode mX6_type) (mMax mX6_type) (mRet mX6_type) :: tTs) (mRm 20 1 6) (va_Pc [.ref a, .long x, .int n] (mPre D b tNs (tRs sa) (tZs sa) S)) (xQ b) (xX D b S E9) 1 6 (fun q => b ≤ q) := by
  refine vx_ofW (cc := mCode mX6_type) (maxL := mMax mX6_type) (ret := mRet mX6_type) (by decide +kernel) rfl ?_
  intro p e s m args below meth c s₁ B hml hex hv
  obtain ⟨rfl, hsz, hR, hk, hbs⟩ := hv
  have hts0 := atoms_spec (ws := Cond.code (tY 79) (mCode mX6_type) (mMax mX6_type) (mRet mX6_type) :: tTs) B.pre
  have hts : ∀ w ∈ tTs, w.before ([.ref a, .long x, .int n] : List Value).toArray s = true := fun w hw => hts0 w (List.mem_cons_of_mem _ hw)
  have hcl := (tCalls sa).2.2 79 mX6_type tM_79
  have hown : s.vm.findClass (tN (mTag mX6_type)) = some m.cls := by rw [hcl.1]; exact findClass_of_methodNamed B.named
  have C : tC9 p s m ([.ref a, .long x, .int n] : List Value).toArray c mX6_type D b sa := ⟨B.exec, B.bytes, hml, hown, hts, hk, hbs, rfl, fun q hq => (hcl.2.2 q hq).trans hcl.1.symm⟩
  rw [lg_entry_eq]
  have hRm : S.2.1 - s.heap.size ≤ (mRm 20 1 6).cells ∧ S.2.2 - S.2.2 ≤ (mRm 20 1 6).slots := ⟨by show _ ≤ 1; omega, by show _ ≤ 6; omega⟩
  have key : mOK p l e (mRm 20 1 6) s m ([.ref a, .long x, .int n] : List Value).toArray below meth c (vx_MQ below (xQ b) (xX D b S E9) ([.ref a, .long x, .int n] : List Value).toArray s 1 6 (fun q => b ≤ q)) D b S.2.2 0 [some (.ref a), some (.long x), none, some (.int n), none] [] S := by
    refine t_pure C hRm dX6_type_0 (Or.inr rfl) (fun S => rfl) ?_
    rcases hcase with ⟨rfl, hc⟩ | ⟨rfl, h0, h8, h4⟩
    · have thr := t_thr (e := e) (below := below) (L := [some (.ref a), some (.long x), none, some (.int n), none]) C hl B.notSynchronized hex hsz rfl (by decide +kernel) xI_all hk.2.2.2.2.2.2.2.1 (List.mem_of_getElem? (i := 6) rfl) dX6_type_10 dX6_type_13 dX6_type_14 dX6_type_16 dX6_type_19
      by_cases hn : n < 0
      · refine t_pure C hRm dX6_type_1 (Or.inr rfl) (pc' := 10) (L' := [some (.ref a), some (.long x), none, some (.int n), none]) (st' := []) (fun S => ?_) thr
        simp only [mStep, show mTg 1 9 = some 10 from rfl, mCmp, hn, decide_true, if_true]
      · have h8 : ¬ n ≤ 8 := by
          rcases hc with z | z
          · exact absurd z hn
          · exact Int32.not_le.mpr z
        refine t_pure C hRm dX6_type_1 (Or.inr rfl) (pc' := 4) (L' := [some (.ref a), some (.long x), none, some (.int n), none]) (st' := []) (fun S => ?_) ?_
        · simp only [mStep, show mTg 1 9 = some 10 from rfl, mCmp, hn, decide_false, Bool.false_eq_true, if_false]
        refine t_pure C hRm dX6_type_4 (Or.inr rfl) (fun S => rfl) ?_
        refine t_pure C hRm dX6_type_5 (Or.inr rfl) (pc' := 7) (L' := [some (.ref a), some (.long x), none, some (.int n), none]) (st' := [.int 8, .int n]) (fun S => rfl) ?_
        refine t_pure C hRm dX6_type_7 (Or.inr rfl) (pc' := 10) (L' := [some (.ref a), some (.long x), none, some (.int n), none]) (st' := []) (fun S => ?_) thr
        simp only [mStep, show mTg 7 13 = some 20 from rfl, mCmp, h8, decide_false, Bool.false_eq_true, if_false]
    · have thr := t_thr (e := e) (below := below) (L := [some (.ref a), some (.long x), none, some (.int n), none]) C hl B.notSynchronized hex hsz rfl (by decide +kernel) xU_all hk.2.2.2.2.2.2.2.2.1 (List.mem_of_getElem? (i := 7) rfl) dX6_type_32 dX6_type_35 dX6_type_36 dX6_type_38 dX6_type_41
      have h8' : n ≤ 8 := Int32.not_lt.mp h8
      have h4' : ¬ v1 + n ≤ 400 := Int32.not_le.mpr h4
      refine t_pure C hRm dX6_type_1 (Or.inr rfl) (pc' := 4) (L' := [some (.ref a), some (.long x), none, some (.int n), none]) (st' := []) (fun S => ?_) ?_
      · simp only [mStep, show mTg 1 9 = some 10 from rfl, mCmp, h0, decide_false, Bool.false_eq_true, if_false]
      refine t_pure C hRm dX6_type_4 (Or.inr rfl) (fun S => rfl) ?_
      refine t_pure C hRm dX6_type_5 (Or.inr rfl) (pc' := 7) (L' := [some (.ref a), some (.long x), none, some (.int n), none]) (st' := [.int 8, .int n]) (fun S => rfl) ?_
      refine t_pure C hRm dX6_type_7 (Or.inr rfl) (pc' := 20) (L' := [some (.ref a), some (.long x), none, some (.int n), none]) (st' := []) (fun S => ?_) ?_
      · simp only [mStep, show mTg 7 13 = some 20 from rfl, mCmp, h8', decide_true, if_true]
      refine t_pure C hRm dX6_type_20 (Or.inr rfl) (fun S => rfl) ?_
      refine t_step C dX6_type_21 (Or.inr rfl) (nx := (24, [some (.ref a), some (.long x), none, some (.int n), none], [.int v1], S)) ?_ hRm ?_
      · have hF : (tP sa).1 (mTag mX6_type) 58 = some (8, 1) := tF_6_58
        simp only [mStep, hF, hS0, hf, if_true]
      refine t_pure C hRm dX6_type_24 (Or.inr rfl) (fun S => rfl) ?_
      refine t_pure C hRm dX6_type_25 (Or.inr rfl) (pc' := 26) (L' := [some (.ref a), some (.long x), none, some (.int n), none]) (st' := [.int (v1 + n)]) (fun S => rfl) ?_
      refine t_pure C hRm dX6_type_26 (Or.inr rfl) (pc' := 29) (L' := [some (.ref a), some (.long x), none, some (.int n), none]) (st' := [.int 400, .int (v1 + n)]) (fun S => rfl) ?_
      refine t_pure C hRm dX6_type_29 (Or.inr rfl) (pc' := 32) (L' := [some (.ref a), some (.long x), none, some (.int n), none]) (st' := []) (fun S => ?_) thr
      simp only [mStep, show mTg 29 13 = some 42 from rfl, mCmp, h4', decide_false, Bool.false_eq_true, if_false]
  have k2 := key _ s.heap [] (mEn_R (vs := [.ref a, .long x, .int n]) (n := 5) (Nat.le_of_ble_eq_true rfl)) hsz hR (Nat.le_refl _) va_S.rf
  rw [hsz, Nat.sub_self, Nat.sub_self] at k2
  exact k2
end TT
