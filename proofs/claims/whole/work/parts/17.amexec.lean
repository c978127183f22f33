/-! WHAT THE PLAIN MACHINE RUNS, THE REAL ONE RUNS -/
/-- the words of a call's site: y the callee's name -/
def mSok (Ts Ns : List Cond) (own : String) (kd k : Nat) (y : MethodName) (M' : mM) : Prop :=
  (Cond.code y (mCode M') (mMax M') (mRet M') ∈ Ts ∧ Cond.initialized y.cls ∈ Ts) ∧ (y.cls ≠ "java/lang/invoke/MethodHandle" ∧ y.cls ≠ "java/lang/invoke/VarHandle" ∧ plainFor y = true) ∧
  (parseMethodDescriptor y.desc).map (fun d => d.parameters.length) = some (if kd = 1 then mNa M' else mNa M' - 1) ∧ (kd = 1 ∨ 1 ≤ mNa M') ∧
  (Cond.methodLink own k y ∈ Ts ∨ ∃ host, Cond.methodLinkNest own k y host ∈ Ns) ∧
  ((kd = 0 ∧ Cond.instanceMethod y ∈ Ts ∧ Cond.selects y.cls y y ∈ Ts ∧ ∃ q : vw_C, vwCl[mCi M']? = some q ∧ q.1 = y.cls) ∨ (kd = 1 ∧ Cond.static y ∈ Ts) ∨ (kd = 2 ∧ Cond.instanceMethod y ∈ Ts ∧ y.name = "<init>" ∧ mRet M' = none))
/-- the words of a primitive's site -/
def mQok (Ts : List Cond) (own : String) (kd k q : Nat) : Prop :=
  (q = 0 ∧ kd = 2 ∧ Cond.methodLink own k Lib.objectInit ∈ Ts ∧ Cond.instanceMethod Lib.objectInit ∈ Ts ∧ Cond.code Lib.objectInit ⟨#[0xb1]⟩ 1 none ∈ Ts) ∨
  (q = 1 ∧ kd = 1 ∧ Cond.methodLink own k arraycopyName ∈ Ts ∧ Cond.native arraycopyName ∈ Ts ∧ Cond.static arraycopyName ∈ Ts ∧ Cond.initialized "java/lang/System" ∈ Ts) ∨
  (kd = 1 ∧ Cond.initialized "java/lang/Math" ∈ Ts ∧ ((q = 2 ∧ Cond.methodLink own k Lib.Math.min.name ∈ Ts ∧ Cond.static Lib.Math.min.name ∈ Ts ∧ Cond.code Lib.Math.min.name Lib.Math.min.code 2 (some .int) ∈ Ts) ∨ (q = 3 ∧ Cond.methodLink own k Lib.Math.max.name ∈ Ts ∧ Cond.static Lib.Math.max.name ∈ Ts ∧ Cond.code Lib.Math.max.name Lib.Math.max.code 2 (some .int) ∈ Ts) ∨ (q = 4 ∧ Cond.methodLink own k Lib.Math.abs.name ∈ Ts ∧ Cond.static Lib.Math.abs.name ∈ Ts ∧ Cond.code Lib.Math.abs.name Lib.Math.abs.code 1 (some .int) ∈ Ts)))
/-- the calls' tables -/
def mCalls (P : mP) (tn : Nat → String) (yn : Nat → MethodName) (Ts Ns : List Cond) : Prop :=
  (∀ t k kd q M', P.2.2.1 t k = some (kd, .inl q) → P.2.2.2.2.2 q = some M' → mSok Ts Ns (tn t) kd k (yn q) M') ∧ (∀ t k kd q, P.2.2.1 t k = some (kd, .inr q) → mQok Ts (tn t) kd k q) ∧
  (∀ q M', P.2.2.2.2.2 q = some M' → tn (mTag M') = (yn q).cls ∧ (mIni M' = true → (yn q).name = "<init>") ∧ ∀ z : vw_C, vwCl[mCi M']? = some z → z.1 = (yn q).cls)
/-- words that stay -/
def mGood (Ts Ns : List Cond) : Prop := (∀ w ∈ Ts, (w.onTables && w.keeps) = true ∨ ∃ ty, w = .arrayClass ty) ∧ ∀ w ∈ Ns, (∃ a i b n d h, w = Cond.fieldLinkNest a i b n d h) ∨ ∃ a i x h, w = Cond.methodLinkNest a i x h
def mRm (d mc ms : Nat) : Room := { frames := d, cells := mc, slots := ms, locals := 40 * d }
def mPre (D : va_G) (b : Nat) (Ns : List Cond) (Rs : List (String × Nat × String × Nat)) (Zs : List (String × String × String × Value)) (S : mS) (U : State) : Prop :=
  U.heap.size = S.2.1 ∧ mRel D U U.heap S.1 ∧ mKn D b Ns Rs Zs U U.heap ∧ b ≤ U.heap.size
def mQc (D : va_G) (b : Nat) (r : Option Value) (S' : mS) : Array Value → State → Outcome → State → Prop := fun _ st oc t => oc = .returned r ∧ t.heap.size = S'.2.1 ∧ mRel D t t.heap S'.1 ∧ va_F (fun q => b ≤ q) st t
theorem mKn.same {D : va_G} {b : Nat} {Ts Ns : List Cond} {Rs : List (String × Nat × String × Nat)} {Zs : List (String × String × String × Value)} {u U : State} (hG : mGood Ts Ns) (hv : u.vm = U.vm) (hh : U.heap = u.heap) (h : mKn D b Ns Rs Zs u u.heap) : mKn D b Ns Rs Zs U U.heap := by
  have ha : u.vm.Alike U.vm := by rw [hv]; exact Vm.Alike.refl _
  obtain ⟨h1, h2, h3, h4, h5, h6, h7⟩ := h
  refine ⟨fun k q hq => u_Kn_moved ha (h1 k q hq), fun w hw => ?_, fun r hr => vk_R.same hv.symm (h3 r hr), fun z hz => ?_, h5.moved ha, h6, by rw [hh]; exact h7.same hv⟩
  · rcases hG.2 w hw with ⟨_, _, _, _, _, _, rfl⟩ | ⟨_, _, _, _, rfl⟩
    · exact va_Nw.same rfl hv (h2 _ hw)
    · exact va_Nw.same rfl hv (h2 _ hw)
  · rw [hh]
    exact va_Z.moved ha (h4 z hz)
theorem mKn.warm {D : va_G} {b : Nat} {Ts Ns : List Cond} {Rs : List (String × Nat × String × Nat)} {Zs : List (String × String × String × Value)} {s U : State} {H : Heap} (hG : mGood Ts Ns) (hW : s.WarmedH U.vm) (hH : ∀ q : Nat, q < s.heap.size → ¬ b ≤ q → H[q]? = s.heap[q]?) (h : mKn D b Ns Rs Zs s s.heap) : mKn D b Ns Rs Zs U H := by
  obtain ⟨h1, h2, h3, h4, h5, h6, h7⟩ := h
  refine ⟨fun k q hq => u_Kn_moved hW.alike (h1 k q hq), fun w hw => ?_, fun r hr => vk_R.warm hW (h3 r hr), fun z hz => ?_, h5.moved hW.alike, h6, h7.warm hW hH⟩
  · rcases hG.2 w hw with ⟨_, _, _, _, _, _, rfl⟩ | ⟨_, _, _, _, rfl⟩
    · exact va_Nw.warmF hW (h2 _ hw)
    · exact va_Nw.warmM hW (h2 _ hw)
  · exact va_Z.moved hW.alike (va_Z.kept (h4 z hz) hH)
section MEX
variable {l : Launch} {D : va_G} {b : Nat} {Ts Ns : List Cond} {Rs : List (String × Nat × String × Nat)} {Zs : List (String × String × String × Value)} {P : mP} {tn : Nat → String} {yn : Nat → MethodName}
/-- a method's run at fuel n -/
def mRuns (l : Launch) (D : va_G) (b : Nat) (Ts Ns : List Cond) (Rs : List (String × Nat × String × Nat)) (Zs : List (String × String × String × Value)) (P : mP) (tn : Nat → String) (n : Nat) : Prop :=
  ∀ (d : Nat) (M : mM) (pc : Nat) (L : mL) (st : List Value) (S : mS) (r : Option Value) (S' : mS), mExec P b n d M pc L st S = some (r, S') →
  ∀ (p : Program) (e : Env) (R : Room) (s : State) (m : MethodId) (args : Array Value) (below : List Frame) (meth : Method) (c : Code) (Q : State → Prop) (ns0 : Nat),
  p.tables.exec = Jvm.exec → c.code = mCode M → c.maxLocals = mMax M → s.vm.findClass (tn (mTag M)) = some m.cls → (∀ w ∈ Ts, w.before args s = true) → mKn D b Ns Rs Zs s s.heap → b ≤ s.heap.size → (mIni M = true → meth.name = "<init>") → (∀ q : vw_C, vwCl[mCi M]? = some q → q.1 = tn (mTag M)) → d ≤ R.frames → 40 * d ≤ R.locals → S'.2.1 - s.heap.size ≤ R.cells → S'.2.2 - ns0 ≤ R.slots →
  (∀ (pcr len : Nat) (i : Instr) (L' : mL), decode (mCode M) pcr = .ok (i, len) → (mLen i = 0 ∨ mLen i = len) → mIsRet M i r → mOK p l e R s m args below meth c Q D b ns0 pcr L' r.toList S') →
  mOK p l e R s m args below meth c Q D b ns0 pc L st S
set_option maxHeartbeats 4000000 in
/-- the contract that a run gives -/
theorem mMet_of (hG : mGood Ts Ns) {n : Nat} (ih : mRuns l D b Ts Ns Rs Zs P tn n) {d : Nat} {M : mM} {as : List Value} {S S' : mS} {r : Option Value} {y : MethodName} (h : mExec P b n d M 0 (mEn as (mMax M)) [] S = some (r, S')) (ha : (mArg as).length ≤ mMax M) (hy : plainFor y = true) (htn : tn (mTag M) = y.cls) (hni : mIni M = true → y.name = "<init>") (hci : ∀ q : vw_C, vwCl[mCi M]? = some q → q.1 = y.cls) :
    Met l y (Cond.code y (mCode M) (mMax M) (mRet M) :: Ts) (mRm d (S'.2.1 - S.2.1) (S'.2.2 - S.2.2)) (va_Pc as (mPre D b Ns Rs Zs S)) (mQc D b r S') (S'.2.1 - S.2.1) (S'.2.2 - S.2.2) (fun q => b ≤ q) := by
  refine va_MetF (cc := mCode M) (maxL := mMax M) (ret := mRet M) hy rfl ?_
  intro p e s m args below meth c s₁ B hml hv
  obtain ⟨rfl, hsz, hR, hk, hbs⟩ := hv
  have hts0 := atoms_spec (ws := Cond.code y (mCode M) (mMax M) (mRet M) :: Ts) B.pre
  have hts : ∀ w ∈ Ts, w.before as.toArray s = true := fun w hw => hts0 w (List.mem_cons_of_mem _ hw)
  have hown : s.vm.findClass (tn (mTag M)) = some m.cls := by rw [htn]; exact findClass_of_methodNamed B.named
  have hlocks := B.notSynchronized
  have hr := B.returns
  have hin : mIni M = true → meth.name = "<init>" := fun z => (name_of_methodNamed B.named B.method).1.trans (hni z)
  rw [lg_entry_eq]
  have key : mOK p l e (mRm d (S'.2.1 - S.2.1) (S'.2.2 - S.2.2)) s m as.toArray below meth c (MQ below (mQc D b r S') as.toArray s (S'.2.1 - S.2.1) (S'.2.2 - S.2.2) (fun q => b ≤ q)) D b S.2.2 0 (mEn as (mMax M)) [] S := by
    refine ih d M 0 (mEn as (mMax M)) [] S r S' h p e _ s m as.toArray below meth c _ S.2.2 B.exec B.bytes hml hown hts hk hbs hin (fun q hq => (hci q hq).trans htn.symm) (Nat.le_refl d) (Nat.le_refl _) (by rw [hsz]; exact Nat.le_refl _) (Nat.le_refl _) ?_
    intro pcr len i L' hd hl hret ls H locs hls hHs hRel hns hS
    have hq : ∀ t : State, t.heap = H → s.WarmedH t.vm → mQc D b r S' as.toArray s (.returned r) t := fun t ht hW => ⟨rfl, by rw [ht]; exact hHs, by rw [ht]; exact hRel.moved hW.alike, hS.F ht⟩
    rw [hsz]
    rcases hret with ⟨rfl, rfl, h0⟩ | ⟨v, ty, rfl, rfl, h0, h1⟩ | ⟨v, rfl, rfl, h0⟩ | ⟨v, rt, rfl, rfl, h0, h1⟩
    · obtain rfl := mLen_of hl (n := 0) rfl
      exact W.vret B.exec B.bytes (hr.trans h0) hq hS.2.2 hd
    · obtain rfl := mLen_of hl (n := 0) rfl
      exact W.zret B.exec B.bytes (hr.trans h0) h1 hq hS.2.2 hd
    · obtain rfl := mLen_of hl (n := 0) rfl
      exact W.lret B.exec B.bytes (hr.trans h0) hq hS.2.2 hd
    · obtain rfl := mLen_of hl (n := 0) rfl
      exact W.aret B.exec B.bytes (hr.trans h0) h1 (Or.inr ⟨v, rfl⟩) hq hS.2.2 hd
  have k2 := key _ s.heap [] (mEn_R ha) hsz hR (Nat.le_refl _) va_S.rf
  rw [hsz, Nat.sub_self, Nat.sub_self] at k2
  exact k2
end MEX
