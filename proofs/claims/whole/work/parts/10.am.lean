/-! THE PLAIN MACHINE: a pure function that runs bytecode over a heap of plain cells; what it answers, the real machine answers (part 11, 12).
mC: a cell: an array (kind of its places, length, contents), or an object (its class's number in vwCl, its fields). mH: a heap. mS: heap, next address, slots made. mL: locals. -/
abbrev mC : Type := (FieldType × vp_A) ⊕ (Nat × List Value)
abbrev mH : Type := Nat → Option mC
abbrev mS : Type := mH × Nat × Nat
abbrev mL : Type := List (Option Value)
/-- a method: its class's tag, code, locals, answer, arguments (the receiver too), is it a constructor, its class's number in vwCl -/
abbrev mM : Type := Nat × ByteArray × Nat × Option FieldType × Nat × Bool × Nat
/-- a program: fields, classes to be made, calls (0 virtual, 1 static, 2 special; a method or a primitive), constants, statics, methods -/
abbrev mP : Type := (Nat → Nat → Option (Nat × Nat)) × (Nat → Nat → Option Nat) × (Nat → Nat → Option (Nat × (Nat ⊕ Nat))) × (Nat → Nat → Option Value) × (Nat → Nat → Option Value) × (Nat → Option mM)
def mTag (M : mM) : Nat := M.1
def mCode (M : mM) : ByteArray := M.2.1
def mMax (M : mM) : Nat := M.2.2.1
def mRet (M : mM) : Option FieldType := M.2.2.2.1
def mNa (M : mM) : Nat := M.2.2.2.2.1
def mIni (M : mM) : Bool := M.2.2.2.2.2.1
def mCi (M : mM) : Nat := M.2.2.2.2.2.2
def mUp (h : mH) (a : Nat) (c : mC) : mH := fun b => if b = a then some c else h b
theorem mUp_self (h : mH) (a : Nat) (c : mC) : mUp h a c a = some c := if_pos rfl
theorem mUp_ne (h : mH) {a b : Nat} (c : mC) (n : b ≠ a) : mUp h a c b = h b := if_neg n
/-- a local's value -/
def mLd (L : mL) (i : Nat) : Option Value := match L[i]? with
  | some o => o
  | none => none
/-- a long that ends at i goes -/
def mKill (L : mL) (i : Nat) : mL := match i with
  | 0 => L
  | j + 1 => match mLd L j with
    | some v => if v.category = 2 then L.set j none else L
    | none => L
/-- a value is stored -/
def mSt (L : mL) (i : Nat) (v : Value) : Option mL :=
  if v.category = 2 then (if i + 1 < L.length then some (((mKill L i).set i (some v)).set (i + 1) none) else none)
  else (if i < L.length then some ((mKill L i).set i (some v)) else none)
/-- the locals with which a method begins -/
def mArg : List Value → mL
  | [] => []
  | v :: r => if v.category = 2 then some v :: none :: mArg r else some v :: mArg r
def mEn (vs : List Value) (n : Nat) : mL := mArg vs ++ List.replicate (n - (mArg vs).length) none
def mTg (pc : Nat) (off : Int) : Option Nat := if 0 ≤ (pc : Int) + off then some ((pc : Int) + off).toNat else none
def mCmp (c : ClassFile.Cond) (x y : Int32) : Bool := match c with
  | .eq => decide (x = y)
  | .ne => !decide (x = y)
  | .lt => decide (x < y)
  | .ge => decide (y ≤ x)
  | .gt => decide (y < x)
  | .le => decide (x ≤ y)
/-- an index into n places -/
def mIx (i : Int32) (n : Nat) : Option Nat := if i < 0 ∨ n ≤ i.toNatClampNeg then none else some i.toNatClampNeg
def mLen : Instr → Nat
  | .bipush _ | .iload _ | .lload _ | .aload _ | .istore _ | .lstore _ | .astore _ | .ldc _ | .newarray _ => 2
  | .sipush _ | .ldc_w _ | .ldc2_w _ | .iinc _ _ | .if_icmp _ _ | .ifCond _ _ | .goto _ | .getfield _ | .putfield _ | .getstatic _ | .new _ | .invokevirtual _ | .invokespecial _ | .invokestatic _ => 3
  | .multianewarray _ _ => 4
  | .tableswitch _ _ _ _ => 0
  | _ => 1
abbrev mN : Type := Option (Nat × mL × List Value × mS)
/-- arithmetic of ints -/
def mI2 : Instr → Int32 → Int32 → Option Int32
  | .iadd, x, y => some (x + y)
  | .isub, x, y => some (x - y)
  | .imul, x, y => some (x * y)
  | .iand, x, y => some (x &&& y)
  | .ior, x, y => some (x ||| y)
  | .ixor, x, y => some (x ^^^ y)
  | .ishl, x, y => some (x <<< (y &&& 31))
  | .ishr, x, y => some (x >>> (y &&& 31))
  | .iushr, x, y => some ((x.toUInt32 >>> (y.toUInt32 &&& Int32.toUInt32 31)).toInt32)
  | .idiv, x, y => if y = 0 then none else some (x / y)
  | .irem, x, y => if y = 0 then none else some (x - x / y * y)
  | _, _, _ => none
def mJ2 : Instr → Int64 → Int64 → Option Int64
  | .ladd, x, y => some (x + y)
  | .lsub, x, y => some (x - y)
  | .lmul, x, y => some (x * y)
  | .land, x, y => some (x &&& y)
  | .lor, x, y => some (x ||| y)
  | .lxor, x, y => some (x ^^^ y)
  | _, _, _ => none
def mJs : Instr → Int64 → Int32 → Option Int64
  | .lshl, x, y => some (x <<< (y.toInt64 &&& 63))
  | .lshr, x, y => some (x >>> (y.toInt64 &&& 63))
  | .lushr, x, y => some ((x.toUInt64 >>> (y.toInt64.toUInt64 &&& Int64.toUInt64 63)).toInt64)
  | _, _, _ => none
/-- arithmetic instructions -/
def mAri (i : Instr) (pc : Nat) (L : mL) (st : List Value) (S : mS) : mN := match st with
  | .int y :: .int x :: r => match mI2 i x y with
    | some z => some (pc + 1, L, .int z :: r, S)
    | none => none
  | .long y :: .long x :: r => match mJ2 i x y with
    | some z => some (pc + 1, L, .long z :: r, S)
    | none => none
  | .int y :: .long x :: r => match mJs i x y with
    | some z => some (pc + 1, L, .long z :: r, S)
    | none => none
  | _ => none
/-- a place of an array -/
def mAld (i : Instr) (pc : Nat) (L : mL) (st : List Value) (S : mS) : mN := match st with
  | .int j :: .ref a :: r => match S.1 a with
    | some (.inl (ty, n, f)) => match mIx j n with
      | some k => match i, ty, f with
        | .iaload, .int, .inl f => some (pc + 1, L, .int (f k) :: r, S)
        | .baload, .byte, .inl f => some (pc + 1, L, .int (f k) :: r, S)
        | .baload, .boolean, .inl f => some (pc + 1, L, .int (f k) :: r, S)
        | .laload, .long, .inr (.inl f) => some (pc + 1, L, .long (f k) :: r, S)
        | .aaload, .array _, .inr (.inr (.inr (.inr f))) => some (pc + 1, L, va_rf (f k) :: r, S)
        | _, _, _ => none
      | none => none
    | _ => none
  | _ => none
/-- a store into an array, at addresses from b on -/
def mAst (b : Nat) (i : Instr) (pc : Nat) (L : mL) (st : List Value) (S : mS) : mN := match st with
  | .int x :: .int j :: .ref a :: r => match S.1 a with
    | some (.inl (ty, n, f)) => if a < b then none else match mIx j n with
      | some k => match i, ty, f with
        | .iastore, .int, .inl f => some (pc + 1, L, r, mUp S.1 a (.inl (.int, n, .inl (upd f k x))), S.2)
        | .bastore, .byte, .inl f => some (pc + 1, L, r, mUp S.1 a (.inl (.byte, n, .inl (upd f k (vp_nar .byte x)))), S.2)
        | .bastore, .boolean, .inl f => some (pc + 1, L, r, mUp S.1 a (.inl (.boolean, n, .inl (upd f k (vp_nar .boolean x)))), S.2)
        | _, _, _ => none
      | none => none
    | _ => none
  | .long x :: .int j :: .ref a :: r => match S.1 a with
    | some (.inl (.long, n, .inr (.inl f))) => if a < b then none else match i, mIx j n with
      | .lastore, some k => some (pc + 1, L, r, mUp S.1 a (.inl (.long, n, .inr (.inl (vp_updL f k x)))), S.2)
      | _, _ => none
    | _ => none
  | _ => none
/-- loads and stores of locals, by their kind -/
def mLoad (isI isJ : Bool) (i pc len : Nat) (L : mL) (st : List Value) (S : mS) : mN := match mLd L i with
  | some (.int x) => if isI then some (pc + len, L, .int x :: st, S) else none
  | some (.long x) => if isJ then some (pc + len, L, .long x :: st, S) else none
  | some (.ref x) => if isI || isJ then none else some (pc + len, L, .ref x :: st, S)
  | _ => none
def mStore (isI isJ : Bool) (i pc len : Nat) (L : mL) (st : List Value) (S : mS) : mN := match st with
  | .int x :: r => if isI then (match mSt L i (.int x) with | some L' => some (pc + len, L', r, S) | none => none) else none
  | .long x :: r => if isJ then (match mSt L i (.long x) with | some L' => some (pc + len, L', r, S) | none => none) else none
  | .ref x :: r => if isI || isJ then none else (match mSt L i (.ref x) with | some L' => some (pc + len, L', r, S) | none => none)
  | _ => none
def mZero : ArrayType → Option (FieldType × (Nat → vp_A))
  | .byte => some (.byte, fun n => (n, .inl (fun _ => 0)))
  | .boolean => some (.boolean, fun n => (n, .inl (fun _ => 0)))
  | .int => some (.int, fun n => (n, .inl (fun _ => 0)))
  | .long => some (.long, fun n => (n, .inr (.inl (fun _ => 0))))
  | _ => none
/-- fields: their types, are they final; a class's number of fields and what a new object holds -/
def mFt (ci k : Nat) : Option (FieldType × Bool) := match vwCl[ci]? with
  | some q => if k < q.2.2 then (match parseFieldDescriptor (q.2.1 k).2.2.1 with | some t => some (t, (q.2.1 k).2.2.2) | none => none) else none
  | none => none
def mBorn (ci : Nat) : Option (List Value) := match vwCl[ci]? with
  | some q => some ((List.range q.2.2).map (fun k => match parseFieldDescriptor (q.2.1 k).2.2.1 with | some t => defaultValue t | none => .null))
  | none => none
/-- int[N][K] at a: the outer row, and the inner ones behind it -/
def mMul (h : mH) (a N K : Nat) : mH := fun q => if q = a then some (.inl (.array .int, N, .inr (.inr (.inr (.inr (fun i => if i < N then some (a + 1 + i) else none)))))) else if a < q ∧ q < a + 1 + N then some (.inl (.int, K, .inl (fun _ => 0))) else h q
/-- every instruction but calls and returns -/
def mStep (P : mP) (b : Nat) (M : mM) (i : Instr) (pc : Nat) (L : mL) (st : List Value) (S : mS) : mN := match i with
  | .iconst n => some (pc + 1, L, .int (Int32.ofInt n) :: st, S)
  | .bipush n => some (pc + 2, L, .int (Int8.ofInt n).toInt32 :: st, S)
  | .sipush n => some (pc + 3, L, .int (Int16.ofInt n).toInt32 :: st, S)
  | .lconst n => some (pc + 1, L, .long (Int64.ofNat (n : Nat)) :: st, S)
  | .ldc k => match P.2.2.2.1 (mTag M) k with
    | some v => if v.category = 1 then some (pc + 2, L, v :: st, S) else none
    | none => none
  | .ldc_w k => match P.2.2.2.1 (mTag M) k with
    | some v => if v.category = 1 then some (pc + 3, L, v :: st, S) else none
    | none => none
  | .ldc2_w k => match P.2.2.2.1 (mTag M) k with
    | some (.long v) => some (pc + 3, L, .long v :: st, S)
    | _ => none
  | .getstatic k => match P.2.2.2.2.1 (mTag M) k with
    | some v => some (pc + 3, L, v :: st, S)
    | none => none
  | .iload k => mLoad true false k pc 2 L st S
  | .iload_n k => mLoad true false k pc 1 L st S
  | .lload k => mLoad false true k pc 2 L st S
  | .lload_n k => mLoad false true k pc 1 L st S
  | .aload k => mLoad false false k pc 2 L st S
  | .aload_n k => mLoad false false k pc 1 L st S
  | .istore k => mStore true false k pc 2 L st S
  | .istore_n k => mStore true false k pc 1 L st S
  | .lstore k => mStore false true k pc 2 L st S
  | .lstore_n k => mStore false true k pc 1 L st S
  | .astore k => mStore false false k pc 2 L st S
  | .astore_n k => mStore false false k pc 1 L st S
  | .iinc k n => match mLd L k with
    | some (.int x) => (match mSt L k (.int (x + Int32.ofInt n)) with | some L' => some (pc + 3, L', st, S) | none => none)
    | _ => none
  | .ineg => match st with
    | .int x :: r => some (pc + 1, L, .int (-x) :: r, S)
    | _ => none
  | .i2l => match st with
    | .int x :: r => some (pc + 1, L, .long x.toInt64 :: r, S)
    | _ => none
  | .l2i => match st with
    | .long x :: r => some (pc + 1, L, .int x.toInt32 :: r, S)
    | _ => none
  | .i2b => match st with
    | .int x :: r => some (pc + 1, L, .int x.toInt8.toInt32 :: r, S)
    | _ => none
  | .i2c => match st with
    | .int x :: r => some (pc + 1, L, .int (x.toUInt32 % 65536).toInt32 :: r, S)
    | _ => none
  | .lcmp => match st with
    | .long y :: .long x :: r => some (pc + 1, L, .int (lg_cmp x y) :: r, S)
    | _ => none
  | .dup => match st with
    | v :: r => if v.category = 1 then some (pc + 1, L, v :: v :: r, S) else none
    | _ => none
  | .pop => match st with
    | v :: r => if v.category = 1 then some (pc + 1, L, r, S) else none
    | _ => none
  | .dup2 => match st with
    | v :: w :: r => if v.category = 2 then some (pc + 1, L, v :: v :: w :: r, S) else if w.category = 1 then some (pc + 1, L, v :: w :: v :: w :: r, S) else none
    | _ => none
  | .dup_x1 => match st with
    | v :: w :: r => if v.category = 1 ∧ w.category = 1 then some (pc + 1, L, v :: w :: v :: r, S) else none
    | _ => none
  | .if_icmp c off => match st with
    | .int y :: .int x :: r => (match mTg pc off with | some t => if mCmp c x y = true then some (t, L, r, S) else some (pc + 3, L, r, S) | none => none)
    | _ => none
  | .ifCond c off => match st with
    | .int x :: r => (match mTg pc off with | some t => if mCmp c x 0 = true then some (t, L, r, S) else some (pc + 3, L, r, S) | none => none)
    | _ => none
  | .goto off => match mTg pc off with
    | some t => some (t, L, st, S)
    | none => none
  | .tableswitch d lo hi offs => match st with
    | .int x :: r => if x.toInt < lo ∨ hi < x.toInt then (match mTg pc d with | some t => some (t, L, r, S) | none => none)
      else (match offs[(x.toInt - lo).toNat]? with | some off => (match mTg pc off with | some t => some (t, L, r, S) | none => none) | none => none)
    | _ => none
  | .arraylength => match st with
    | .ref a :: r => (match S.1 a with | some (.inl (_, n, _)) => some (pc + 1, L, .int (Int32.ofNat n) :: r, S) | _ => none)
    | _ => none
  | .getfield k => match P.1 (mTag M) k, st with
    | some (ci, f), .ref a :: r => (match S.1 a with
      | some (.inr (c2, fs)) => if c2 = ci then (match fs[f]? with | some v => some (pc + 3, L, v :: r, S) | none => none) else none
      | _ => none)
    | _, _ => none
  | .putfield k => match P.1 (mTag M) k, st with
    | some (ci, f), v :: .ref a :: r => (match S.1 a, mFt ci f with
      | some (.inr (c2, fs)), some (ty, fin) => if c2 = ci ∧ b ≤ a ∧ f < fs.length ∧ narrow ty v = v ∧ fits ty v = true ∧ (fin = true → mIni M = true ∧ mCi M = ci) then some (pc + 3, L, r, mUp S.1 a (.inr (ci, fs.set f v)), S.2) else none
      | _, _ => none)
    | _, _ => none
  | .new k => match P.2.1 (mTag M) k with
    | some ci => (match mBorn ci with | some fs => some (pc + 3, L, .ref S.2.1 :: st, mUp S.1 S.2.1 (.inr (ci, fs)), S.2.1 + 1, S.2.2 + fs.length) | none => none)
    | none => none
  | .newarray t => match st, mZero t with
    | .int n :: r, some (ty, z) => if n < 0 ∨ 60000 < n.toNatClampNeg then none else some (pc + 2, L, .ref S.2.1 :: r, mUp S.1 S.2.1 (.inl (ty, z n.toNatClampNeg)), S.2.1 + 1, S.2.2 + n.toNatClampNeg)
    | _, _ => none
  | .multianewarray k dm => match st with
    | .int kk :: .int n :: r => if mTag M = 3 ∧ k = 45 ∧ dm = 2 ∧ ¬ n < 0 ∧ ¬ kk < 0 ∧ n.toNatClampNeg ≤ 1000 ∧ kk.toNatClampNeg ≤ 60000 then some (pc + 4, L, .ref S.2.1 :: r, mMul S.1 S.2.1 n.toNatClampNeg kk.toNatClampNeg, S.2.1 + 1 + n.toNatClampNeg, S.2.2 + n.toNatClampNeg + n.toNatClampNeg * kk.toNatClampNeg) else none
    | _ => none
  | .iaload | .baload | .laload | .aaload => mAld i pc L st S
  | .iastore | .bastore | .lastore => mAst b i pc L st S
  | .iadd | .isub | .imul | .iand | .ior | .ixor | .ishl | .ishr | .iushr | .idiv | .irem | .ladd | .lsub | .lmul | .land | .lor | .lxor | .lshl | .lshr | .lushr => mAri i pc L st S
  | _ => none
/-- primitives: 0 Object's constructor, 1 arraycopy of bytes -/
def mPrim0 (st : List Value) (S : mS) : Option (List Value × mS) := match st with
  | .ref _ :: r => some (r, S)
  | _ => none
def mPrim1 (b : Nat) (st : List Value) (S : mS) : Option (List Value × mS) := match st with
  | .int n :: .int dp :: .ref a :: .int sp :: .ref a0 :: r => (match S.1 a0, S.1 a with
    | some (.inl (.byte, n0, .inl f)), some (.inl (.byte, n1, .inl g)) =>
      if b ≤ a ∧ ¬ sp < 0 ∧ ¬ dp < 0 ∧ ¬ n < 0 ∧ sp.toNatClampNeg + n.toNatClampNeg ≤ n0 ∧ dp.toNatClampNeg + n.toNatClampNeg ≤ n1 ∧ ∀ i, i < n.toNatClampNeg → fits .byte (.int (f (sp.toNatClampNeg + i))) = true
      then some (r, mUp S.1 a (.inl (.byte, n1, .inl (va_cpy f g sp.toNatClampNeg dp.toNatClampNeg n.toNatClampNeg))), S.2) else none
    | _, _ => none)
  | _ => none
/-- 2: the lesser of two ints, 3: the greater, 4: without its sign -/
def mPrim2 (st : List Value) (S : mS) : Option (List Value × mS) := match st with
  | .int y :: .int x :: r => some (.int (if y < x then y else x) :: r, S)
  | _ => none
def mPrim3 (st : List Value) (S : mS) : Option (List Value × mS) := match st with
  | .int y :: .int x :: r => some (.int (if x < y then y else x) :: r, S)
  | _ => none
def mPrim4 (st : List Value) (S : mS) : Option (List Value × mS) := match st with
  | .int x :: r => some (.int (if 0 ≤ x then x else 0 - x) :: r, S)
  | _ => none
def mPrim (b k : Nat) (st : List Value) (S : mS) : Option (List Value × mS) := match k with
  | 0 => mPrim0 st S
  | 1 => mPrim1 b st S
  | 2 => mPrim2 st S
  | 3 => mPrim3 st S
  | 4 => mPrim4 st S
  | _ => none
/-- is a call's receiver of the class -/
def mRcv (S : mS) (ci : Nat) (args : List Value) : Bool := match args with
  | .ref a :: _ => (match S.1 a with | some (.inr (c, _)) => decide (c = ci) | _ => false)
  | _ => false
def mIsRef (args : List Value) : Bool := match args with
  | .ref _ :: _ => true
  | _ => false
def mWide (st : List Value) : Bool := decide ((st.map fun v => v.category).sum ≤ 8)
/-- may the call be made: enough on the stack, a receiver, room for what stays there and for the locals -/
def mMay (kd : Nat) (M M' : mM) (L : mL) (st : List Value) (S : mS) : Bool :=
  decide (mNa M' ≤ st.length) && decide (L.length = mMax M) && mWide (st.drop (mNa M')) && decide ((mArg (st.take (mNa M')).reverse).length ≤ mMax M') && decide (mMax M' ≤ 20) && (kd == 1 || (if kd = 0 then mRcv S (mCi M') (st.take (mNa M')).reverse else mIsRef (st.take (mNa M')).reverse))
/-- a call's instruction -/
def mIn (kd k : Nat) : Instr := match kd with
  | 0 => .invokevirtual k
  | 1 => .invokestatic k
  | _ => .invokespecial k
abbrev mF : Type := Nat → mM → Nat → mL → List Value → mS → Option (Option Value × mS)
/-- a call, rec: what goes on behind it, and what runs the callee -/
def mGo (P : mP) (b : Nat) (rec : mF) (d : Nat) (M : mM) (i : Instr) (k pc : Nat) (L : mL) (st : List Value) (S : mS) : Option (Option Value × mS) := match d with
  | 0 => none
  | d' + 1 => match P.2.2.1 (mTag M) k with
    | none => none
    | some (kd, .inr q) => if i = mIn kd k ∧ L.length = mMax M then (match mPrim b q st S with
      | some (st', S') => if mWide st' = true then rec (d' + 1) M (pc + 3) L st' S' else none
      | none => none) else none
    | some (kd, .inl q) => if i = mIn kd k then (match P.2.2.2.2.2 q with
      | some M' => if mMay kd M M' L st S = true then
          (match rec d' M' 0 (mEn (st.take (mNa M')).reverse (mMax M')) [] S with
          | some (r, S') => rec (d' + 1) M (pc + 3) L (r.toList ++ st.drop (mNa M')) S'
          | none => none) else none
      | none => none) else none
def mRetn (M : mM) (i : Instr) (st : List Value) (S : mS) : Option (Option Value × mS) := match i, st, mRet M with
  | .return_, [], none => some (none, S)
  | .ireturn, [.int v], some ty => if narrow ty (.int v) = .int v then some (some (.int v), S) else none
  | .lreturn, [.long v], some .long => some (some (.long v), S)
  | .areturn, [.ref v], some (.object _) => some (some (.ref v), S)
  | .areturn, [.ref v], some (.array _) => some (some (.ref v), S)
  | _, _, _ => none
/-- one instruction -/
def mOne (P : mP) (b : Nat) (rec : mF) (d : Nat) (M : mM) (i : Instr) (pc : Nat) (L : mL) (st : List Value) (S : mS) : Option (Option Value × mS) := match i with
  | .return_ | .ireturn | .lreturn | .areturn => mRetn M i st S
  | .invokevirtual k | .invokestatic k | .invokespecial k => mGo P b rec d M i k pc L st S
  | _ => (match mStep P b M i pc L st S with
    | some nx => rec d M nx.1 nx.2.1 nx.2.2.1 nx.2.2.2
    | none => none)
/-- n: fuel, d: how deep calls may go -/
def mExec (P : mP) (b : Nat) : Nat → mF
  | 0 => fun _ _ _ _ _ _ => none
  | n + 1 => fun d M pc L st S => match decode (mCode M) pc with
    | .error _ => none
    | .ok (i, len) => if mLen i = 0 ∨ mLen i = len then mOne P b (mExec P b n) d M i pc L st S else none
