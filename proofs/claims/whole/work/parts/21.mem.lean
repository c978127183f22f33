/-! THE MEMORY: all cells of the system stand at b + k, k a place of the layout; what they hold are ints I k j and longs J k j.
A field's code: 0 an int, 1 a long, 2 a reference that varies (the place as an int, 0: null), n + 3: the reference b + n. -/
def mRf (b : Nat) (x : Int32) : Value := if x = 0 then .null else .ref (b + x.toNatClampNeg)
def mFv (b : Nat) (i : Nat → Int32) (j : Nat → Int64) (f c : Nat) : Value := match c with
  | 0 => .int (i f)
  | 1 => .long (j f)
  | 2 => mRf b (i f)
  | n + 3 => .ref (b + n)
def mFs (b : Nat) (i : Nat → Int32) (j : Nat → Int64) (fs : List Nat) : List Value := fs.mapIdx (fun f c => mFv b i j f c)
/-- a place: an array (0 ints, 1 bytes, 2 booleans, 3 longs; its length), an object (its class, its fields' codes), an array of arrays (their places) -/
abbrev mDs : Type := (Nat × Nat) ⊕ (Nat × List Nat) ⊕ List Nat
def mCe (b : Nat) (i : Nat → Int32) (j : Nat → Int64) (d : mDs) : mC := match d with
  | .inl (0, n) => .inl (.int, n, .inl i)
  | .inl (1, n) => .inl (.byte, n, .inl i)
  | .inl (2, n) => .inl (.boolean, n, .inl i)
  | .inl (_, n) => .inl (.long, n, .inr (.inl j))
  | .inr (.inl (ci, fs)) => .inr (ci, mFs b i j fs)
  | .inr (.inr offs) => .inl (.array .int, offs.length, .inr (.inr (.inr (.inr (fun k => (offs[k]?).map (fun o => b + o))))))
/-- ints, longs, next address, slots made -/
abbrev gT : Type := (Nat → Nat → Int32) × (Nat → Nat → Int64) × Nat × Nat
/-- y at place k, slot j -/
def gI (T : gT) (k j : Nat) (x : Int32) : gT := (va_up T.1 k (upd (T.1 k) j x), T.2)
def gJ (T : gT) (k j : Nat) (x : Int64) : gT := (T.1, va_up T.2.1 k (vp_updL (T.2.1 k) j x), T.2.2)
/-- the heap holds the memory; E: up to where, and what it is below b and behind the memory -/
def gH (lay : List mDs) (b : Nat) (E : Nat × mH) (T : gT) (h : mH) : Prop := (∀ (k : Nat) (d : mDs), lay[k]? = some d → h (b + k) = some (mCe b (T.1 k) (T.2.1 k) d)) ∧ (∀ a, a < b ∨ (b + lay.length ≤ a ∧ a < E.1) → h a = E.2 a) ∧ b + lay.length ≤ E.1 ∧ E.1 ≤ T.2.2.1
theorem mFs_get {b : Nat} {i : Nat → Int32} {j : Nat → Int64} {fs : List Nat} {f c : Nat} (h : fs[f]? = some c) : (mFs b i j fs)[f]? = some (mFv b i j f c) := by
  unfold mFs
  rw [List.getElem?_mapIdx, h]
  rfl
theorem mFs_len {b : Nat} {i : Nat → Int32} {j : Nat → Int64} {fs : List Nat} : (mFs b i j fs).length = fs.length := by
  unfold mFs
  simp
theorem mFs_set {b : Nat} {i i' : Nat → Int32} {j j' : Nat → Int64} {fs : List Nat} {f c : Nat} {v : Value} (h : fs[f]? = some c) (hv : mFv b i' j' f c = v) (ho : ∀ g, g ≠ f → i' g = i g ∧ j' g = j g) : (mFs b i j fs).set f v = mFs b i' j' fs := by
  apply List.ext_getElem?
  intro g
  by_cases e : g = f
  · subst e
    rw [List.getElem?_set_self (by rw [mFs_len]; exact (List.getElem?_eq_some_iff.mp h).1), mFs_get h, hv]
  · rw [List.getElem?_set_ne (fun z => e z.symm)]
    unfold mFs
    rw [List.getElem?_mapIdx, List.getElem?_mapIdx]
    congr 1
    funext c
    unfold mFv
    rw [(ho g e).1, (ho g e).2]
theorem gH.up {lay : List mDs} {b : Nat} {E : Nat × mH} {T : gT} {h : mH} (hh : gH lay b E T h) {k : Nat} {d : mDs} (hk : lay[k]? = some d) {i : Nat → Int32} {j : Nat → Int64} {c : mC} (hc : c = mCe b i j d) : gH lay b E (va_up T.1 k i, va_up T.2.1 k j, T.2.2) (mUp h (b + k) c) := by
  refine ⟨fun k2 d2 h2 => ?_, fun a ha => ?_, hh.2.2⟩
  · by_cases e : k2 = k
    · subst e
      cases hk.symm.trans h2
      dsimp only
      rw [mUp_self, va_up_self, va_up_self, hc]
    · dsimp only
      rw [mUp_ne _ _ (by omega), va_up_ne _ _ e, va_up_ne _ _ e]
      exact hh.1 k2 d2 h2
  · have hlt : k < lay.length := (List.getElem?_eq_some_iff.mp hk).1
    rw [mUp_ne _ _ (by omega)]
    exact hh.2.1 a ha
theorem va_up_id {α : Type} (f : Nat → α) (k : Nat) : va_up f k (f k) = f := by
  funext j
  unfold va_up
  split
  · rename_i e; rw [e]
  · rfl
theorem gH.upI {lay : List mDs} {b : Nat} {E : Nat × mH} {T : gT} {h : mH} (hh : gH lay b E T h) {k : Nat} {d : mDs} (hk : lay[k]? = some d) {s : Nat} {x : Int32} {c : mC} (hc : c = mCe b (upd (T.1 k) s x) (T.2.1 k) d) : gH lay b E (gI T k s x) (mUp h (b + k) c) := by
  have := hh.up hk hc
  rw [va_up_id T.2.1 k] at this
  exact this
theorem gH.upJ {lay : List mDs} {b : Nat} {E : Nat × mH} {T : gT} {h : mH} (hh : gH lay b E T h) {k : Nat} {d : mDs} (hk : lay[k]? = some d) {s : Nat} {x : Int64} {c : mC} (hc : c = mCe b (T.1 k) (vp_updL (T.2.1 k) s x) d) : gH lay b E (gJ T k s x) (mUp h (b + k) c) := by
  have := hh.up hk hc
  rw [va_up_id T.1 k] at this
  exact this
/-- from here the plain machine comes to an end, with Q of the answer and of the memory -/
def gW (P : mP) (lay : List mDs) (b : Nat) (E : Nat × mH) (d : Nat) (M : mM) (pc : Nat) (L : mL) (st : List Value) (T : gT) (Q : Option Value → gT → Prop) : Prop :=
  ∀ h : mH, gH lay b E T h → mW P b d M pc L st (h, T.2.2) (fun r S' => ∃ T' : gT, gH lay b E T' S'.1 ∧ S'.2 = T'.2.2 ∧ Q r T')
/-- .. a call -/
def gC (P : mP) (lay : List mDs) (b : Nat) (E : Nat × mH) (d : Nat) (M : mM) (as : List Value) (T : gT) (Q : Option Value → gT → Prop) : Prop := (mArg as).length ≤ mMax M ∧ gW P lay b E d M 0 (mEn as (mMax M)) [] T Q
section GW
variable {P : mP} {lay : List mDs} {b : Nat} {E : Nat × mH} {d : Nat} {M : mM} {pc : Nat} {L : mL} {st : List Value} {T : gT} {Q : Option Value → gT → Prop}
theorem gW.mono {d' : Nat} {Q' : Option Value → gT → Prop} (h : gW P lay b E d M pc L st T Q) (hd : d ≤ d') (hq : ∀ r T', Q r T' → Q' r T') : gW P lay b E d' M pc L st T Q' := fun hp hh => (h hp hh).mono hd (fun r S' ⟨T', h1, h2, h3⟩ => ⟨T', h1, h2, hq r T' h3⟩)
theorem gC.mono {as : List Value} {d' : Nat} {Q' : Option Value → gT → Prop} (h : gC P lay b E d M as T Q) (hd : d ≤ d') (hq : ∀ r T', Q r T' → Q' r T') : gC P lay b E d' M as T Q' := ⟨h.1, h.2.mono hd hq⟩
/-- an instruction that leaves the heap alone -/
theorem g_step {i : Instr} {len : Nat} {pc' : Nat} {L' : mL} {st' : List Value} (hd : decode (mCode M) pc = .ok (i, len)) (hl : mLen i = 0 ∨ mLen i = len) (hs : ∀ S : mS, mStep P b M i pc L st S = some (pc', L', st', S)) (k : gW P lay b E d M pc' L' st' T Q) : gW P lay b E d M pc L st T Q := fun h hh => mw_step hd hl (hs _) (k h hh)
theorem g_iconst {n : Int} {v : Int32} (hd : decode (mCode M) pc = .ok (.iconst n, 1)) (hv : Int32.ofInt n = v) (k : gW P lay b E d M (pc + 1) L (.int v :: st) T Q) : gW P lay b E d M pc L (st) T Q := g_step hd (Or.inr rfl) (fun S => by simp [mStep, mLoad, mAri, mI2, mJ2, mJs, *]) k
theorem g_bipush {n : Int} {v : Int32} (hd : decode (mCode M) pc = .ok (.bipush n, 2)) (hv : (Int8.ofInt n).toInt32 = v) (k : gW P lay b E d M (pc + 2) L (.int v :: st) T Q) : gW P lay b E d M pc L (st) T Q := g_step hd (Or.inr rfl) (fun S => by simp [mStep, mLoad, mAri, mI2, mJ2, mJs, *]) k
theorem g_sipush {n : Int} {v : Int32} (hd : decode (mCode M) pc = .ok (.sipush n, 3)) (hv : (Int16.ofInt n).toInt32 = v) (k : gW P lay b E d M (pc + 3) L (.int v :: st) T Q) : gW P lay b E d M pc L (st) T Q := g_step hd (Or.inr rfl) (fun S => by simp [mStep, mLoad, mAri, mI2, mJ2, mJs, *]) k
theorem g_lconst {n : Fin 2} {v : Int64} (hd : decode (mCode M) pc = .ok (.lconst n, 1)) (hv : Int64.ofNat (n : Nat) = v) (k : gW P lay b E d M (pc + 1) L (.long v :: st) T Q) : gW P lay b E d M pc L (st) T Q := g_step hd (Or.inr rfl) (fun S => by simp [mStep, mLoad, mAri, mI2, mJ2, mJs, *]) k
theorem g_ldc {k9 : Nat} {v : Value} (hd : decode (mCode M) pc = .ok (.ldc k9, 2)) (hv : P.2.2.2.1 (mTag M) k9 = some v) (hc : v.category = 1) (k : gW P lay b E d M (pc + 2) L (v :: st) T Q) : gW P lay b E d M pc L (st) T Q := g_step hd (Or.inr rfl) (fun S => by simp [mStep, mLoad, mAri, mI2, mJ2, mJs, *]) k
theorem g_ldc_w {k9 : Nat} {v : Int32} (hd : decode (mCode M) pc = .ok (.ldc_w k9, 3)) (hv : P.2.2.2.1 (mTag M) k9 = some (.int v)) (k : gW P lay b E d M (pc + 3) L (.int v :: st) T Q) : gW P lay b E d M pc L (st) T Q := g_step hd (Or.inr rfl) (fun S => by simp [mStep, mLoad, mAri, mI2, mJ2, mJs, Value.category, *]) k
theorem g_ldcwR {k9 : Nat} {v : Value} (hd : decode (mCode M) pc = .ok (.ldc_w k9, 3)) (hv : P.2.2.2.1 (mTag M) k9 = some v) (hc : v.category = 1) (k : gW P lay b E d M (pc + 3) L (v :: st) T Q) : gW P lay b E d M pc L (st) T Q := g_step hd (Or.inr rfl) (fun S => by simp [mStep, mLoad, mAri, mI2, mJ2, mJs, *]) k
theorem g_ldc2_w {k9 : Nat} {v : Int64} (hd : decode (mCode M) pc = .ok (.ldc2_w k9, 3)) (hv : P.2.2.2.1 (mTag M) k9 = some (.long v)) (k : gW P lay b E d M (pc + 3) L (.long v :: st) T Q) : gW P lay b E d M pc L (st) T Q := g_step hd (Or.inr rfl) (fun S => by simp [mStep, mLoad, mAri, mI2, mJ2, mJs, *]) k
theorem g_getstatic {k9 : Nat} {v : Value} (hd : decode (mCode M) pc = .ok (.getstatic k9, 3)) (hv : P.2.2.2.2.1 (mTag M) k9 = some v) (k : gW P lay b E d M (pc + 3) L (v :: st) T Q) : gW P lay b E d M pc L (st) T Q := g_step hd (Or.inr rfl) (fun S => by simp [mStep, mLoad, mAri, mI2, mJ2, mJs, *]) k
theorem g_iload {k9 : Nat} {x : Int32} (hd : decode (mCode M) pc = .ok (.iload k9, 2)) (hv : mLd L k9 = some (.int x)) (k : gW P lay b E d M (pc + 2) L (.int x :: st) T Q) : gW P lay b E d M pc L (st) T Q := g_step hd (Or.inr rfl) (fun S => by simp [mStep, mLoad, mAri, mI2, mJ2, mJs, *]) k
theorem g_iload_n {k9 : Fin 4} {x : Int32} (hd : decode (mCode M) pc = .ok (.iload_n k9, 1)) (hv : mLd L k9 = some (.int x)) (k : gW P lay b E d M (pc + 1) L (.int x :: st) T Q) : gW P lay b E d M pc L (st) T Q := g_step hd (Or.inr rfl) (fun S => by simp [mStep, mLoad, mAri, mI2, mJ2, mJs, *]) k
theorem g_lload {k9 : Nat} {x : Int64} (hd : decode (mCode M) pc = .ok (.lload k9, 2)) (hv : mLd L k9 = some (.long x)) (k : gW P lay b E d M (pc + 2) L (.long x :: st) T Q) : gW P lay b E d M pc L (st) T Q := g_step hd (Or.inr rfl) (fun S => by simp [mStep, mLoad, mAri, mI2, mJ2, mJs, *]) k
theorem g_lload_n {k9 : Fin 4} {x : Int64} (hd : decode (mCode M) pc = .ok (.lload_n k9, 1)) (hv : mLd L k9 = some (.long x)) (k : gW P lay b E d M (pc + 1) L (.long x :: st) T Q) : gW P lay b E d M pc L (st) T Q := g_step hd (Or.inr rfl) (fun S => by simp [mStep, mLoad, mAri, mI2, mJ2, mJs, *]) k
theorem g_aload {k9 : Nat} {x : Nat} (hd : decode (mCode M) pc = .ok (.aload k9, 2)) (hv : mLd L k9 = some (.ref x)) (k : gW P lay b E d M (pc + 2) L (.ref x :: st) T Q) : gW P lay b E d M pc L (st) T Q := g_step hd (Or.inr rfl) (fun S => by simp [mStep, mLoad, mAri, mI2, mJ2, mJs, *]) k
theorem g_aload_n {k9 : Fin 4} {x : Nat} (hd : decode (mCode M) pc = .ok (.aload_n k9, 1)) (hv : mLd L k9 = some (.ref x)) (k : gW P lay b E d M (pc + 1) L (.ref x :: st) T Q) : gW P lay b E d M pc L (st) T Q := g_step hd (Or.inr rfl) (fun S => by simp [mStep, mLoad, mAri, mI2, mJ2, mJs, *]) k
theorem g_istore {k9 : Nat} {x : Int32} {L' : mL} (hd : decode (mCode M) pc = .ok (.istore k9, 2)) (hL : mSt L k9 (.int x) = some L') (k : gW P lay b E d M (pc + 2) L' st T Q) : gW P lay b E d M pc L (.int x :: st) T Q := g_step hd (Or.inr rfl) (fun S => by simp [mStep, mStore, hL]) k
theorem g_istore_n {k9 : Fin 4} {x : Int32} {L' : mL} (hd : decode (mCode M) pc = .ok (.istore_n k9, 1)) (hL : mSt L k9 (.int x) = some L') (k : gW P lay b E d M (pc + 1) L' st T Q) : gW P lay b E d M pc L (.int x :: st) T Q := g_step hd (Or.inr rfl) (fun S => by simp [mStep, mStore, hL]) k
theorem g_lstore {k9 : Nat} {x : Int64} {L' : mL} (hd : decode (mCode M) pc = .ok (.lstore k9, 2)) (hL : mSt L k9 (.long x) = some L') (k : gW P lay b E d M (pc + 2) L' st T Q) : gW P lay b E d M pc L (.long x :: st) T Q := g_step hd (Or.inr rfl) (fun S => by simp [mStep, mStore, hL]) k
theorem g_lstore_n {k9 : Fin 4} {x : Int64} {L' : mL} (hd : decode (mCode M) pc = .ok (.lstore_n k9, 1)) (hL : mSt L k9 (.long x) = some L') (k : gW P lay b E d M (pc + 1) L' st T Q) : gW P lay b E d M pc L (.long x :: st) T Q := g_step hd (Or.inr rfl) (fun S => by simp [mStep, mStore, hL]) k
theorem g_astore {k9 : Nat} {x : Nat} {L' : mL} (hd : decode (mCode M) pc = .ok (.astore k9, 2)) (hL : mSt L k9 (.ref x) = some L') (k : gW P lay b E d M (pc + 2) L' st T Q) : gW P lay b E d M pc L (.ref x :: st) T Q := g_step hd (Or.inr rfl) (fun S => by simp [mStep, mStore, hL]) k
theorem g_astore_n {k9 : Fin 4} {x : Nat} {L' : mL} (hd : decode (mCode M) pc = .ok (.astore_n k9, 1)) (hL : mSt L k9 (.ref x) = some L') (k : gW P lay b E d M (pc + 1) L' st T Q) : gW P lay b E d M pc L (.ref x :: st) T Q := g_step hd (Or.inr rfl) (fun S => by simp [mStep, mStore, hL]) k
theorem g_iinc {k9 : Nat} {n : Int} {x v : Int32} {L' : mL} (hd : decode (mCode M) pc = .ok (.iinc k9 n, 3)) (hx : mLd L k9 = some (.int x)) (hv : x + Int32.ofInt n = v) (hL : mSt L k9 (.int v) = some L') (k : gW P lay b E d M (pc + 3) L' st T Q) : gW P lay b E d M pc L st T Q := g_step hd (Or.inr rfl) (fun S => by subst hv; simp [mStep, hx, hL]) k
theorem g_iadd {x y : Int32} (hd : decode (mCode M) pc = .ok (.iadd, 1))  (k : gW P lay b E d M (pc + 1) L (.int (x + y) :: st) T Q) : gW P lay b E d M pc L (.int y :: .int x :: st) T Q := g_step hd (Or.inr rfl) (fun S => by simp [mStep, mLoad, mAri, mI2, mJ2, mJs, *]) k
theorem g_isub {x y : Int32} (hd : decode (mCode M) pc = .ok (.isub, 1))  (k : gW P lay b E d M (pc + 1) L (.int (x - y) :: st) T Q) : gW P lay b E d M pc L (.int y :: .int x :: st) T Q := g_step hd (Or.inr rfl) (fun S => by simp [mStep, mLoad, mAri, mI2, mJ2, mJs, *]) k
theorem g_imul {x y : Int32} (hd : decode (mCode M) pc = .ok (.imul, 1))  (k : gW P lay b E d M (pc + 1) L (.int (x * y) :: st) T Q) : gW P lay b E d M pc L (.int y :: .int x :: st) T Q := g_step hd (Or.inr rfl) (fun S => by simp [mStep, mLoad, mAri, mI2, mJ2, mJs, *]) k
theorem g_iand {x y : Int32} (hd : decode (mCode M) pc = .ok (.iand, 1))  (k : gW P lay b E d M (pc + 1) L (.int (x &&& y) :: st) T Q) : gW P lay b E d M pc L (.int y :: .int x :: st) T Q := g_step hd (Or.inr rfl) (fun S => by simp [mStep, mLoad, mAri, mI2, mJ2, mJs, *]) k
theorem g_ior {x y : Int32} (hd : decode (mCode M) pc = .ok (.ior, 1))  (k : gW P lay b E d M (pc + 1) L (.int (x ||| y) :: st) T Q) : gW P lay b E d M pc L (.int y :: .int x :: st) T Q := g_step hd (Or.inr rfl) (fun S => by simp [mStep, mLoad, mAri, mI2, mJ2, mJs, *]) k
theorem g_ixor {x y : Int32} (hd : decode (mCode M) pc = .ok (.ixor, 1))  (k : gW P lay b E d M (pc + 1) L (.int (x ^^^ y) :: st) T Q) : gW P lay b E d M pc L (.int y :: .int x :: st) T Q := g_step hd (Or.inr rfl) (fun S => by simp [mStep, mLoad, mAri, mI2, mJ2, mJs, *]) k
theorem g_ishl {x y : Int32} (hd : decode (mCode M) pc = .ok (.ishl, 1))  (k : gW P lay b E d M (pc + 1) L (.int (x <<< (y &&& 31)) :: st) T Q) : gW P lay b E d M pc L (.int y :: .int x :: st) T Q := g_step hd (Or.inr rfl) (fun S => by simp [mStep, mLoad, mAri, mI2, mJ2, mJs, *]) k
theorem g_ishr {x y : Int32} (hd : decode (mCode M) pc = .ok (.ishr, 1))  (k : gW P lay b E d M (pc + 1) L (.int (x >>> (y &&& 31)) :: st) T Q) : gW P lay b E d M pc L (.int y :: .int x :: st) T Q := g_step hd (Or.inr rfl) (fun S => by simp [mStep, mLoad, mAri, mI2, mJ2, mJs, *]) k
theorem g_iushr {x y : Int32} (hd : decode (mCode M) pc = .ok (.iushr, 1))  (k : gW P lay b E d M (pc + 1) L (.int ((x.toUInt32 >>> (y.toUInt32 &&& Int32.toUInt32 31)).toInt32) :: st) T Q) : gW P lay b E d M pc L (.int y :: .int x :: st) T Q := g_step hd (Or.inr rfl) (fun S => by simp [mStep, mLoad, mAri, mI2, mJ2, mJs, *]) k
theorem g_idiv {x y : Int32} (hd : decode (mCode M) pc = .ok (.idiv, 1)) (hy : ¬ y = 0) (k : gW P lay b E d M (pc + 1) L (.int (x / y) :: st) T Q) : gW P lay b E d M pc L (.int y :: .int x :: st) T Q := g_step hd (Or.inr rfl) (fun S => by simp [mStep, mLoad, mAri, mI2, mJ2, mJs, *]) k
theorem g_irem {x y : Int32} (hd : decode (mCode M) pc = .ok (.irem, 1)) (hy : ¬ y = 0) (k : gW P lay b E d M (pc + 1) L (.int (x - x / y * y) :: st) T Q) : gW P lay b E d M pc L (.int y :: .int x :: st) T Q := g_step hd (Or.inr rfl) (fun S => by simp [mStep, mLoad, mAri, mI2, mJ2, mJs, *]) k
theorem g_ladd {x y : Int64} (hd : decode (mCode M) pc = .ok (.ladd, 1))  (k : gW P lay b E d M (pc + 1) L (.long (x + y) :: st) T Q) : gW P lay b E d M pc L (.long y :: .long x :: st) T Q := g_step hd (Or.inr rfl) (fun S => by simp [mStep, mLoad, mAri, mI2, mJ2, mJs, *]) k
theorem g_lsub {x y : Int64} (hd : decode (mCode M) pc = .ok (.lsub, 1))  (k : gW P lay b E d M (pc + 1) L (.long (x - y) :: st) T Q) : gW P lay b E d M pc L (.long y :: .long x :: st) T Q := g_step hd (Or.inr rfl) (fun S => by simp [mStep, mLoad, mAri, mI2, mJ2, mJs, *]) k
theorem g_lmul {x y : Int64} (hd : decode (mCode M) pc = .ok (.lmul, 1))  (k : gW P lay b E d M (pc + 1) L (.long (x * y) :: st) T Q) : gW P lay b E d M pc L (.long y :: .long x :: st) T Q := g_step hd (Or.inr rfl) (fun S => by simp [mStep, mLoad, mAri, mI2, mJ2, mJs, *]) k
theorem g_land {x y : Int64} (hd : decode (mCode M) pc = .ok (.land, 1))  (k : gW P lay b E d M (pc + 1) L (.long (x &&& y) :: st) T Q) : gW P lay b E d M pc L (.long y :: .long x :: st) T Q := g_step hd (Or.inr rfl) (fun S => by simp [mStep, mLoad, mAri, mI2, mJ2, mJs, *]) k
theorem g_lor {x y : Int64} (hd : decode (mCode M) pc = .ok (.lor, 1))  (k : gW P lay b E d M (pc + 1) L (.long (x ||| y) :: st) T Q) : gW P lay b E d M pc L (.long y :: .long x :: st) T Q := g_step hd (Or.inr rfl) (fun S => by simp [mStep, mLoad, mAri, mI2, mJ2, mJs, *]) k
theorem g_lxor {x y : Int64} (hd : decode (mCode M) pc = .ok (.lxor, 1))  (k : gW P lay b E d M (pc + 1) L (.long (x ^^^ y) :: st) T Q) : gW P lay b E d M pc L (.long y :: .long x :: st) T Q := g_step hd (Or.inr rfl) (fun S => by simp [mStep, mLoad, mAri, mI2, mJ2, mJs, *]) k
theorem g_lshl {x : Int64} {y : Int32} (hd : decode (mCode M) pc = .ok (.lshl, 1))  (k : gW P lay b E d M (pc + 1) L (.long (x <<< (y.toInt64 &&& 63)) :: st) T Q) : gW P lay b E d M pc L (.int y :: .long x :: st) T Q := g_step hd (Or.inr rfl) (fun S => by simp [mStep, mLoad, mAri, mI2, mJ2, mJs, *]) k
theorem g_lshr {x : Int64} {y : Int32} (hd : decode (mCode M) pc = .ok (.lshr, 1))  (k : gW P lay b E d M (pc + 1) L (.long (x >>> (y.toInt64 &&& 63)) :: st) T Q) : gW P lay b E d M pc L (.int y :: .long x :: st) T Q := g_step hd (Or.inr rfl) (fun S => by simp [mStep, mLoad, mAri, mI2, mJ2, mJs, *]) k
theorem g_lushr {x : Int64} {y : Int32} (hd : decode (mCode M) pc = .ok (.lushr, 1))  (k : gW P lay b E d M (pc + 1) L (.long ((x.toUInt64 >>> (y.toInt64.toUInt64 &&& Int64.toUInt64 63)).toInt64) :: st) T Q) : gW P lay b E d M pc L (.int y :: .long x :: st) T Q := g_step hd (Or.inr rfl) (fun S => by simp [mStep, mLoad, mAri, mI2, mJ2, mJs, *]) k
theorem g_ineg {x : Int32} (hd : decode (mCode M) pc = .ok (.ineg, 1))  (k : gW P lay b E d M (pc + 1) L (.int (-x) :: st) T Q) : gW P lay b E d M pc L (.int x :: st) T Q := g_step hd (Or.inr rfl) (fun S => by simp [mStep, mLoad, mAri, mI2, mJ2, mJs, *]) k
theorem g_i2l {x : Int32} (hd : decode (mCode M) pc = .ok (.i2l, 1))  (k : gW P lay b E d M (pc + 1) L (.long x.toInt64 :: st) T Q) : gW P lay b E d M pc L (.int x :: st) T Q := g_step hd (Or.inr rfl) (fun S => by simp [mStep, mLoad, mAri, mI2, mJ2, mJs, *]) k
theorem g_l2i {x : Int64} (hd : decode (mCode M) pc = .ok (.l2i, 1))  (k : gW P lay b E d M (pc + 1) L (.int x.toInt32 :: st) T Q) : gW P lay b E d M pc L (.long x :: st) T Q := g_step hd (Or.inr rfl) (fun S => by simp [mStep, mLoad, mAri, mI2, mJ2, mJs, *]) k
theorem g_i2b {x : Int32} (hd : decode (mCode M) pc = .ok (.i2b, 1))  (k : gW P lay b E d M (pc + 1) L (.int x.toInt8.toInt32 :: st) T Q) : gW P lay b E d M pc L (.int x :: st) T Q := g_step hd (Or.inr rfl) (fun S => by simp [mStep, mLoad, mAri, mI2, mJ2, mJs, *]) k
theorem g_i2c {x : Int32} (hd : decode (mCode M) pc = .ok (.i2c, 1))  (k : gW P lay b E d M (pc + 1) L (.int (x.toUInt32 % 65536).toInt32 :: st) T Q) : gW P lay b E d M pc L (.int x :: st) T Q := g_step hd (Or.inr rfl) (fun S => by simp [mStep, mLoad, mAri, mI2, mJ2, mJs, *]) k
theorem g_lcmp {x y : Int64} (hd : decode (mCode M) pc = .ok (.lcmp, 1))  (k : gW P lay b E d M (pc + 1) L (.int (lg_cmp x y) :: st) T Q) : gW P lay b E d M pc L (.long y :: .long x :: st) T Q := g_step hd (Or.inr rfl) (fun S => by simp [mStep, mLoad, mAri, mI2, mJ2, mJs, *]) k
theorem g_dup {v : Value} (hd : decode (mCode M) pc = .ok (.dup, 1)) (hc : v.category = 1) (k : gW P lay b E d M (pc + 1) L (v :: v :: st) T Q) : gW P lay b E d M pc L (v :: st) T Q := g_step hd (Or.inr rfl) (fun S => by simp [mStep, mLoad, mAri, mI2, mJ2, mJs, *]) k
theorem g_pop {v : Value} (hd : decode (mCode M) pc = .ok (.pop, 1)) (hc : v.category = 1) (k : gW P lay b E d M (pc + 1) L (st) T Q) : gW P lay b E d M pc L (v :: st) T Q := g_step hd (Or.inr rfl) (fun S => by simp [mStep, mLoad, mAri, mI2, mJ2, mJs, *]) k
theorem g_dup2 {v w : Value} (hd : decode (mCode M) pc = .ok (.dup2, 1)) (hc : v.category = 1) (hc2 : w.category = 1) (k : gW P lay b E d M (pc + 1) L (v :: w :: v :: w :: st) T Q) : gW P lay b E d M pc L (v :: w :: st) T Q := g_step hd (Or.inr rfl) (fun S => by simp [mStep, mLoad, mAri, mI2, mJ2, mJs, *]) k
theorem g_goto {off : Int} {t : Nat} (hd : decode (mCode M) pc = .ok (.goto off, 3)) (ht : mTg pc off = some t) (k : gW P lay b E d M t L st T Q) : gW P lay b E d M pc L st T Q := g_step hd (Or.inr rfl) (fun S => by simp [mStep, ht]) k
theorem g_icmp_eq {off : Int} {t : Nat} {x y : Int32} (hd : decode (mCode M) pc = .ok (.if_icmp .eq off, 3)) (ht : mTg pc off = some t) (kt : x = y → gW P lay b E d M t L st T Q) (kf : ¬ x = y → gW P lay b E d M (pc + 3) L st T Q) : gW P lay b E d M pc L (.int y :: .int x :: st) T Q := by
  by_cases q : x = y
  · exact g_step hd (Or.inr rfl) (fun S => by simp [mStep, ht, mCmp, q]) (kt q)
  · exact g_step hd (Or.inr rfl) (fun S => by simp [mStep, ht, mCmp, q]) (kf q)
theorem g_if_eq {off : Int} {t : Nat} {x : Int32} (hd : decode (mCode M) pc = .ok (.ifCond .eq off, 3)) (ht : mTg pc off = some t) (kt : x = 0 → gW P lay b E d M t L st T Q) (kf : ¬ x = 0 → gW P lay b E d M (pc + 3) L st T Q) : gW P lay b E d M pc L (.int x :: st) T Q := by
  by_cases q : x = 0
  · exact g_step hd (Or.inr rfl) (fun S => by simp [mStep, ht, mCmp, q]) (kt q)
  · exact g_step hd (Or.inr rfl) (fun S => by simp [mStep, ht, mCmp, q]) (kf q)
theorem g_icmp_ne {off : Int} {t : Nat} {x y : Int32} (hd : decode (mCode M) pc = .ok (.if_icmp .ne off, 3)) (ht : mTg pc off = some t) (kt : ¬ x = y → gW P lay b E d M t L st T Q) (kf : x = y → gW P lay b E d M (pc + 3) L st T Q) : gW P lay b E d M pc L (.int y :: .int x :: st) T Q := by
  by_cases q : ¬ x = y
  · exact g_step hd (Or.inr rfl) (fun S => by simp [mStep, ht, mCmp, q]) (kt q)
  · exact g_step hd (Or.inr rfl) (fun S => by simp [mStep, ht, mCmp, q]) (kf (Decidable.not_not.mp q))
theorem g_if_ne {off : Int} {t : Nat} {x : Int32} (hd : decode (mCode M) pc = .ok (.ifCond .ne off, 3)) (ht : mTg pc off = some t) (kt : ¬ x = 0 → gW P lay b E d M t L st T Q) (kf : x = 0 → gW P lay b E d M (pc + 3) L st T Q) : gW P lay b E d M pc L (.int x :: st) T Q := by
  by_cases q : ¬ x = 0
  · exact g_step hd (Or.inr rfl) (fun S => by simp [mStep, ht, mCmp, q]) (kt q)
  · exact g_step hd (Or.inr rfl) (fun S => by simp [mStep, ht, mCmp, q]) (kf (Decidable.not_not.mp q))
theorem g_icmp_lt {off : Int} {t : Nat} {x y : Int32} (hd : decode (mCode M) pc = .ok (.if_icmp .lt off, 3)) (ht : mTg pc off = some t) (kt : x < y → gW P lay b E d M t L st T Q) (kf : ¬ x < y → gW P lay b E d M (pc + 3) L st T Q) : gW P lay b E d M pc L (.int y :: .int x :: st) T Q := by
  by_cases q : x < y
  · exact g_step hd (Or.inr rfl) (fun S => by simp [mStep, ht, mCmp, q]) (kt q)
  · exact g_step hd (Or.inr rfl) (fun S => by simp [mStep, ht, mCmp, q]) (kf q)
theorem g_if_lt {off : Int} {t : Nat} {x : Int32} (hd : decode (mCode M) pc = .ok (.ifCond .lt off, 3)) (ht : mTg pc off = some t) (kt : x < 0 → gW P lay b E d M t L st T Q) (kf : ¬ x < 0 → gW P lay b E d M (pc + 3) L st T Q) : gW P lay b E d M pc L (.int x :: st) T Q := by
  by_cases q : x < 0
  · exact g_step hd (Or.inr rfl) (fun S => by simp [mStep, ht, mCmp, q]) (kt q)
  · exact g_step hd (Or.inr rfl) (fun S => by simp [mStep, ht, mCmp, q]) (kf q)
theorem g_icmp_ge {off : Int} {t : Nat} {x y : Int32} (hd : decode (mCode M) pc = .ok (.if_icmp .ge off, 3)) (ht : mTg pc off = some t) (kt : y ≤ x → gW P lay b E d M t L st T Q) (kf : ¬ y ≤ x → gW P lay b E d M (pc + 3) L st T Q) : gW P lay b E d M pc L (.int y :: .int x :: st) T Q := by
  by_cases q : y ≤ x
  · exact g_step hd (Or.inr rfl) (fun S => by simp [mStep, ht, mCmp, q]) (kt q)
  · exact g_step hd (Or.inr rfl) (fun S => by simp [mStep, ht, mCmp, q]) (kf q)
theorem g_if_ge {off : Int} {t : Nat} {x : Int32} (hd : decode (mCode M) pc = .ok (.ifCond .ge off, 3)) (ht : mTg pc off = some t) (kt : 0 ≤ x → gW P lay b E d M t L st T Q) (kf : ¬ 0 ≤ x → gW P lay b E d M (pc + 3) L st T Q) : gW P lay b E d M pc L (.int x :: st) T Q := by
  by_cases q : 0 ≤ x
  · exact g_step hd (Or.inr rfl) (fun S => by simp [mStep, ht, mCmp, q]) (kt q)
  · exact g_step hd (Or.inr rfl) (fun S => by simp [mStep, ht, mCmp, q]) (kf q)
theorem g_icmp_gt {off : Int} {t : Nat} {x y : Int32} (hd : decode (mCode M) pc = .ok (.if_icmp .gt off, 3)) (ht : mTg pc off = some t) (kt : y < x → gW P lay b E d M t L st T Q) (kf : ¬ y < x → gW P lay b E d M (pc + 3) L st T Q) : gW P lay b E d M pc L (.int y :: .int x :: st) T Q := by
  by_cases q : y < x
  · exact g_step hd (Or.inr rfl) (fun S => by simp [mStep, ht, mCmp, q]) (kt q)
  · exact g_step hd (Or.inr rfl) (fun S => by simp [mStep, ht, mCmp, q]) (kf q)
theorem g_if_gt {off : Int} {t : Nat} {x : Int32} (hd : decode (mCode M) pc = .ok (.ifCond .gt off, 3)) (ht : mTg pc off = some t) (kt : 0 < x → gW P lay b E d M t L st T Q) (kf : ¬ 0 < x → gW P lay b E d M (pc + 3) L st T Q) : gW P lay b E d M pc L (.int x :: st) T Q := by
  by_cases q : 0 < x
  · exact g_step hd (Or.inr rfl) (fun S => by simp [mStep, ht, mCmp, q]) (kt q)
  · exact g_step hd (Or.inr rfl) (fun S => by simp [mStep, ht, mCmp, q]) (kf q)
theorem g_icmp_le {off : Int} {t : Nat} {x y : Int32} (hd : decode (mCode M) pc = .ok (.if_icmp .le off, 3)) (ht : mTg pc off = some t) (kt : x ≤ y → gW P lay b E d M t L st T Q) (kf : ¬ x ≤ y → gW P lay b E d M (pc + 3) L st T Q) : gW P lay b E d M pc L (.int y :: .int x :: st) T Q := by
  by_cases q : x ≤ y
  · exact g_step hd (Or.inr rfl) (fun S => by simp [mStep, ht, mCmp, q]) (kt q)
  · exact g_step hd (Or.inr rfl) (fun S => by simp [mStep, ht, mCmp, q]) (kf q)
theorem g_if_le {off : Int} {t : Nat} {x : Int32} (hd : decode (mCode M) pc = .ok (.ifCond .le off, 3)) (ht : mTg pc off = some t) (kt : x ≤ 0 → gW P lay b E d M t L st T Q) (kf : ¬ x ≤ 0 → gW P lay b E d M (pc + 3) L st T Q) : gW P lay b E d M pc L (.int x :: st) T Q := by
  by_cases q : x ≤ 0
  · exact g_step hd (Or.inr rfl) (fun S => by simp [mStep, ht, mCmp, q]) (kt q)
  · exact g_step hd (Or.inr rfl) (fun S => by simp [mStep, ht, mCmp, q]) (kf q)
theorem g_table {dflt lo hi : Int} {offs : Array Int} {len t : Nat} {x : Int32} {off : Int} (hd : decode (mCode M) pc = .ok (.tableswitch dflt lo hi offs, len)) (ho : (if x.toInt < lo ∨ hi < x.toInt then some dflt else offs[(x.toInt - lo).toNat]?) = some off) (ht : mTg pc off = some t) (k : gW P lay b E d M t L st T Q) : gW P lay b E d M pc L (.int x :: st) T Q := by
  refine g_step hd (Or.inl rfl) (fun S => ?_) k
  by_cases q : x.toInt < lo ∨ hi < x.toInt
  · rw [if_pos q] at ho
    cases ho
    simp [mStep, q, ht]
  · rw [if_neg q] at ho
    simp only [mStep]
    rw [if_neg q, ho]
    dsimp only
    rw [ht]
theorem g_getI {i ci f k9 : Nat} {fs : List Nat} (hd : decode (mCode M) pc = .ok (.getfield i, 3)) (hF : P.1 (mTag M) i = some (ci, f)) (hk : lay[k9]? = some (.inr (.inl (ci, fs)))) (hf : fs[f]? = some 0) (k : gW P lay b E d M (pc + 3) L (.int (T.1 k9 f) :: st) T Q) : gW P lay b E d M pc L (.ref (b + k9) :: st) T Q := by
  intro h hh
  refine mw_step hd (Or.inr rfl) (nx := (pc + 3, L, .int (T.1 k9 f) :: st, (h, T.2.2))) ?_ (k h hh)
  have hc := hh.1 k9 _ hk
  have hv := mFs_get (b := b) (i := T.1 k9) (j := T.2.1 k9) hf
  simp only [mStep, hF]
  rw [hc]
  simp only [mCe, if_true, hv]
  rfl
theorem g_getJ {i ci f k9 : Nat} {fs : List Nat} (hd : decode (mCode M) pc = .ok (.getfield i, 3)) (hF : P.1 (mTag M) i = some (ci, f)) (hk : lay[k9]? = some (.inr (.inl (ci, fs)))) (hf : fs[f]? = some 1) (k : gW P lay b E d M (pc + 3) L (.long (T.2.1 k9 f) :: st) T Q) : gW P lay b E d M pc L (.ref (b + k9) :: st) T Q := by
  intro h hh
  refine mw_step hd (Or.inr rfl) (nx := (pc + 3, L, .long (T.2.1 k9 f) :: st, (h, T.2.2))) ?_ (k h hh)
  have hc := hh.1 k9 _ hk
  have hv := mFs_get (b := b) (i := T.1 k9) (j := T.2.1 k9) hf
  simp only [mStep, hF]
  rw [hc]
  simp only [mCe, if_true, hv]
  rfl
theorem g_getV {i ci f k9 : Nat} {fs : List Nat} (hd : decode (mCode M) pc = .ok (.getfield i, 3)) (hF : P.1 (mTag M) i = some (ci, f)) (hk : lay[k9]? = some (.inr (.inl (ci, fs)))) (hf : fs[f]? = some 2) (k : gW P lay b E d M (pc + 3) L (mRf b (T.1 k9 f) :: st) T Q) : gW P lay b E d M pc L (.ref (b + k9) :: st) T Q := by
  intro h hh
  refine mw_step hd (Or.inr rfl) (nx := (pc + 3, L, mRf b (T.1 k9 f) :: st, (h, T.2.2))) ?_ (k h hh)
  have hc := hh.1 k9 _ hk
  have hv := mFs_get (b := b) (i := T.1 k9) (j := T.2.1 k9) hf
  simp only [mStep, hF]
  rw [hc]
  simp only [mCe, if_true, hv]
  rfl
theorem g_getR {i ci f k9 o : Nat} {fs : List Nat} (hd : decode (mCode M) pc = .ok (.getfield i, 3)) (hF : P.1 (mTag M) i = some (ci, f)) (hk : lay[k9]? = some (.inr (.inl (ci, fs)))) (hf : fs[f]? = some (o + 3)) (k : gW P lay b E d M (pc + 3) L (.ref (b + o) :: st) T Q) : gW P lay b E d M pc L (.ref (b + k9) :: st) T Q := by
  intro h hh
  refine mw_step hd (Or.inr rfl) (nx := (pc + 3, L, .ref (b + o) :: st, (h, T.2.2))) ?_ (k h hh)
  have hc := hh.1 k9 _ hk
  have hv := mFs_get (b := b) (i := T.1 k9) (j := T.2.1 k9) hf
  simp only [mStep, hF]
  rw [hc]
  simp only [mCe, if_true, hv]
  rfl
theorem g_putI {i ci f k9 : Nat} {fs : List Nat} {x : Int32} {ty : FieldType} {fin : Bool} (hd : decode (mCode M) pc = .ok (.putfield i, 3)) (hF : P.1 (mTag M) i = some (ci, f)) (hk : lay[k9]? = some (.inr (.inl (ci, fs)))) (hf : fs[f]? = some 0) (hft : mFt ci f = some (ty, fin)) (hn : narrow ty (.int x) = .int x ∧ fits ty (.int x) = true) (hfin : fin = false) (k : gW P lay b E d M (pc + 3) L st (gI T k9 f x) Q) : gW P lay b E d M pc L (.int x :: .ref (b + k9) :: st) T Q := by
  intro h hh
  have hc := hh.1 k9 _ hk
  have hs : (mFs b (T.1 k9) (T.2.1 k9) fs).set f (.int x) = mFs b (upd (T.1 k9) f x) (T.2.1 k9) fs := mFs_set hf (by simp [mFv, upd]) (fun g e => ⟨by simp [upd, e], rfl⟩)
  refine mw_step hd (Or.inr rfl) (nx := (pc + 3, L, st, (mUp h (b + k9) (.inr (ci, (mFs b (T.1 k9) (T.2.1 k9) fs).set f (.int x))), T.2.2))) ?_ (k _ (hh.upI hk (by rw [hs]; rfl)))
  simp only [mStep, hF]
  rw [hc]
  simp only [mCe, hft]
  rw [if_pos ⟨trivial, Nat.le_add_right _ _, by rw [mFs_len]; exact (List.getElem?_eq_some_iff.mp hf).1, hn.1, hn.2, fun z => by rw [hfin] at z; cases z⟩]
theorem g_putJ {i ci f k9 : Nat} {fs : List Nat} {x : Int64} {fin : Bool} (hd : decode (mCode M) pc = .ok (.putfield i, 3)) (hF : P.1 (mTag M) i = some (ci, f)) (hk : lay[k9]? = some (.inr (.inl (ci, fs)))) (hf : fs[f]? = some 1) (hft : mFt ci f = some (.long, fin)) (hfin : fin = false) (k : gW P lay b E d M (pc + 3) L st (gJ T k9 f x) Q) : gW P lay b E d M pc L (.long x :: .ref (b + k9) :: st) T Q := by
  intro h hh
  have hc := hh.1 k9 _ hk
  have hs : (mFs b (T.1 k9) (T.2.1 k9) fs).set f (.long x) = mFs b (T.1 k9) (vp_updL (T.2.1 k9) f x) fs := mFs_set hf (by simp [mFv, vp_updL]) (fun g e => ⟨rfl, by simp [vp_updL, e]⟩)
  refine mw_step hd (Or.inr rfl) (nx := (pc + 3, L, st, (mUp h (b + k9) (.inr (ci, (mFs b (T.1 k9) (T.2.1 k9) fs).set f (.long x))), T.2.2))) ?_ (k _ (hh.upJ hk (by rw [hs]; rfl)))
  simp only [mStep, hF]
  rw [hc]
  simp only [mCe, hft]
  rw [if_pos ⟨trivial, Nat.le_add_right _ _, by rw [mFs_len]; exact (List.getElem?_eq_some_iff.mp hf).1, rfl, rfl, fun z => by rw [hfin] at z; cases z⟩]
theorem g_putV {i ci f k9 o : Nat} {fs : List Nat} {ty : FieldType} {fin : Bool} (hd : decode (mCode M) pc = .ok (.putfield i, 3)) (hF : P.1 (mTag M) i = some (ci, f)) (hk : lay[k9]? = some (.inr (.inl (ci, fs)))) (hf : fs[f]? = some 2) (hft : mFt ci f = some (ty, fin)) (hty : (∃ n, ty = .object n) ∨ ∃ t, ty = .array t) (ho : 0 < o ∧ o < 2 ^ 31) (hfin : fin = false) (k : gW P lay b E d M (pc + 3) L st (gI T k9 f (nI o)) Q) : gW P lay b E d M pc L (.ref (b + o) :: .ref (b + k9) :: st) T Q := by
  intro h hh
  have hc := hh.1 k9 _ hk
  have hs : (mFs b (T.1 k9) (T.2.1 k9) fs).set f (.ref (b + o)) = mFs b (upd (T.1 k9) f (nI o)) (T.2.1 k9) fs := mFs_set hf (by simp [mFv, upd, mRf, nI_ne0 ho.1 ho.2, nI_clamp ho.2]) (fun g e => ⟨by simp [upd, e], rfl⟩)
  refine mw_step hd (Or.inr rfl) (nx := (pc + 3, L, st, (mUp h (b + k9) (.inr (ci, (mFs b (T.1 k9) (T.2.1 k9) fs).set f (.ref (b + o)))), T.2.2))) ?_ (k _ (hh.upI hk (by rw [hs]; rfl)))
  have hnf : narrow ty (.ref (b + o)) = .ref (b + o) ∧ fits ty (.ref (b + o)) = true := by
    rcases hty with ⟨n, rfl⟩ | ⟨t, rfl⟩
    · exact ⟨rfl, rfl⟩
    · exact ⟨rfl, rfl⟩
  simp only [mStep, hF]
  rw [hc]
  simp only [mCe, hft]
  rw [if_pos ⟨trivial, Nat.le_add_right _ _, by rw [mFs_len]; exact (List.getElem?_eq_some_iff.mp hf).1, hnf.1, hnf.2, fun z => by rw [hfin] at z; cases z⟩]
theorem g_iald {k9 n q : Nat} {j : Int32} (hd : decode (mCode M) pc = .ok (.iaload, 1)) (hk : lay[k9]? = some (.inl (0, n))) (hj : mIx j n = some q) (k : gW P lay b E d M (pc + 1) L (.int (T.1 k9 q) :: st) T Q) : gW P lay b E d M pc L (.int j :: .ref (b + k9) :: st) T Q := by
  intro h hh
  refine mw_step hd (Or.inr rfl) (nx := (pc + 1, L, .int (T.1 k9 q) :: st, (h, T.2.2))) ?_ (k h hh)
  have hc := hh.1 k9 _ hk
  simp only [mStep, mAld]
  rw [hc]
  simp only [mCe, hj]
theorem g_bald {k9 n q : Nat} {j : Int32} (hd : decode (mCode M) pc = .ok (.baload, 1)) (hk : lay[k9]? = some (.inl (1, n))) (hj : mIx j n = some q) (k : gW P lay b E d M (pc + 1) L (.int (T.1 k9 q) :: st) T Q) : gW P lay b E d M pc L (.int j :: .ref (b + k9) :: st) T Q := by
  intro h hh
  refine mw_step hd (Or.inr rfl) (nx := (pc + 1, L, .int (T.1 k9 q) :: st, (h, T.2.2))) ?_ (k h hh)
  have hc := hh.1 k9 _ hk
  simp only [mStep, mAld]
  rw [hc]
  simp only [mCe, hj]
theorem g_zald {k9 n q : Nat} {j : Int32} (hd : decode (mCode M) pc = .ok (.baload, 1)) (hk : lay[k9]? = some (.inl (2, n))) (hj : mIx j n = some q) (k : gW P lay b E d M (pc + 1) L (.int (T.1 k9 q) :: st) T Q) : gW P lay b E d M pc L (.int j :: .ref (b + k9) :: st) T Q := by
  intro h hh
  refine mw_step hd (Or.inr rfl) (nx := (pc + 1, L, .int (T.1 k9 q) :: st, (h, T.2.2))) ?_ (k h hh)
  have hc := hh.1 k9 _ hk
  simp only [mStep, mAld]
  rw [hc]
  simp only [mCe, hj]
theorem g_lald {k9 n q : Nat} {j : Int32} (hd : decode (mCode M) pc = .ok (.laload, 1)) (hk : lay[k9]? = some (.inl (3, n))) (hj : mIx j n = some q) (k : gW P lay b E d M (pc + 1) L (.long (T.2.1 k9 q) :: st) T Q) : gW P lay b E d M pc L (.int j :: .ref (b + k9) :: st) T Q := by
  intro h hh
  refine mw_step hd (Or.inr rfl) (nx := (pc + 1, L, .long (T.2.1 k9 q) :: st, (h, T.2.2))) ?_ (k h hh)
  have hc := hh.1 k9 _ hk
  simp only [mStep, mAld]
  rw [hc]
  simp only [mCe, hj]
theorem g_iast {k9 n q : Nat} {j : Int32} {x : Int32} (hd : decode (mCode M) pc = .ok (.iastore, 1)) (hk : lay[k9]? = some (.inl (0, n))) (hj : mIx j n = some q) (k : gW P lay b E d M (pc + 1) L st (gI T k9 q x) Q) : gW P lay b E d M pc L (.int x :: .int j :: .ref (b + k9) :: st) T Q := by
  intro h hh
  have hc := hh.1 k9 _ hk
  refine mw_step hd (Or.inr rfl) (nx := (pc + 1, L, st, (mUp h (b + k9) (mCe b (upd (T.1 k9) q x) (T.2.1 k9) (.inl (0, n))), T.2.2))) ?_ (k _ (hh.upI hk rfl))
  simp only [mStep, mAst]
  rw [hc]
  simp only [mCe, hj]
  rw [if_neg (Nat.not_lt.mpr (Nat.le_add_right _ _))]
theorem g_bast {k9 n q : Nat} {j : Int32} {x : Int32} (hd : decode (mCode M) pc = .ok (.bastore, 1)) (hk : lay[k9]? = some (.inl (1, n))) (hj : mIx j n = some q) (k : gW P lay b E d M (pc + 1) L st (gI T k9 q (vp_nar .byte x)) Q) : gW P lay b E d M pc L (.int x :: .int j :: .ref (b + k9) :: st) T Q := by
  intro h hh
  have hc := hh.1 k9 _ hk
  refine mw_step hd (Or.inr rfl) (nx := (pc + 1, L, st, (mUp h (b + k9) (mCe b (upd (T.1 k9) q (vp_nar .byte x)) (T.2.1 k9) (.inl (1, n))), T.2.2))) ?_ (k _ (hh.upI hk rfl))
  simp only [mStep, mAst]
  rw [hc]
  simp only [mCe, hj]
  rw [if_neg (Nat.not_lt.mpr (Nat.le_add_right _ _))]
theorem g_zast {k9 n q : Nat} {j : Int32} {x : Int32} (hd : decode (mCode M) pc = .ok (.bastore, 1)) (hk : lay[k9]? = some (.inl (2, n))) (hj : mIx j n = some q) (k : gW P lay b E d M (pc + 1) L st (gI T k9 q (vp_nar .boolean x)) Q) : gW P lay b E d M pc L (.int x :: .int j :: .ref (b + k9) :: st) T Q := by
  intro h hh
  have hc := hh.1 k9 _ hk
  refine mw_step hd (Or.inr rfl) (nx := (pc + 1, L, st, (mUp h (b + k9) (mCe b (upd (T.1 k9) q (vp_nar .boolean x)) (T.2.1 k9) (.inl (2, n))), T.2.2))) ?_ (k _ (hh.upI hk rfl))
  simp only [mStep, mAst]
  rw [hc]
  simp only [mCe, hj]
  rw [if_neg (Nat.not_lt.mpr (Nat.le_add_right _ _))]
theorem g_last {k9 n q : Nat} {j : Int32} {x : Int64} (hd : decode (mCode M) pc = .ok (.lastore, 1)) (hk : lay[k9]? = some (.inl (3, n))) (hj : mIx j n = some q) (k : gW P lay b E d M (pc + 1) L st (gJ T k9 q x) Q) : gW P lay b E d M pc L (.long x :: .int j :: .ref (b + k9) :: st) T Q := by
  intro h hh
  have hc := hh.1 k9 _ hk
  refine mw_step hd (Or.inr rfl) (nx := (pc + 1, L, st, (mUp h (b + k9) (mCe b (T.1 k9) (vp_updL (T.2.1 k9) q x) (.inl (3, n))), T.2.2))) ?_ (k _ (hh.upJ hk rfl))
  simp only [mStep, mAst]
  rw [hc]
  simp only [mCe, hj]
  rw [if_neg (Nat.not_lt.mpr (Nat.le_add_right _ _))]
theorem g_alen {k9 n c : Nat} (hd : decode (mCode M) pc = .ok (.arraylength, 1)) (hk : lay[k9]? = some (.inl (c, n))) (k : gW P lay b E d M (pc + 1) L (.int (nI n) :: st) T Q) : gW P lay b E d M pc L (.ref (b + k9) :: st) T Q := by
  intro h hh
  refine mw_step hd (Or.inr rfl) (nx := (pc + 1, L, .int (nI n) :: st, (h, T.2.2))) ?_ (k h hh)
  have hc := hh.1 k9 _ hk
  simp only [mStep]
  rw [hc]
  match c with
  | 0 => rfl
  | 1 => rfl
  | 2 => rfl
  | c + 3 => rfl
theorem g_aald {k9 q o : Nat} {offs : List Nat} {j : Int32} (hd : decode (mCode M) pc = .ok (.aaload, 1)) (hk : lay[k9]? = some (.inr (.inr offs))) (hj : mIx j offs.length = some q) (ho : offs[q]? = some o) (k : gW P lay b E d M (pc + 1) L (.ref (b + o) :: st) T Q) : gW P lay b E d M pc L (.int j :: .ref (b + k9) :: st) T Q := by
  intro h hh
  refine mw_step hd (Or.inr rfl) (nx := (pc + 1, L, .ref (b + o) :: st, (h, T.2.2))) ?_ (k h hh)
  have hc := hh.1 k9 _ hk
  simp only [mStep, mAld]
  rw [hc]
  simp only [mCe, hj, ho]
  rfl
/-- arrays below b: constants -/
theorem g_cald {a n q : Nat} {f : Nat → Int32} {j : Int32} (hd : decode (mCode M) pc = .ok (.iaload, 1)) (ha : a < b) (hk : E.2 a = some (.inl (.int, n, .inl f))) (hj : mIx j n = some q) (k : gW P lay b E d M (pc + 1) L (.int (f q) :: st) T Q) : gW P lay b E d M pc L (.int j :: .ref a :: st) T Q := by
  intro h hh
  refine mw_step hd (Or.inr rfl) (nx := (pc + 1, L, .int (f q) :: st, (h, T.2.2))) ?_ (k h hh)
  have hc := (hh.2.1 a (Or.inl ha)).trans hk
  simp only [mStep, mAld]
  rw [hc]
  simp only [hj]
theorem g_clen {a n : Nat} {t : FieldType} {f : (Nat → Int32) ⊕ (Nat → Int64) ⊕ (Nat → UInt32) ⊕ (Nat → UInt64) ⊕ (Nat → Option Nat)} (hd : decode (mCode M) pc = .ok (.arraylength, 1)) (ha : a < b) (hk : E.2 a = some (.inl (t, n, f))) (k : gW P lay b E d M (pc + 1) L (.int (nI n) :: st) T Q) : gW P lay b E d M pc L (.ref a :: st) T Q := by
  intro h hh
  refine mw_step hd (Or.inr rfl) (nx := (pc + 1, L, .int (nI n) :: st, (h, T.2.2))) ?_ (k h hh)
  have hc := (hh.2.1 a (Or.inl ha)).trans hk
  simp only [mStep]
  rw [hc]
  rfl
theorem g_ret {i : Instr} {len : Nat} {r : Option Value} (hd : decode (mCode M) pc = .ok (i, len)) (hl : mLen i = 0 ∨ mLen i = len) (hr : mIsRet M i r) (hst : st = r.toList) (hq : Q r T) : gW P lay b E d M pc L st T Q := fun h hh => mw_ret hd hl hr hst ⟨T, hh, rfl, hq⟩
theorem g_vret (hd : decode (mCode M) pc = .ok (.return_, 1)) (hr : mRet M = none) (hq : Q none T) : gW P lay b E d M pc L [] T Q := g_ret hd (Or.inr rfl) (Or.inl ⟨rfl, rfl, hr⟩) rfl hq
theorem g_iret {x : Int32} {ty : FieldType} (hd : decode (mCode M) pc = .ok (.ireturn, 1)) (hr : mRet M = some ty) (hn : narrow ty (.int x) = .int x) (hq : Q (some (.int x)) T) : gW P lay b E d M pc L [.int x] T Q := g_ret hd (Or.inr rfl) (Or.inr (Or.inl ⟨x, ty, rfl, rfl, hr, hn⟩)) rfl hq
theorem g_lret {x : Int64} (hd : decode (mCode M) pc = .ok (.lreturn, 1)) (hr : mRet M = some .long) (hq : Q (some (.long x)) T) : gW P lay b E d M pc L [.long x] T Q := g_ret hd (Or.inr rfl) (Or.inr (Or.inr (Or.inl ⟨x, rfl, rfl, hr⟩))) rfl hq
/-- is the receiver a cell of the layout of that class -/
def gRcv (lay : List mDs) (b ci : Nat) (as : List Value) : Prop := ∃ (k : Nat) (fs : List Nat) (r : List Value), as = .ref (b + k) :: r ∧ lay[k]? = some (.inr (.inl (ci, fs)))
/-- a call: as its arguments, rest what stays on the stack -/
theorem g_call {M' : mM} {kd k9 q : Nat} (as rest : List Value) (hd : decode (mCode M) pc = .ok (mIn kd k9, 3)) (hl : mLen (mIn kd k9) = 3) (hc : P.2.2.1 (mTag M) k9 = some (kd, .inl q)) (hm : P.2.2.2.2.2 q = some M') (hst : st = as.reverse ++ rest) (hn : as.length = mNa M') (hL : L.length = mMax M) (hw : mWide rest = true) (h20 : mMax M' ≤ 20) (hr : kd = 1 ∨ (kd = 0 ∧ gRcv lay b (mCi M') as) ∨ (kd = 2 ∧ mIsRef as = true))
    (k : gC P lay b E d M' as T (fun r T1 => gW P lay b E (d + 1) M (pc + 3) L (r.toList ++ rest) T1 Q)) : gW P lay b E (d + 1) M pc L st T Q := by
  intro h hh
  have e1 : (st.take (mNa M')).reverse = as := by
    rw [hst, ← hn, ← List.length_reverse, List.take_left, List.reverse_reverse]
  have e2 : st.drop (mNa M') = rest := by
    rw [hst, ← hn, ← List.length_reverse, List.drop_left]
  have hmay : mMay kd M M' L st (h, T.2.2) = true := by
    unfold mMay
    rw [e1, e2]
    simp only [Bool.and_eq_true, decide_eq_true_eq, Bool.or_eq_true, beq_iff_eq]
    refine ⟨⟨⟨⟨⟨?_, hL⟩, hw⟩, k.1⟩, h20⟩, ?_⟩
    · rw [hst, ← hn]; simp
    · rcases hr with rfl | ⟨rfl, k2, fs, r, rfl, hk2⟩ | ⟨rfl, hr⟩
      · exact Or.inl rfl
      · refine Or.inr ?_
        rw [if_pos rfl]
        unfold mRcv
        dsimp only
        rw [hh.1 k2 _ hk2]
        simp [mCe]
      · exact Or.inr hr
  refine mw_call hd hl hc hm hmay ?_
  rw [e1, e2]
  exact (k.2 h hh).mono (Nat.le_refl _) (fun r S1 ⟨T1, h1, h2, h3⟩ => by
    have := h3 S1.1 h1
    rw [← h2] at this
    exact this)
end GW
