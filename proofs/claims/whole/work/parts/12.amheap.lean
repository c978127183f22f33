/-! WHAT THE PLAIN HEAP SAYS OF THE REAL ONE, and the walk's judgement over it. -/
/-- D: the classes' ids and slots. A cell of the plain heap stands so in the real one. -/
def mAt (D : va_G) (U : State) (H : Heap) (a : Nat) (c : mC) : Prop := match c with
  | .inl x => (∃ cA : ClassId, (ArrOfT U cA x.1 ∧ va_RA U cA x.1) ∧ H[a]? = some (vp_cell cA x.2)) ∨ (a < D.2 1000 0 ∧ ∃ (cell : Cell) (f : Nat → Int32), H[a]? = some cell ∧ U.isArrayOf cell x.1 ∧ cell.vm ≠ .unknown ∧ x.2.1 ≤ cell.slots.size ∧ cell.slots.size.toInt32 = Int32.ofNat x.2.1 ∧ x.2.2 = .inl f ∧ ∀ j : Nat, j < x.2.1 → cell.slots[j]? = some (.int (f j)))
  | .inr x => ∃ (q : vw_C) (cell : Cell), vwCl[x.1]? = some q ∧ H[a]? = some cell ∧ cell.cls = D.1 x.1 ∧ (cell.vm.isStatics = false ∧ cell.vm ≠ .unknown ∧ (D.2 1000 0 ≤ a → cell.vm = .none)) ∧ ∀ (k : Nat) (v : Value), x.2[k]? = some v → k < q.2.2 ∧ cell.slots[D.2 x.1 k]? = some v
def mRel (D : va_G) (U : State) (H : Heap) (h : mH) : Prop := ∀ (a : Nat) (c : mC), h a = some c → mAt D U H a c
theorem mAt.lt {D : va_G} {U : State} {H : Heap} {a : Nat} {c : mC} (h : mAt D U H a c) : a < H.size := by
  cases c with
  | inl x =>
    rcases h with ⟨cA, -, h1⟩ | ⟨-, cell, f, h1, -⟩
    · exact (Array.getElem?_eq_some_iff.mp h1).1
    · exact (Array.getElem?_eq_some_iff.mp h1).1
  | inr x => obtain ⟨q, cell, -, h1, -⟩ := h; exact (Array.getElem?_eq_some_iff.mp h1).1
theorem mAt.kept {D : va_G} {U : State} {H H1 : Heap} {a : Nat} {c : mC} (h : mAt D U H a c) (hq : H1[a]? = H[a]?) : mAt D U H1 a c := by
  cases c with
  | inl x =>
    rcases h with ⟨cA, h0, h1⟩ | ⟨h0, cell, f, h1, h2⟩
    · exact Or.inl ⟨cA, h0, hq.trans h1⟩
    · exact Or.inr ⟨h0, cell, f, hq.trans h1, h2⟩
  | inr x => obtain ⟨q, cell, h0, h1, h2⟩ := h; exact ⟨q, cell, h0, hq.trans h1, h2⟩
theorem mAt.moved {D : va_G} {u U : State} {H : Heap} {a : Nat} {c : mC} (hvm : u.vm.Alike U.vm) (h : mAt D u H a c) : mAt D U H a c := by
  cases c with
  | inl x =>
    rcases h with ⟨cA, h0, h1⟩ | ⟨h0, cell, f, h1, h2, h3⟩
    · exact Or.inl ⟨cA, ⟨arrOfT_moved hvm h0.1, h0.2.moved hvm⟩, h1⟩
    · exact Or.inr ⟨h0, cell, f, h1, State.isArrayOf_alike hvm h2, h3⟩
  | inr x => exact h
/-- an array of ints, to be read -/
theorem mAt.rd {D : va_G} {U : State} {H : Heap} {a n : Nat} {ty : FieldType} {f : Nat → Int32} (h : mAt D U H a (.inl (ty, n, .inl f))) : ∃ cell : Cell, H[a]? = some cell ∧ U.isArrayOf cell ty ∧ cell.vm ≠ .unknown ∧ n ≤ cell.slots.size ∧ ∀ j : Nat, j < n → cell.slots[j]? = some (.int (f j)) := by
  rcases h with ⟨cA, h0, h1⟩ | ⟨-, cell, g, h1, h2, h3, h4, -, h6, h7⟩
  · refine ⟨_, h1, h0.1 n (fun j => .int (f j)), (fun q => by cases q), ?_, fun j hj => ?_⟩
    · show n ≤ (arrV _ _ _).slots.size
      rw [arrV_size]
      exact Nat.le_refl _
    · show (arrV _ _ _).slots[_]? = _
      rw [arrV_read _ _ hj]
  · have e : f = g := Sum.inl.inj h6
    subst e
    exact ⟨cell, h1, h2, h3, h4, h7⟩
/-- an array that may be written -/
theorem mAt.str {D : va_G} {U : State} {H : Heap} {a b : Nat} {x : FieldType × vp_A} (h : mAt D U H a (.inl x)) (hD : D.2 1000 0 ≤ b) (hb : b ≤ a) : ∃ cA : ClassId, (ArrOfT U cA x.1 ∧ va_RA U cA x.1) ∧ H[a]? = some (vp_cell cA x.2) := by
  rcases h with h | ⟨h, -⟩
  · exact h
  · exact absurd (Nat.le_trans hD hb) (Nat.not_le.mpr h)
theorem mRel.moved {D : va_G} {u U : State} {H : Heap} {h : mH} (hvm : u.vm.Alike U.vm) (hr : mRel D u H h) : mRel D U H h := fun a c hc => (hr a c hc).moved hvm
/-- one cell changes -/
theorem mRel.put {D : va_G} {U : State} {H H1 : Heap} {h : mH} {a : Nat} {c : mC} (hr : mRel D U H h) (ho : ∀ q : Nat, q ≠ a → H1[q]? = H[q]?) (hc : mAt D U H1 a c) : mRel D U H1 (mUp h a c) := by
  intro q c1 h1
  by_cases e : q = a
  · subst e
    rw [mUp_self] at h1
    cases h1
    exact hc
  · rw [mUp_ne h c e] at h1
    exact (hr q c1 h1).kept (ho q e)
/-- one cell comes -/
theorem mRel.push {D : va_G} {U : State} {H H1 : Heap} {h : mH} {a : Nat} {c : mC} (hr : mRel D U H h) (ha : H.size = a) (ho : ∀ q : Nat, q < a → H1[q]? = H[q]?) (hc : mAt D U H1 a c) : mRel D U H1 (mUp h a c) := by
  intro q c1 h1
  by_cases e : q = a
  · subst e
    rw [mUp_self] at h1
    cases h1
    exact hc
  · rw [mUp_ne h c e] at h1
    exact (hr q c1 h1).kept (ho q (by rw [← ha]; exact (hr q c1 h1).lt))
/-- nothing outside A changed, one cell came -/
theorem mS_push {A : Nat → Prop} {H0 H H1 : Heap} {locs : List Loc} {a : Nat} (h : va_S A H0 H locs) (ha : H.size = a) (hz : H1.size = a + 1) (ho : ∀ q : Nat, q < a → H1[q]? = H[q]?) : va_S A H0 H1 locs :=
  ⟨by rw [hz, ← ha]; exact Nat.le_succ_of_le h.1, fun q h1 h2 => (ho q (by rw [← ha]; exact Nat.lt_of_lt_of_le h1 h.1)).trans (h.2.1 q h1 h2), h.2.2⟩
/-- the walk from a plain frame: wherever the real heap and the real locals are as the plain ones say -/
def mOK (p : Program) (l : Launch) (e : Env) (R : Room) (s : State) (m : MethodId) (args : Array Value) (below : List Frame) (meth : Method) (c : Code) (Q : State → Prop) (D : va_G) (b ns0 : Nat) (pc : Nat) (L : mL) (st : List Value) (S : mS) : Prop :=
  ∀ (ls : Array Slot) (H : Heap) (locs : List Loc), mLR ls L → H.size = S.2.1 → mRel D s H S.1 → ns0 ≤ S.2.2 → va_S (fun q => b ≤ q) s.heap H locs →
    W p l e R s m args below meth c H locs (S.2.1 - s.heap.size) (S.2.2 - ns0) Q (F0 m pc ls st)
/-- the class of int[][] stands -/
def mAO (U : State) : Prop := ∀ args : Array Value, (Cond.arrayOver (.array .int)).before args U = true
theorem findIdx_kind {xs ys : List Class} {q : Class → Bool} (hq : ∀ x y : Class, x.kind = y.kind → q x = q y) (h : xs.map Class.kind = ys.map Class.kind) : xs.findIdx? q = ys.findIdx? q := by
  induction xs generalizing ys with
  | nil => cases ys with
    | nil => rfl
    | cons y ys => cases h
  | cons x xs ih => cases ys with
    | nil => cases h
    | cons y ys =>
      rw [List.map_cons, List.map_cons] at h
      obtain ⟨h1, h2⟩ := List.cons.inj h
      rw [List.findIdx?_cons, List.findIdx?_cons, hq x y h1, ih h2]
theorem fi_arr (xs : Array Class) (q : Class → Bool) : xs.findIdx? q = xs.toList.findIdx? q := by
  obtain ⟨l⟩ := xs
  exact List.findIdx?_toArray ..
theorem fi_eq {s U : State} (ha : s.vm.Alike U.vm) (q : Class → Bool) (hq : ∀ x y : Class, x.kind = y.kind → q x = q y) : U.vm.classes.findIdx? q = s.vm.classes.findIdx? q := by
  rw [fi_arr, fi_arr]
  refine findIdx_kind hq ?_
  apply List.ext_getElem?
  intro i
  rw [List.getElem?_map, List.getElem?_map, Array.getElem?_toList, Array.getElem?_toList]
  cases hc : s.vm.classes[i]? with
  | none => rw [ha.none hc]
  | some k =>
    obtain ⟨k', h1, h2⟩ := ha.2.2 i k hc
    rw [h1, h2]; rfl
theorem fm_eq {s U : State} (ha : s.vm.Alike U.vm) (i : Nat) (q : Class → Bool) (hq : ∀ x y : Class, x.kind = y.kind → q x = q y) : (U.vm.classes[i]?).map q = (s.vm.classes[i]?).map q := by
  cases hc : s.vm.classes[i]? with
  | none => rw [ha.none hc]
  | some k =>
    obtain ⟨k', h1, h2⟩ := ha.2.2 i k hc
    rw [h1, Option.map_some, Option.map_some, hq k' k (by rw [h2])]
theorem mAO.moved {s U : State} (ha : s.vm.Alike U.vm) (h : mAO s) : mAO U := by
  intro args
  have h0 := h args
  have e1 : ∀ n, U.vm.findClass n = s.vm.findClass n := fun n => ha.findClass n none
  unfold Cond.before Cond.holds at h0 ⊢
  simp only [Cond.value] at h0 ⊢
  simp only [e1]
  refine Eq.trans (congrArg (fun z => (z == some true)) ?_) h0
  cases s.vm.findClass (FieldType.array .int).toString with
  | none => rfl
  | some comp =>
    simp only [Option.bind_some]
    rw [fi_eq ha _ (fun x y hxy => by rw [hxy])]
    exact congrArg _ (funext fun c => fm_eq ha c _ (fun x y hxy => by rw [hxy]))
/-- what a throw of type, and its catching, rests on -/
def eI : String := "java/lang/IllegalArgumentException"
def eU : String := "java/lang/UnsupportedOperationException"
def mXn (A : Nat → Prop) (U : State) (H : Heap) : Prop := (vx_Zq Bundle.tN "UNASSIGNED_STACK" Bundle.steD A U H ∧ vx_Zq Bundle.tN "SUPPRESSED_SENTINEL" Bundle.listD A U H) ∧ va_Nw (.castable eI eI) U ∧ va_Nw (.castable eU eU) U ∧ va_Nc eU eI U
theorem mXn.same {A : Nat → Prop} {u U : State} {H : Heap} (hv : u.vm = U.vm) (h : mXn A u H) : mXn A U H := by
  have ha : u.vm.Alike U.vm := by rw [hv]; exact Vm.Alike.refl _
  obtain ⟨⟨h1, h2⟩, h3, h4, h5⟩ := h
  exact ⟨⟨h1.moved ha, h2.moved ha⟩, va_Nw.same rfl hv h3, va_Nw.same rfl hv h4, h5.moved ha⟩
theorem mXn.warm {A : Nat → Prop} {s U : State} {H0 H : Heap} (hW : s.WarmedH U.vm) (hH : ∀ q : Nat, q < H0.size → ¬ A q → H[q]? = H0[q]?) (h : mXn A s H0) : mXn A U H := by
  obtain ⟨⟨h1, h2⟩, h3, h4, h5⟩ := h
  exact ⟨⟨(h1.kept hH).moved hW.alike, (h2.kept hH).moved hW.alike⟩, va_Nw.warmC hW h3, va_Nw.warmC hW h4, h5.moved hW.alike⟩
/-- what is known of a launch: the classes, the nest's links, strings and statics -/
def mKn (D : va_G) (b : Nat) (Ns : List Cond) (Rs : List (String × Nat × String × Nat)) (Zs : List (String × String × String × Value)) (U : State) (H : Heap) : Prop :=
  (∀ (k : Nat) (q : vw_C), vwCl[k]? = some q → u_Kn U q.1 q.2.1 q.2.2 (D.1 k) (D.2 k)) ∧ (∀ w ∈ Ns, va_Nw w U) ∧ (∀ r ∈ Rs, vk_R r.1 r.2.1 r.2.2.1 r.2.2.2 U) ∧ (∀ z ∈ Zs, va_Z z.1 z.2.1 z.2.2.1 z.2.2.2 (fun q => b ≤ q) U H) ∧ mAO U ∧ D.2 1000 0 ≤ b ∧ mXn (fun q => b ≤ q) U H
/-- a field of the table: how it is linked -/
def mFok (Ts Ns : List Cond) (own : String) (i ci k : Nat) : Prop := ∃ q : vw_C, vwCl[ci]? = some q ∧ k < q.2.2 ∧
  (Cond.fieldLink own i (q.2.1 k).1 (q.2.1 k).2.1 (q.2.1 k).2.2.1 ∈ Ts ∨ ∃ host, Cond.fieldLinkNest own i (q.2.1 k).1 (q.2.1 k).2.1 (q.2.1 k).2.2.1 host ∈ Ns) ∧ ((q.2.1 k).2.2.2 = true → (q.2.1 k).1 = q.1 ∧ Cond.fieldLink own i (q.2.1 k).1 (q.2.1 k).2.1 (q.2.1 k).2.2.1 ∈ Ts)
/-- a constant: an int, a long, a string, a static -/
def mCok (Ts : List Cond) (Rs : List (String × Nat × String × Nat)) (Zs : List (String × String × String × Value)) (own : String) (i : Nat) (v : Value) : Prop :=
  (∃ x, v = .int x ∧ Cond.constant own i x ∈ Ts) ∨ (∃ x, v = .long x ∧ Cond.constantLong own i x ∈ Ts) ∨ (∃ tx a, v = .ref a ∧ (own, i, tx, a) ∈ Rs)
/-- a static field's value -/
def mZok (Ts Ns : List Cond) (Zs : List (String × String × String × Value)) (own : String) (i : Nat) (v : Value) : Prop :=
  ∃ C n d, (C, n, d, v) ∈ Zs ∧ (Cond.fieldLink own i C n d ∈ Ts ∨ ∃ host, Cond.fieldLinkNest own i C n d host ∈ Ns)
/-- the classes of vwCl: their words, types and names -/
def mVok (Ts : List Cond) : Prop := ∀ (ci : Nat) (q : vw_C), vwCl[ci]? = some q → (∀ w ∈ u_ws q.1 q.2.1 q.2.2, w ∈ Ts) ∧ (∃ ty : Nat → FieldType, ∀ k, k < q.2.2 → parseFieldDescriptor (q.2.1 k).2.2.1 = some (ty k)) ∧ (∀ x, x < q.2.2 → ∀ y, y < q.2.2 → x ≠ y → (q.2.1 x).2.1 ≠ (q.2.1 y).2.1)
/-- the slots of a class are apart -/
theorem mApart {D : va_G} {Ts : List Cond} {s : State} {args : Array Value} (hts : ∀ w ∈ Ts, w.before args s = true) (hV : mVok Ts) {ci : Nat} {q : vw_C} (hq : vwCl[ci]? = some q) (hK : u_Kn s q.1 q.2.1 q.2.2 (D.1 ci) (D.2 ci)) : ∀ x y, x < q.2.2 → y < q.2.2 → x ≠ y → (D.2 ci) x ≠ (D.2 ci) y := by
  obtain ⟨hin, ⟨ty, hty⟩, hnm⟩ := hV ci q hq
  intro x y hx hy hne
  obtain ⟨hS, -⟩ := hK
  obtain ⟨_, _, _, fa, hia, ea⟩ := hS x hx
  obtain ⟨_, _, _, fb, hib, eb⟩ := hS y hy
  rw [← ea, ← eb]
  refine u_apart (u_lays hts hin hx) (u_lays hts hin hy) hia hib ?_
  rw [(State.fieldFound?_type hia (hty x hx)).1, (State.fieldFound?_type hib (hty y hy)).1]
  exact hnm x hx y hy hne
section MST
variable {p : Program} {l : Launch} {e : Env} {R : Room} {s : State} {m : MethodId} {args : Array Value} {below : List Frame} {meth : Method} {c : Code} {Q : State → Prop} {D : va_G} {b ns0 : Nat} {cc : ByteArray} {pc : Nat} {L : mL} {st : List Value} {S : mS} {Ts Ns : List Cond} {own : String}
/-- getfield -/
theorem mg_get (hx : p.tables.exec = Jvm.exec) (hb : c.code = cc) (hown : s.vm.findClass own = some m.cls) (hts : ∀ w ∈ Ts, w.before args s = true) (hN : ∀ w ∈ Ns, va_Nw w s) (hK : ∀ (k : Nat) (q : vw_C), vwCl[k]? = some q → u_Kn s q.1 q.2.1 q.2.2 (D.1 k) (D.2 k)) (hV : mVok Ts)
    {i ci k a : Nat} (hF : mFok Ts Ns own i ci k) {fs : List Value} (ha : S.1 a = some (.inr (ci, fs))) {v : Value} (hv : fs[k]? = some v) (hdg : decode cc pc = .ok (.getfield i, 3))
    (kk : mOK p l e R s m args below meth c Q D b ns0 (pc + 3) L (v :: st) S) : mOK p l e R s m args below meth c Q D b ns0 pc L (.ref a :: st) S := by
  intro ls H locs hl hsz hR hns hS
  obtain ⟨q, cell, hq, h1, h2, h3, h4⟩ := hR a _ ha
  obtain ⟨hkq, hslot⟩ := h4 k v hv
  obtain ⟨q', hq', hk, hlink, -⟩ := hF
  cases hq.symm.trans hq'
  obtain ⟨hSl, hfc, kC, hkC, hkind⟩ := hK ci q hq
  obtain ⟨cf, kf, fi, f, hi, hsl⟩ := hSl k hk
  have hst := (u_facts hfc hkC (u_lays hts (hV ci q hq).1 hk) hi).1
  rcases hlink with hlink | ⟨host, hlink⟩
  · exact W.getf hx hb hown (hts _ hlink) hi hst h1 h3.2.1 (v := v) (by rw [hsl]; exact hslot) rfl rfl hdg (kk ls H locs hl hsz hR hns hS)
  · exact va_Wgetf hx hb hown (va_Nw.use rfl (hN _ hlink)) hi hst h1 h3.2.1 (v := v) (by rw [hsl]; exact hslot) rfl rfl hdg (kk ls H locs hl hsz hR hns hS)
/-- putfield -/
theorem mg_put (hx : p.tables.exec = Jvm.exec) (hb : c.code = cc) (hDb : D.2 1000 0 ≤ b) (hown : s.vm.findClass own = some m.cls) (hts : ∀ w ∈ Ts, w.before args s = true) (hN : ∀ w ∈ Ns, va_Nw w s) (hK : ∀ (k : Nat) (q : vw_C), vwCl[k]? = some q → u_Kn s q.1 q.2.1 q.2.2 (D.1 k) (D.2 k)) (hV : mVok Ts)
    {i ci k a : Nat} (hF : mFok Ts Ns own i ci k) {fs : List Value} (ha : S.1 a = some (.inr (ci, fs))) (hba : b ≤ a) (hl : k < fs.length) {ty : FieldType} {fin : Bool} (hft : mFt ci k = some (ty, fin)) {v : Value} (hn : narrow ty v = v) (hfit : fits ty v = true) (hin : fin = true → meth.name = "<init>" ∧ ∀ q : vw_C, vwCl[ci]? = some q → q.1 = own) (hdg : decode cc pc = .ok (.putfield i, 3))
    (kk : mOK p l e R s m args below meth c Q D b ns0 (pc + 3) L st (mUp S.1 a (.inr (ci, fs.set k v)), S.2)) : mOK p l e R s m args below meth c Q D b ns0 pc L (v :: .ref a :: st) S := by
  intro ls H locs hls hsz hR hns hS
  obtain ⟨q, cell, hq, h1, h2, h3w, h4⟩ := hR a _ ha
  have h3 : cell.vm = .none := h3w.2.2 (Nat.le_trans hDb hba)
  obtain ⟨q', hq', hk, hlink, hfinl⟩ := hF
  cases hq.symm.trans hq'
  have hKq := hK ci q hq
  have hap := mApart (D := D) hts hV hq hKq
  obtain ⟨hSl, hfc, kC, hkC, hkind⟩ := hKq
  obtain ⟨cf, kf, fi, f, hi, hsl⟩ := hSl k hk
  have hlay := u_lays hts (hV ci q hq).1 hk
  have hst := (u_facts hfc hkC hlay hi).1
  have hold := (h4 k (fs[k]) (List.getElem?_eq_getElem hl)).2
  have hlt : f.slot < cell.slots.size := by rw [hsl]; exact k2_hasslot hold
  unfold mFt at hft
  rw [hq] at hft
  dsimp only at hft
  rw [if_pos hk] at hft
  have hpd : parseFieldDescriptor (q.2.1 k).2.2.1 = some ty ∧ (q.2.1 k).2.2.2 = fin := by
    cases hp : parseFieldDescriptor (q.2.1 k).2.2.1 with
    | none => rw [hp] at hft; cases hft
    | some t => rw [hp] at hft; cases hft; exact ⟨rfl, rfl⟩
  obtain ⟨hd, hfe⟩ := hpd
  have go : ∀ H' : Heap, H'[a]? = some (cell.setSlot f.slot v) → H'.size = H.size → (∀ q, q ≠ a → H'[q]? = H[q]?) → W p l e R s m args below meth c H' (locs ++ [⟨a, f.slot⟩]) (S.2.1 - s.heap.size) (S.2.2 - ns0) Q { F0 m pc ls (v :: .ref a :: st) with pc := (F0 m pc ls (v :: .ref a :: st)).pc + 3, stack := st } := by
    intro H' e1 e2 e3
    refine kk ls H' _ hls (e2.trans hsz) (hR.put e3 ⟨q, _, hq, e1, h2, h3w, fun j w hj => ?_⟩) hns (hS.put e2 e3 hba)
    by_cases e : j = k
    · subst e
      dsimp only at hj
      rw [List.getElem?_set_self hl] at hj
      cases hj
      refine ⟨hk, ?_⟩
      rw [← hsl]
      simp [Cell.setSlot, hlt]
    · dsimp only at hj
      rw [List.getElem?_set_ne (fun z => e z.symm)] at hj
      obtain ⟨g1, g2⟩ := h4 j w hj
      refine ⟨g1, ?_⟩
      have hne : f.slot ≠ D.2 ci j := by rw [hsl]; exact hap k j hk g1 (fun z => e z.symm)
      simp only [Cell.setSlot]
      rw [Array.getElem?_setIfInBounds_ne hne]
      exact g2
  by_cases hf : fin = true
  · obtain ⟨ho0, hlk⟩ := hfinl (hfe.trans hf)
    have ho : (q.2.1 k).1 = own := ho0.trans ((hin hf).2 q hq)
    have hlay2 := hts _ ((hV ci q hq).1 _ (u_in_lay hk))
    unfold u_lay at hlay2
    rw [if_pos (hfe.trans hf)] at hlay2
    have hcf : m.cls = cf := by
      obtain ⟨_, _, c', _, _, _, -, -, hf', -, -, -, hown2, -⟩ := Cond.laysFinal_spec hlay2
      have e1 : c' = cf := by have := hi.symm.trans hf'; simp at this; exact this.1.symm
      rw [ho] at hown2
      rw [← e1]; exact Option.some.inj (hown.symm.trans hown2)
    have h6 := u_fits hfc hkC hkind (Or.inr hlay2) hi hd hn hfit
    exact W.putFinK hx hb hown (hts _ hlk) hi hst hcf (hin hf).1 (by rw [h2]; exact h6) h1 h3 hlt rfl rfl hdg go
  · have hlay2 := hts _ ((hV ci q hq).1 _ (u_in_lay hk))
    unfold u_lay at hlay2
    rw [if_neg (by rw [hfe]; exact hf)] at hlay2
    have h6 := u_store hfc hkC hkind hlay2 hi hd hn hfit
    rcases hlink with hlink | ⟨host, hlink⟩
    · exact W.putK hx hb (f := f) ⟨hown, hts _ hlink, ⟨_, _, _, hi⟩, hst⟩ (by rw [h2]; exact h6) h1 h3 hlt rfl rfl hdg go
    · exact va_WputK hx hb (f := f) hown (va_Nw.use rfl (hN _ hlink)) hi hst (by rw [h2]; exact h6) h1 h3 hlt rfl rfl hdg go
end MST
