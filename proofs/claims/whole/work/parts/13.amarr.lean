/-! arrays, new cells, and the simple instructions -/
theorem mIx_some {j : Int32} {n k : Nat} (h : mIx j n = some k) : ¬ (j < 0 ∨ n ≤ j.toNatClampNeg) ∧ j.toNatClampNeg = k ∧ k < n := by
  unfold mIx at h
  by_cases q : j < 0 ∨ n ≤ j.toNatClampNeg
  · rw [if_pos q] at h; cases h
  · rw [if_neg q] at h
    cases h
    exact ⟨q, rfl, Nat.not_le.mp fun z => q (Or.inr z)⟩
theorem mTg_some {pc t : Nat} {off : Int} (h : mTg pc off = some t) : (pc : Int) + off = (t : Int) := by
  unfold mTg at h
  by_cases q : 0 ≤ (pc : Int) + off
  · rw [if_pos q] at h
    cases h
    exact (Int.toNat_of_nonneg q).symm
  · rw [if_neg q] at h; cases h
section MAR
variable {p : Program} {l : Launch} {e : Env} {R : Room} {s : State} {m : MethodId} {args : Array Value} {below : List Frame} {meth : Method} {c : Code} {Q : State → Prop} {D : va_G} {b ns0 : Nat} {cc : ByteArray} {pc : Nat} {L : mL} {st : List Value} {S : mS} {Ts Ns : List Cond} {own : String}
theorem mg_ild (hx : p.tables.exec = Jvm.exec) (hb : c.code = cc) {a n k : Nat} {f : Nat → Int32} {j : Int32} (ha : S.1 a = some (.inl (.int, n, .inl f))) (hj : mIx j n = some k) (hdg : decode cc pc = .ok (.iaload, 1)) (kk : mOK p l e R s m args below meth c Q D b ns0 (pc + 1) L (.int (f k) :: st) S) : mOK p l e R s m args below meth c Q D b ns0 pc L (.int j :: .ref a :: st) S := by
  intro ls H locs hl hsz hR hns hS
  obtain ⟨cell, h1, h0, h2, h3, h4⟩ := (hR a _ ha).rd
  obtain ⟨q1, q2, q3⟩ := mIx_some hj
  exact W.iald (v := .int (f k)) hx hb h1 h0 h2 (fun z => q1 (z.imp id (fun z => Nat.le_trans h3 z))) (by rw [q2]; exact h4 k q3) rfl rfl hdg (kk ls H locs hl hsz hR hns hS)
theorem mg_bld (hx : p.tables.exec = Jvm.exec) (hb : c.code = cc) {a n k : Nat} {f : Nat → Int32} {j : Int32} (ha : S.1 a = some (.inl (.byte, n, .inl f))) (hj : mIx j n = some k) (hdg : decode cc pc = .ok (.baload, 1)) (kk : mOK p l e R s m args below meth c Q D b ns0 (pc + 1) L (.int (f k) :: st) S) : mOK p l e R s m args below meth c Q D b ns0 pc L (.int j :: .ref a :: st) S := by
  intro ls H locs hl hsz hR hns hS
  obtain ⟨cell, h1, h0, h2, h3, h4⟩ := (hR a _ ha).rd
  obtain ⟨q1, q2, q3⟩ := mIx_some hj
  exact W.bald (v := .int (f k)) hx hb h1 h0 h2 (fun z => q1 (z.imp id (fun z => Nat.le_trans h3 z))) (by rw [q2]; exact h4 k q3) rfl rfl hdg (kk ls H locs hl hsz hR hns hS)
theorem mg_zld (hx : p.tables.exec = Jvm.exec) (hb : c.code = cc) {a n k : Nat} {f : Nat → Int32} {j : Int32} (ha : S.1 a = some (.inl (.boolean, n, .inl f))) (hj : mIx j n = some k) (hdg : decode cc pc = .ok (.baload, 1)) (kk : mOK p l e R s m args below meth c Q D b ns0 (pc + 1) L (.int (f k) :: st) S) : mOK p l e R s m args below meth c Q D b ns0 pc L (.int j :: .ref a :: st) S := by
  intro ls H locs hl hsz hR hns hS
  obtain ⟨cell, h1, h0, h2, h3, h4⟩ := (hR a _ ha).rd
  obtain ⟨q1, q2, q3⟩ := mIx_some hj
  exact W.zald (v := .int (f k)) hx hb h1 h0 h2 (fun z => q1 (z.imp id (fun z => Nat.le_trans h3 z))) (by rw [q2]; exact h4 k q3) rfl rfl hdg (kk ls H locs hl hsz hR hns hS)
theorem mg_lld (hx : p.tables.exec = Jvm.exec) (hb : c.code = cc) {a n k : Nat} {f : Nat → Int64} {j : Int32} (ha : S.1 a = some (.inl (.long, n, .inr (.inl f)))) (hj : mIx j n = some k) (hdg : decode cc pc = .ok (.laload, 1)) (kk : mOK p l e R s m args below meth c Q D b ns0 (pc + 1) L (.long (f k) :: st) S) : mOK p l e R s m args below meth c Q D b ns0 pc L (.int j :: .ref a :: st) S := by
  intro ls H locs hl hsz hR hns hS
  obtain ⟨cA, ⟨h0, -⟩, h1⟩ | ⟨-, cell, g, -, -, -, -, -, h6, -⟩ := hR a _ ha
  case inr => cases h6
  obtain ⟨q1, q2, q3⟩ := mIx_some hj
  exact W.lald (v := .long (f k)) hx hb h1 (h0 n (fun j => .long (f j))) (fun q => by cases q) (by show ¬ (j < 0 ∨ (arrV _ _ _).slots.size ≤ _); rw [arrV_size]; exact q1) (by show (arrV _ _ _).slots[_]? = _; rw [q2, arrV_read _ _ q3]) rfl rfl hdg (kk ls H locs hl hsz hR hns hS)
theorem mg_ald (hx : p.tables.exec = Jvm.exec) (hb : c.code = cc) {a n k : Nat} {f : Nat → Option Nat} {t : FieldType} {j : Int32} (ha : S.1 a = some (.inl (.array t, n, .inr (.inr (.inr (.inr f)))))) (hj : mIx j n = some k) (hdg : decode cc pc = .ok (.aaload, 1)) (kk : mOK p l e R s m args below meth c Q D b ns0 (pc + 1) L (va_rf (f k) :: st) S) : mOK p l e R s m args below meth c Q D b ns0 pc L (.int j :: .ref a :: st) S := by
  intro ls H locs hl hsz hR hns hS
  obtain ⟨cA, ⟨h0, -⟩, h1⟩ | ⟨-, cell, g, -, -, -, -, -, h6, -⟩ := hR a _ ha
  case inr => cases h6
  obtain ⟨q1, q2, q3⟩ := mIx_some hj
  exact W.aald (v := va_rf (f k)) hx hb h1 (h0 n (fun j => va_rf (f j))) rfl (fun q => by cases q) (by show ¬ (j < 0 ∨ (arrV _ _ _).slots.size ≤ _); rw [arrV_size]; exact q1) (by show (arrV _ _ _).slots[_]? = _; rw [q2, arrV_read _ _ q3]) rfl rfl hdg (kk ls H locs hl hsz hR hns hS)
theorem mg_alen (hx : p.tables.exec = Jvm.exec) (hb : c.code = cc) {a n : Nat} {t : FieldType} {f : (Nat → Int32) ⊕ (Nat → Int64) ⊕ (Nat → UInt32) ⊕ (Nat → UInt64) ⊕ (Nat → Option Nat)} (ha : S.1 a = some (.inl (t, n, f))) (hdg : decode cc pc = .ok (.arraylength, 1)) (kk : mOK p l e R s m args below meth c Q D b ns0 (pc + 1) L (.int (Int32.ofNat n) :: st) S) : mOK p l e R s m args below meth c Q D b ns0 pc L (.ref a :: st) S := by
  intro ls H locs hl hsz hR hns hS
  have k1 := kk ls H locs hl hsz hR hns hS
  obtain ⟨cA, ⟨h0, -⟩, h1⟩ | ⟨-, cell, g, h1, h2, h3, h4, h5, h6, -⟩ := hR a _ ha
  case inr => exact W.alen (n := Int32.ofNat n) hx hb h1 h2 h5 rfl rfl hdg k1
  obtain f | f | f | f | f := f
  · exact W.alen (n := Int32.ofNat n) hx hb h1 (h0 n (fun j => .int (f j))) (by rw [vp_cell_i, arrV_size] <;> rfl) rfl rfl hdg k1
  · exact W.alen (n := Int32.ofNat n) hx hb h1 (h0 n (fun j => .long (f j))) (by rw [vp_cell_l, arrV_size] <;> rfl) rfl rfl hdg k1
  · exact W.alen (n := Int32.ofNat n) hx hb h1 (h0 n (fun j => .float (f j))) (by rw [vp_cell_f, arrV_size] <;> rfl) rfl rfl hdg k1
  · exact W.alen (n := Int32.ofNat n) hx hb h1 (h0 n (fun j => .double (f j))) (by rw [vp_cell_d, arrV_size] <;> rfl) rfl rfl hdg k1
  · exact W.alen (n := Int32.ofNat n) hx hb h1 (h0 n (fun j => va_rf (f j))) (by rw [vp_cell_q, arrV_size] <;> rfl) rfl rfl hdg k1
theorem mg_ist (hx : p.tables.exec = Jvm.exec) (hb : c.code = cc) (hDb : D.2 1000 0 ≤ b) {a n k : Nat} {f : Nat → Int32} {j x : Int32} (ha : S.1 a = some (.inl (.int, n, .inl f))) (hba : b ≤ a) (hj : mIx j n = some k) (hdg : decode cc pc = .ok (.iastore, 1)) (kk : mOK p l e R s m args below meth c Q D b ns0 (pc + 1) L st (mUp S.1 a (.inl (.int, n, .inl (upd f k x))), S.2)) : mOK p l e R s m args below meth c Q D b ns0 pc L (.int x :: .int j :: .ref a :: st) S := by
  intro ls H locs hl hsz hR hns hS
  obtain ⟨cA, h0, h1⟩ := (hR a _ ha).str hDb hba
  dsimp only at h0 h1
  obtain ⟨q1, q2, q3⟩ := mIx_some hj
  refine W.iast hx hb h1 (h0.1 n (fun j => .int (f j))) (fun q => by cases q) (by show ¬ (j < 0 ∨ (arrV _ _ _).slots.size ≤ _); rw [arrV_size]; exact q1) rfl rfl hdg fun H1 e1 z oq => ?_
  refine kk ls H1 _ hl (z.trans hsz) (hR.put oq (Or.inl ⟨cA, h0, ?_⟩)) hns (hS.put z oq hba)
  rw [e1, q2]
  dsimp only
  rw [vp_cell_i, vp_cell_i, arrV_store]
  congr 2
  funext q
  by_cases hq : q = k
  · subst hq
    simp [updV, upd]
  · simp [updV, upd, hq]
theorem mg_bst (hx : p.tables.exec = Jvm.exec) (hb : c.code = cc) (hDb : D.2 1000 0 ≤ b) {a n k : Nat} {f : Nat → Int32} {j x : Int32} (ha : S.1 a = some (.inl (.byte, n, .inl f))) (hba : b ≤ a) (hj : mIx j n = some k) (hdg : decode cc pc = .ok (.bastore, 1)) (kk : mOK p l e R s m args below meth c Q D b ns0 (pc + 1) L st (mUp S.1 a (.inl (.byte, n, .inl (upd f k (vp_nar .byte x)))), S.2)) : mOK p l e R s m args below meth c Q D b ns0 pc L (.int x :: .int j :: .ref a :: st) S := by
  intro ls H locs hl hsz hR hns hS
  obtain ⟨cA, h0, h1⟩ := (hR a _ ha).str hDb hba
  dsimp only at h0 h1
  obtain ⟨q1, q2, q3⟩ := mIx_some hj
  refine W.bast hx hb h1 (h0.1 n (fun j => .int (f j))) (fun q => by cases q) (by show ¬ (j < 0 ∨ (arrV _ _ _).slots.size ≤ _); rw [arrV_size]; exact q1) rfl rfl hdg fun H1 e1 z oq => ?_
  refine kk ls H1 _ hl (z.trans hsz) (hR.put oq (Or.inl ⟨cA, h0, ?_⟩)) hns (hS.put z oq hba)
  rw [e1, q2]
  dsimp only
  rw [vp_cell_i, vp_cell_i, arrV_store]
  congr 2
  funext q
  by_cases hq : q = k
  · subst hq
    simp [updV, upd, vp_nar, narrow]
  · simp [updV, upd, hq]
theorem mg_zst (hx : p.tables.exec = Jvm.exec) (hb : c.code = cc) (hDb : D.2 1000 0 ≤ b) {a n k : Nat} {f : Nat → Int32} {j x : Int32} (ha : S.1 a = some (.inl (.boolean, n, .inl f))) (hba : b ≤ a) (hj : mIx j n = some k) (hdg : decode cc pc = .ok (.bastore, 1)) (kk : mOK p l e R s m args below meth c Q D b ns0 (pc + 1) L st (mUp S.1 a (.inl (.boolean, n, .inl (upd f k (vp_nar .boolean x)))), S.2)) : mOK p l e R s m args below meth c Q D b ns0 pc L (.int x :: .int j :: .ref a :: st) S := by
  intro ls H locs hl hsz hR hns hS
  obtain ⟨cA, h0, h1⟩ := (hR a _ ha).str hDb hba
  dsimp only at h0 h1
  obtain ⟨q1, q2, q3⟩ := mIx_some hj
  refine W.zast hx hb h1 (h0.1 n (fun j => .int (f j))) (fun q => by cases q) (by show ¬ (j < 0 ∨ (arrV _ _ _).slots.size ≤ _); rw [arrV_size]; exact q1) rfl rfl hdg fun H1 e1 z oq => ?_
  refine kk ls H1 _ hl (z.trans hsz) (hR.put oq (Or.inl ⟨cA, h0, ?_⟩)) hns (hS.put z oq hba)
  rw [e1, q2]
  dsimp only
  rw [vp_cell_i, vp_cell_i, arrV_store]
  congr 2
  funext q
  by_cases hq : q = k
  · subst hq
    simp [updV, upd, vp_nar, narrow]
  · simp [updV, upd, hq]
theorem mg_lst (hx : p.tables.exec = Jvm.exec) (hb : c.code = cc) (hDb : D.2 1000 0 ≤ b) {a n k : Nat} {f : Nat → Int64} {j : Int32} {x : Int64} (ha : S.1 a = some (.inl (.long, n, .inr (.inl f)))) (hba : b ≤ a) (hj : mIx j n = some k) (hdg : decode cc pc = .ok (.lastore, 1)) (kk : mOK p l e R s m args below meth c Q D b ns0 (pc + 1) L st (mUp S.1 a (.inl (.long, n, .inr (.inl (vp_updL f k x)))), S.2)) : mOK p l e R s m args below meth c Q D b ns0 pc L (.long x :: .int j :: .ref a :: st) S := by
  intro ls H locs hl hsz hR hns hS
  obtain ⟨cA, h0, h1⟩ := (hR a _ ha).str hDb hba
  dsimp only at h0 h1
  obtain ⟨q1, q2, q3⟩ := mIx_some hj
  refine W.last hx hb h1 (h0.1 n (fun j => .long (f j))) (fun q => by cases q) (by show ¬ (j < 0 ∨ (arrV _ _ _).slots.size ≤ _); rw [arrV_size]; exact q1) rfl rfl hdg fun H1 e1 z oq => ?_
  refine kk ls H1 _ hl (z.trans hsz) (hR.put oq (Or.inl ⟨cA, h0, ?_⟩)) hns (hS.put z oq hba)
  rw [e1, q2]
  dsimp only
  rw [vp_cell_l, vp_cell_l, arrV_store]
  congr 2
  funext q
  by_cases hq : q = k
  · subst hq
    simp [updV, vp_updL]
  · simp [updV, vp_updL, hq]
/-- newarray -/
theorem mg_newa (hx : p.tables.exec = Jvm.exec) (hb : c.code = cc) (hbs : b ≤ s.heap.size) {t : ArrayType} {ty : FieldType} {z : Nat → vp_A} (hz : mZero t = some (ty, z)) (harr : (Cond.arrayClass ty).before args s = true) {n : Int32} (hn : ¬ (n < 0 ∨ 60000 < n.toNatClampNeg)) (hRc : S.2.1 + 1 - s.heap.size ≤ R.cells) (hRs : S.2.2 + n.toNatClampNeg - ns0 ≤ R.slots) (hdg : decode cc pc = .ok (.newarray t, 2))
    (kk : mOK p l e R s m args below meth c Q D b ns0 (pc + 2) L (.ref S.2.1 :: st) (mUp S.1 S.2.1 (.inl (ty, z n.toNatClampNeg)), S.2.1 + 1, S.2.2 + n.toNatClampNeg)) : mOK p l e R s m args below meth c Q D b ns0 pc L (.int n :: st) S := by
  intro ls H locs hl hsz hR hns hS
  have hle : s.heap.size ≤ S.2.1 := by rw [← hsz]; exact hS.1
  have hty : newarray.typeOf t = ty ∧ (∀ (cA : ClassId) (N : Nat), vp_cell cA (z N) = arrV cA N (fun _ => defaultValue ty)) ∧ componentBytes ty ≤ 8 := by
    cases t <;> simp only [mZero] at hz <;> cases hz <;> refine ⟨rfl, fun cA N => rfl, by decide⟩
  obtain ⟨hty, hcell, hbytes⟩ := hty
  have hn1 : ¬ n < 0 := fun q => hn (Or.inl q)
  have hn2 : n.toNatClampNeg ≤ 60000 := Nat.not_lt.mp fun q => hn (Or.inr q)
  refine va_newaK hx hb (atype := t) (by rw [hty]; exact harr) rfl hdg rfl hn1 rfl (by rw [hty]; exact Nat.le_trans (Nat.mul_le_mul hn2 hbytes) (by decide)) (by omega) (by omega) hsz fun H' cA e1 z1 o1 hAr hNm => ?_
  have := kk ls H' locs hl z1 (hR.push hsz o1 (Or.inl ⟨cA, ⟨by rw [← hty]; exact hAr, ?_⟩, by rw [e1, hcell, hty]⟩)) (Nat.le_trans hns (Nat.le_add_right _ _)) (mS_push hS hsz z1 o1)
  · dsimp only at this
    rw [show S.2.1 + 1 - s.heap.size = S.2.1 - s.heap.size + 1 by omega, show S.2.2 + n.toNatClampNeg - ns0 = S.2.2 - ns0 + n.toNatClampNeg by omega] at this
    exact this
  · rw [hty] at hNm
    cases t <;> simp only [mZero] at hz <;> cases hz <;> exact hNm
/-- the outer row of int[][] -/
theorem mz_outer (c : ClassId) (N h0 : Nat) : ∀ i : Nat, Jvm.Free.Multi.outerC c N h0 i = arrV c N (fun j => va_rf (if j < i then some (h0 + 1 + j) else none))
  | 0 => by
    show ({ cls := c, slots := Array.replicate N .null, vm := .none } : Cell) = _
    rw [arrV_new]
    refine congrArg (arrV c N) (funext fun j => ?_)
    simp [va_rf]
  | i + 1 => by
    show (Jvm.Free.Multi.outerC c N h0 i).setSlot i (.ref (h0 + 1 + i)) = _
    rw [mz_outer c N h0 i, arrV_store]
    refine congrArg (arrV c N) (funext fun j => ?_)
    by_cases e : j = i
    · subst e
      simp [updV, va_rf]
    · by_cases h : j < i
      · simp [updV, e, h, Nat.lt_succ_of_lt h]
      · simp [updV, e, h, show ¬ j < i + 1 by omega]
/-- multianewarray of ints -/
theorem mg_multi {own : String} {i : Nat} (hx : p.tables.exec = Jvm.exec) (hb : c.code = cc) (hown : s.vm.findClass own = some m.cls) (hcl : (Cond.classLink own i "[[I").before args s = true) (hAO : mAO s) (harr : (Cond.arrayClass .int).before args s = true) {n k : Int32} (hn : ¬ n < 0) (hk : ¬ k < 0) (hN : n.toNatClampNeg ≤ 1000) (hK : k.toNatClampNeg ≤ 60000) (hRc : S.2.1 + 1 + n.toNatClampNeg - s.heap.size ≤ R.cells) (hRs : S.2.2 + n.toNatClampNeg + n.toNatClampNeg * k.toNatClampNeg - ns0 ≤ R.slots) (hdg : decode cc pc = .ok (.multianewarray i 2, 4))
    (kk : mOK p l e R s m args below meth c Q D b ns0 (pc + 4) L (.ref S.2.1 :: st) (mMul S.1 S.2.1 n.toNatClampNeg k.toNatClampNeg, S.2.1 + 1 + n.toNatClampNeg, S.2.2 + n.toNatClampNeg + n.toNatClampNeg * k.toNatClampNeg)) : mOK p l e R s m args below meth c Q D b ns0 pc L (.int k :: .int n :: st) S := by
  intro ls H locs hl hsz hR hns hS
  have hle : s.heap.size ≤ S.2.1 := by rw [← hsz]; exact hS.1
  have hcb : componentBytes .int = 4 := rfl
  have est : "[" ++ (FieldType.array .int).toString = "[[I" := by decide +kernel
  intro T hT Xs
  obtain ⟨vm₁, cA, comp, -, fA, fC, hO, hI, X', step⟩ := Jvm.Stand.multianewarray2F Xs hx (ty := .int) hown (by rw [est]; exact hcl) (hAO args) harr (g := F0 m pc ls (.int k :: .int n :: st)) rfl (by rw [hb]; exact hdg) rfl hn hk (by omega) (by rw [hcb]; omega) (by omega) (by decide) (by decide) (by omega) (by omega)
  generalize hF : Jvm.Free.Multi.fill (T.setVm vm₁) cA comp n.toNatClampNeg k.toNatClampNeg (defaultValue .int) n.toNatClampNeg = F at X' step
  have hTh : (T.setVm vm₁).heap = H := hT
  obtain ⟨f1, f2, -, -⟩ := Jvm.Free.Multi.fill_facts (T.setVm vm₁) cA comp n.toNatClampNeg k.toNatClampNeg (defaultValue .int) n.toNatClampNeg
  rw [hF, hTh] at f1 f2
  have hold : ∀ x : Nat, x < H.size → F.heap[x]? = H[x]? := fun x hx => by
    have := Jvm.Free.Multi.fill_old (T.setVm vm₁) cA comp n.toNatClampNeg k.toNatClampNeg (defaultValue .int) (a := x) (by rw [hTh]; exact hx) n.toNatClampNeg
    rw [hF, hTh] at this
    exact this
  have hrow : ∀ j : Nat, j < n.toNatClampNeg → F.heap[H.size + 1 + j]? = some (vp_cell comp (k.toNatClampNeg, .inl (fun _ => 0))) := fun j hj => by
    have := Jvm.Free.Multi.fill_inner (T.setVm vm₁) cA comp n.toNatClampNeg k.toNatClampNeg (defaultValue .int) n.toNatClampNeg j hj
    rw [hF, hTh] at this
    rw [this]
    refine congrArg some ?_
    show ({ cls := comp, slots := Array.replicate k.toNatClampNeg (defaultValue .int), vm := .none } : Cell) = _
    rw [arrV_new]
    rfl
  rw [mz_outer] at f2
  have hAr : ArrOfT s cA (.array .int) := fun N9 z9 => by
    obtain ⟨-, k9, hk9, cm9, hkk9⟩ := (hO 0 0 0).1
    exact ⟨(fun q hq => by cases hq), k9, hk9, cm9, hkk9⟩
  have hAi : ArrOfT s comp .int := fun N9 z9 => by
    obtain ⟨-, k9, hk9, cm9, hkk9⟩ := (hI 0 (.int 0)).1
    exact ⟨(fun q hq => by cases hq), k9, hk9, cm9, hkk9⟩
  have hrel : mRel D s F.heap (mMul S.1 S.2.1 n.toNatClampNeg k.toNatClampNeg) := by
    intro q c1 h1
    unfold mMul at h1
    by_cases e0 : q = S.2.1
    · rw [if_pos e0] at h1
      cases h1
      refine Or.inl ⟨cA, ⟨hAr, fA⟩, ?_⟩
      rw [e0, ← hsz, f2, vp_cell_q]
    · rw [if_neg e0] at h1
      by_cases e1 : S.2.1 < q ∧ q < S.2.1 + 1 + n.toNatClampNeg
      · rw [if_pos e1] at h1
        cases h1
        refine Or.inl ⟨comp, ⟨hAi, fC⟩, ?_⟩
        have := hrow (q - (S.2.1 + 1)) (by omega)
        rw [show H.size + 1 + (q - (S.2.1 + 1)) = q by omega] at this
        exact this
      · rw [if_neg e1] at h1
        have hq := hR q c1 h1
        exact hq.kept (hold q hq.lt)
  have hsz2 : F.heap.size = S.2.1 + 1 + n.toNatClampNeg := by rw [f1, hsz]
  have hS2 : va_S (fun q => b ≤ q) s.heap F.heap locs := ⟨by rw [f1]; have := hS.1; omega, fun x h1 h2 => (hold x (Nat.lt_of_lt_of_le h1 hS.1)).trans (hS.2.1 x h1 h2), hS.2.2⟩
  have hW := kk ls F.heap locs hl hsz2 hrel (by dsimp only; omega) hS2
  dsimp only at hW
  rw [show S.2.1 + 1 + n.toNatClampNeg - s.heap.size = S.2.1 - s.heap.size + 1 + n.toNatClampNeg by omega, show S.2.2 + n.toNatClampNeg + n.toNatClampNeg * k.toNatClampNeg - ns0 = S.2.2 - ns0 + n.toNatClampNeg + n.toNatClampNeg * k.toNatClampNeg by omega] at hW
  obtain ⟨t, a1, b1⟩ := hW F rfl X'
  refine ⟨t, step t ?_, b1⟩
  have e : T.heap.size = S.2.1 := by rw [hT, hsz]
  rw [e]
  exact a1
/-- new -/
theorem mg_new (hx : p.tables.exec = Jvm.exec) (hb : c.code = cc) (hown : s.vm.findClass own = some m.cls) (hts : ∀ w ∈ Ts, w.before args s = true) (hK : ∀ (k : Nat) (q : vw_C), vwCl[k]? = some q → u_Kn s q.1 q.2.1 q.2.2 (D.1 k) (D.2 k)) (hV : mVok Ts)
    {i ci : Nat} {q : vw_C} (hq : vwCl[ci]? = some q) (hc1 : Cond.classLink own i q.1 ∈ Ts) (hc2 : Cond.instantiable q.1 q.2.2 ∈ Ts) (hc3 : Cond.initialized q.1 ∈ Ts) {fs : List Value} (hfs : mBorn ci = some fs) (hRc : S.2.1 + 1 - s.heap.size ≤ R.cells) (hRs : S.2.2 + fs.length - ns0 ≤ R.slots) (hdg : decode cc pc = .ok (.new i, 3))
    (kk : mOK p l e R s m args below meth c Q D b ns0 (pc + 3) L (.ref S.2.1 :: st) (mUp S.1 S.2.1 (.inr (ci, fs)), S.2.1 + 1, S.2.2 + fs.length)) : mOK p l e R s m args below meth c Q D b ns0 pc L st S := by
  intro ls H locs hl hsz hR hns hS
  have hle : s.heap.size ≤ S.2.1 := by rw [← hsz]; exact hS.1
  have hKq := hK ci q hq
  obtain ⟨hin, ⟨ty, hty⟩, -⟩ := hV ci q hq
  unfold mBorn at hfs
  rw [hq] at hfs
  have hfe : fs = (List.range q.2.2).map (fun k => match parseFieldDescriptor (q.2.1 k).2.2.1 with | some t => defaultValue t | none => Value.null) := (Option.some.inj hfs).symm
  have hlen : fs.length = q.2.2 := by rw [hfe]; simp
  rw [hlen] at hRs kk
  refine W.newcK hx hb hown (hts _ hc1) (hts _ hc2) (hts _ hc3) rfl hdg (by omega) (by omega) hKq.2.1 hsz fun H1 kC hkC e1 z1 o1 => ?_
  obtain ⟨cell, g1, g2, g3, g4⟩ := u_born (H := H1) (o := S.2.1) ty hts hin hKq hkC e1 hty
  have := kk ls H1 locs hl z1 (hR.push hsz o1 ⟨q, cell, hq, g1, g2, ⟨by rw [g3]; rfl, (by rw [g3]; exact fun z => by cases z), fun _ => g3⟩, fun k v hv => ?_⟩) (Nat.le_trans hns (Nat.le_add_right _ _)) (mS_push hS hsz z1 o1)
  · dsimp only at this
    rw [show S.2.1 + 1 - s.heap.size = S.2.1 - s.heap.size + 1 by omega, show S.2.2 + q.2.2 - ns0 = S.2.2 - ns0 + q.2.2 by omega] at this
    exact this
  · dsimp only at hv
    rw [hfe, List.getElem?_map] at hv
    by_cases hk : k < q.2.2
    · rw [List.getElem?_range hk] at hv
      simp only [Option.map_some, hty k hk] at hv
      cases hv
      exact ⟨hk, g4 k hk⟩
    · rw [List.getElem?_eq_none (by simp; omega)] at hv
      cases hv
end MAR
