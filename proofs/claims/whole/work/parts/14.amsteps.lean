/-! every instruction but calls and returns -/
theorem mLen_of {i : Instr} {len n : Nat} (h : mLen i = 0 ∨ mLen i = len) (e : mLen i = n + 1) : len = n + 1 := by
  rcases h with q | q
  · rw [e] at q; cases q
  · exact q.symm.trans e
/-- a program's tables are as the words say -/
def mPok (P : mP) (tn : Nat → String) (Ts Ns : List Cond) (Rs : List (String × Nat × String × Nat)) (Zs : List (String × String × String × Value)) : Prop :=
  mVok Ts ∧ (∀ t i ci k, P.1 t i = some (ci, k) → mFok Ts Ns (tn t) i ci k) ∧ (∀ t i ci, P.2.1 t i = some ci → ∃ q : vw_C, vwCl[ci]? = some q ∧ Cond.classLink (tn t) i q.1 ∈ Ts ∧ Cond.instantiable q.1 q.2.2 ∈ Ts ∧ Cond.initialized q.1 ∈ Ts) ∧
  (∀ t i v, P.2.2.2.1 t i = some v → mCok Ts Rs Zs (tn t) i v) ∧ (∀ t i v, P.2.2.2.2.1 t i = some v → mZok Ts Ns Zs (tn t) i v) ∧ (Cond.arrayClass .byte ∈ Ts ∧ Cond.arrayClass .boolean ∈ Ts ∧ Cond.arrayClass .int ∈ Ts ∧ Cond.arrayClass .long ∈ Ts ∧ Cond.classLink (tn 3) 45 "[[I" ∈ Ts)
section MSP
variable {p : Program} {l : Launch} {e : Env} {R : Room} {s : State} {m : MethodId} {args : Array Value} {below : List Frame} {meth : Method} {c : Code} {Q : State → Prop} {D : va_G} {b ns0 : Nat} {cc : ByteArray} {pc len : Nat} {L : mL} {st : List Value} {S : mS} {Ts Ns : List Cond} {own : String}
theorem mg_load (hx : p.tables.exec = Jvm.exec) (hb : c.code = cc) {isI isJ : Bool} {k n : Nat} {nx : Nat × mL × List Value × mS} (h : mLoad isI isJ k pc n L st S = some nx) (kk : mOK p l e R s m args below meth c Q D b ns0 nx.1 nx.2.1 nx.2.2.1 nx.2.2.2)
    (r1 : ∀ (ls : Array Slot) (H : Heap) (locs : List Loc) (cells slots : Nat) (x : Int32), isI = true → ls[k]? = some (.val (.int x)) → W p l e R s m args below meth c H locs cells slots Q (F0 m (pc + n) ls (.int x :: st)) → W p l e R s m args below meth c H locs cells slots Q (F0 m pc ls st))
    (r2 : ∀ (ls : Array Slot) (H : Heap) (locs : List Loc) (cells slots : Nat) (x : Int64), isJ = true → ls[k]? = some (.val (.long x)) → W p l e R s m args below meth c H locs cells slots Q (F0 m (pc + n) ls (.long x :: st)) → W p l e R s m args below meth c H locs cells slots Q (F0 m pc ls st))
    (r3 : ∀ (ls : Array Slot) (H : Heap) (locs : List Loc) (cells slots : Nat) (x : Nat), (isI || isJ) = false → ls[k]? = some (.val (.ref x)) → W p l e R s m args below meth c H locs cells slots Q (F0 m (pc + n) ls (.ref x :: st)) → W p l e R s m args below meth c H locs cells slots Q (F0 m pc ls st)) : mOK p l e R s m args below meth c Q D b ns0 pc L st S := by
  intro ls H locs hl hsz hR hns hS
  unfold mLoad at h
  cases hv : mLd L k with
  | none => rw [hv] at h; cases h
  | some v =>
    rw [hv] at h
    have hg := hl.2.2 k v hv
    cases v with
    | int x =>
      dsimp only at h
      by_cases q : isI = true
      · rw [if_pos q] at h; cases h
        exact r1 ls H locs _ _ x q hg (kk ls H locs hl hsz hR hns hS)
      · rw [if_neg q] at h; cases h
    | long x =>
      dsimp only at h
      by_cases q : isJ = true
      · rw [if_pos q] at h; cases h
        exact r2 ls H locs _ _ x q hg (kk ls H locs hl hsz hR hns hS)
      · rw [if_neg q] at h; cases h
    | ref x =>
      dsimp only at h
      by_cases q : (isI || isJ) = true
      · rw [if_pos q] at h; cases h
      · rw [if_neg q] at h; cases h
        exact r3 ls H locs _ _ x (by simpa using q) hg (kk ls H locs hl hsz hR hns hS)
    | _ => cases h
theorem mg_store (hx : p.tables.exec = Jvm.exec) (hb : c.code = cc) {isI isJ : Bool} {k n : Nat} {nx : Nat × mL × List Value × mS} (h : mStore isI isJ k pc n L st S = some nx) (kk : mOK p l e R s m args below meth c Q D b ns0 nx.1 nx.2.1 nx.2.2.1 nx.2.2.2)
    (r1 : ∀ (ls : Array Slot) (H : Heap) (locs : List Loc) (cells slots : Nat) (x : Int32) (r : List Value), isI = true → lv_has ls L.length (mPr L) → k < L.length → (∀ ls' : Array Slot, lv_has ls' L.length ((k, Value.int x) :: (mPr L).filter (fun q => !(q.1 == k) && !(q.1 + 1 == k && q.2.category == 2))) → W p l e R s m args below meth c H locs cells slots Q (F0 m (pc + n) ls' r)) → W p l e R s m args below meth c H locs cells slots Q (F0 m pc ls (.int x :: r)))
    (r2 : ∀ (ls : Array Slot) (H : Heap) (locs : List Loc) (cells slots : Nat) (x : Int64) (r : List Value), isJ = true → lv_has ls L.length (mPr L) → k + 1 < L.length → (∀ ls' : Array Slot, lv_has ls' L.length ((k, Value.long x) :: (mPr L).filter (fun q => !(q.1 == k) && (!(q.1 == k + 1) && !(q.1 + 1 == k && q.2.category == 2)))) → W p l e R s m args below meth c H locs cells slots Q (F0 m (pc + n) ls' r)) → W p l e R s m args below meth c H locs cells slots Q (F0 m pc ls (.long x :: r)))
    (r3 : ∀ (ls : Array Slot) (H : Heap) (locs : List Loc) (cells slots : Nat) (x : Nat) (r : List Value), (isI || isJ) = false → lv_has ls L.length (mPr L) → k < L.length → (∀ ls' : Array Slot, lv_has ls' L.length ((k, Value.ref x) :: (mPr L).filter (fun q => !(q.1 == k) && !(q.1 + 1 == k && q.2.category == 2))) → W p l e R s m args below meth c H locs cells slots Q (F0 m (pc + n) ls' r)) → W p l e R s m args below meth c H locs cells slots Q (F0 m pc ls (.ref x :: r))) : mOK p l e R s m args below meth c Q D b ns0 pc L st S := by
  intro ls H locs hl hsz hR hns hS
  unfold mStore at h
  cases st with
  | nil => cases h
  | cons v r =>
    cases v with
    | int x =>
      dsimp only at h
      by_cases q : isI = true
      · rw [if_pos q] at h
        cases hL : mSt L k (.int x) with
        | none => rw [hL] at h; cases h
        | some L' =>
          rw [hL] at h; cases h
          obtain ⟨g1, g2, g3⟩ := mSt_mem1 rfl hL
          exact r1 ls H locs _ _ x r q hl.has g1 (fun ls' h' => kk ls' H locs (mLR.of h' g2 g3) hsz hR hns hS)
      · rw [if_neg q] at h; cases h
    | long x =>
      dsimp only at h
      by_cases q : isJ = true
      · rw [if_pos q] at h
        cases hL : mSt L k (.long x) with
        | none => rw [hL] at h; cases h
        | some L' =>
          rw [hL] at h; cases h
          obtain ⟨g1, g2, g3⟩ := mSt_mem2 rfl hL
          exact r2 ls H locs _ _ x r q hl.has g1 (fun ls' h' => kk ls' H locs (mLR.of h' g2 g3) hsz hR hns hS)
      · rw [if_neg q] at h; cases h
    | ref x =>
      dsimp only at h
      by_cases q : (isI || isJ) = true
      · rw [if_pos q] at h; cases h
      · rw [if_neg q] at h
        cases hL : mSt L k (.ref x) with
        | none => rw [hL] at h; cases h
        | some L' =>
          rw [hL] at h; cases h
          obtain ⟨g1, g2, g3⟩ := mSt_mem1 rfl hL
          exact r3 ls H locs _ _ x r (by simpa using q) hl.has g1 (fun ls' h' => kk ls' H locs (mLR.of h' g2 g3) hsz hR hns hS)
    | _ => cases h
/-- a comparison's two ways -/
theorem mg_icmp (hx : p.tables.exec = Jvm.exec) (hb : c.code = cc) {cd : ClassFile.Cond} {off : Int} {x y : Int32} {r : List Value} {nx : Nat × mL × List Value × mS} (hdg : decode cc pc = .ok (.if_icmp cd off, 3))
    (h : (match mTg pc off with | some t => if mCmp cd x y = true then some (t, L, r, S) else some (pc + 3, L, r, S) | none => none) = some nx) (kk : mOK p l e R s m args below meth c Q D b ns0 nx.1 nx.2.1 nx.2.2.1 nx.2.2.2) : mOK p l e R s m args below meth c Q D b ns0 pc L (.int y :: .int x :: r) S := by
  intro ls H locs hl hsz hR hns hS
  cases ht : mTg pc off with
  | none => rw [ht] at h; cases h
  | some t =>
    rw [ht] at h
    dsimp only at h
    have hT := mTg_some ht
    by_cases q : mCmp cd x y = true
    · rw [if_pos q] at h
      cases h
      have k1 := kk ls H locs hl hsz hR hns hS
      cases cd <;> simp only [mCmp, decide_eq_true_eq, Bool.not_eq_true', decide_eq_false_iff_not] at q
      · exact lv_icmp_eq hx hb hdg hT (fun _ => k1) (fun z => absurd q z)
      · exact lv_icmp_ne hx hb hdg hT (fun _ => k1) (fun z => absurd z q)
      · exact lv_icmp_lt hx hb hdg hT (fun _ => k1) (fun z => absurd q z)
      · exact lv_icmp_ge hx hb hdg hT (fun _ => k1) (fun z => absurd q z)
      · exact lv_icmp_gt hx hb hdg hT (fun _ => k1) (fun z => absurd q z)
      · exact lv_icmp_le hx hb hdg hT (fun _ => k1) (fun z => absurd q z)
    · rw [if_neg q] at h
      cases h
      have k1 := kk ls H locs hl hsz hR hns hS
      cases cd <;> simp only [mCmp, decide_eq_true_eq, Bool.not_eq_true', decide_eq_false_iff_not, Decidable.not_not] at q
      · exact lv_icmp_eq hx hb hdg hT (fun z => absurd z q) (fun _ => k1)
      · exact lv_icmp_ne hx hb hdg hT (fun z => absurd q z) (fun _ => k1)
      · exact lv_icmp_lt hx hb hdg hT (fun z => absurd z q) (fun _ => k1)
      · exact lv_icmp_ge hx hb hdg hT (fun z => absurd z q) (fun _ => k1)
      · exact lv_icmp_gt hx hb hdg hT (fun z => absurd z q) (fun _ => k1)
      · exact lv_icmp_le hx hb hdg hT (fun z => absurd z q) (fun _ => k1)
theorem mg_if (hx : p.tables.exec = Jvm.exec) (hb : c.code = cc) {cd : ClassFile.Cond} {off : Int} {x : Int32} {r : List Value} {nx : Nat × mL × List Value × mS} (hdg : decode cc pc = .ok (.ifCond cd off, 3))
    (h : (match mTg pc off with | some t => if mCmp cd x 0 = true then some (t, L, r, S) else some (pc + 3, L, r, S) | none => none) = some nx) (kk : mOK p l e R s m args below meth c Q D b ns0 nx.1 nx.2.1 nx.2.2.1 nx.2.2.2) : mOK p l e R s m args below meth c Q D b ns0 pc L (.int x :: r) S := by
  intro ls H locs hl hsz hR hns hS
  cases ht : mTg pc off with
  | none => rw [ht] at h; cases h
  | some t =>
    rw [ht] at h
    dsimp only at h
    have hT := mTg_some ht
    by_cases q : mCmp cd x 0 = true
    · rw [if_pos q] at h
      cases h
      have k1 := kk ls H locs hl hsz hR hns hS
      cases cd <;> simp only [mCmp, decide_eq_true_eq, Bool.not_eq_true', decide_eq_false_iff_not] at q
      · exact lv_if_eq hx hb hdg hT (fun _ => k1) (fun z => absurd q z)
      · exact lv_if_ne hx hb hdg hT (fun _ => k1) (fun z => absurd z q)
      · exact lv_if_lt hx hb hdg hT (fun _ => k1) (fun z => absurd q z)
      · exact lv_if_ge hx hb hdg hT (fun _ => k1) (fun z => absurd q z)
      · exact lv_if_gt hx hb hdg hT (fun _ => k1) (fun z => absurd q z)
      · exact lv_if_le hx hb hdg hT (fun _ => k1) (fun z => absurd q z)
    · rw [if_neg q] at h
      cases h
      have k1 := kk ls H locs hl hsz hR hns hS
      cases cd <;> simp only [mCmp, decide_eq_true_eq, Bool.not_eq_true', decide_eq_false_iff_not, Decidable.not_not] at q
      · exact lv_if_eq hx hb hdg hT (fun z => absurd z q) (fun _ => k1)
      · exact lv_if_ne hx hb hdg hT (fun z => absurd q z) (fun _ => k1)
      · exact lv_if_lt hx hb hdg hT (fun z => absurd z q) (fun _ => k1)
      · exact lv_if_ge hx hb hdg hT (fun z => absurd z q) (fun _ => k1)
      · exact lv_if_gt hx hb hdg hT (fun z => absurd z q) (fun _ => k1)
      · exact lv_if_le hx hb hdg hT (fun z => absurd z q) (fun _ => k1)
/-- arithmetic -/
theorem mg_ari (hx : p.tables.exec = Jvm.exec) (hb : c.code = cc) {i : Instr} {nx : Nat × mL × List Value × mS} (hdg : decode cc pc = .ok (i, 1)) (h : mAri i pc L st S = some nx) (kk : mOK p l e R s m args below meth c Q D b ns0 nx.1 nx.2.1 nx.2.2.1 nx.2.2.2) : mOK p l e R s m args below meth c Q D b ns0 pc L st S := by
  unfold mAri at h
  split at h
  · rename_i y x r
    cases hz : mI2 i x y with
    | none => rw [hz] at h; cases h
    | some z =>
      rw [hz] at h; cases h
      intro ls H locs hl hsz hR hns hS
      have k1 := kk ls H locs hl hsz hR hns hS
      cases i <;> simp only [mI2] at hz <;> try (cases hz; done)
      case iadd => cases hz; exact lv_iadd hx hb hdg k1
      case isub => cases hz; exact lv_isub hx hb hdg k1
      case imul => cases hz; exact lv_imul hx hb hdg k1
      case iand => cases hz; exact lv_iand hx hb hdg k1
      case ior => cases hz; exact lv_ior hx hb hdg k1
      case ixor => cases hz; exact lv_ixor hx hb hdg k1
      case ishl => cases hz; exact lv_ishl hx hb hdg k1
      case ishr => cases hz; exact lv_ishr hx hb hdg k1
      case iushr => cases hz; exact lv_iushr hx hb hdg rfl k1
      case idiv =>
        by_cases q : y = 0
        · rw [if_pos q] at hz; cases hz
        · rw [if_neg q] at hz; cases hz; exact lv_idiv hx hb hdg q k1
      case irem =>
        by_cases q : y = 0
        · rw [if_pos q] at hz; cases hz
        · rw [if_neg q] at hz; cases hz; exact lv_irem hx hb hdg q k1
  · rename_i y x r
    cases hz : mJ2 i x y with
    | none => rw [hz] at h; cases h
    | some z =>
      rw [hz] at h; cases h
      intro ls H locs hl hsz hR hns hS
      have k1 := kk ls H locs hl hsz hR hns hS
      cases i <;> simp only [mJ2] at hz <;> try (cases hz; done)
      case ladd => cases hz; exact lv_ladd hx hb hdg k1
      case lsub => cases hz; exact lv_lsub hx hb hdg k1
      case lmul => cases hz; exact lv_lmul hx hb hdg k1
      case land => cases hz; exact lv_land hx hb hdg k1
      case lor => cases hz; exact lv_lor hx hb hdg k1
      case lxor => cases hz; exact lv_lxor hx hb hdg k1
  · rename_i y x r
    cases hz : mJs i x y with
    | none => rw [hz] at h; cases h
    | some z =>
      rw [hz] at h; cases h
      intro ls H locs hl hsz hR hns hS
      have k1 := kk ls H locs hl hsz hR hns hS
      cases i <;> simp only [mJs] at hz <;> try (cases hz; done)
      case lshl => cases hz; exact lv_lshl hx hb hdg rfl k1
      case lshr => cases hz; exact lv_lshr hx hb hdg rfl k1
      case lushr => cases hz; exact lv_lushr hx hb hdg rfl k1
  · cases h
/-- array loads and stores -/
theorem mg_ld (hx : p.tables.exec = Jvm.exec) (hb : c.code = cc) {i : Instr} {nx : Nat × mL × List Value × mS} (hdg : decode cc pc = .ok (i, 1)) (h : mAld i pc L st S = some nx) (kk : mOK p l e R s m args below meth c Q D b ns0 nx.1 nx.2.1 nx.2.2.1 nx.2.2.2) : mOK p l e R s m args below meth c Q D b ns0 pc L st S := by
  unfold mAld at h
  split at h
  · rename_i j a r
    cases ha : S.1 a with
    | none => rw [ha] at h; cases h
    | some x =>
      rw [ha] at h
      cases x with
      | inr x => cases h
      | inl x =>
        obtain ⟨ty, n, f⟩ := x
        dsimp only at h
        cases hj : mIx j n with
        | none => rw [hj] at h; cases h
        | some k =>
          rw [hj] at h
          dsimp only at h
          split at h
          · cases h; exact mg_ild hx hb ha hj hdg kk
          · cases h; exact mg_bld hx hb ha hj hdg kk
          · cases h; exact mg_zld hx hb ha hj hdg kk
          · cases h; exact mg_lld hx hb ha hj hdg kk
          · cases h; exact mg_ald hx hb ha hj hdg kk
          · cases h
  · cases h
theorem mg_st (hx : p.tables.exec = Jvm.exec) (hb : c.code = cc) (hDb : D.2 1000 0 ≤ b) {i : Instr} {nx : Nat × mL × List Value × mS} (hdg : decode cc pc = .ok (i, 1)) (h : mAst b i pc L st S = some nx) (kk : mOK p l e R s m args below meth c Q D b ns0 nx.1 nx.2.1 nx.2.2.1 nx.2.2.2) : mOK p l e R s m args below meth c Q D b ns0 pc L st S := by
  unfold mAst at h
  split at h
  · rename_i x j a r
    cases ha : S.1 a with
    | none => rw [ha] at h; cases h
    | some y =>
      rw [ha] at h
      cases y with
      | inr y => cases h
      | inl y =>
        obtain ⟨ty, n, f⟩ := y
        dsimp only at h
        by_cases hba : a < b
        · rw [if_pos hba] at h; cases h
        · rw [if_neg hba] at h
          have hba' : b ≤ a := Nat.not_lt.mp hba
          cases hj : mIx j n with
          | none => rw [hj] at h; cases h
          | some k =>
            rw [hj] at h
            dsimp only at h
            split at h
            · cases h; exact mg_ist hx hb hDb ha hba' hj hdg kk
            · cases h; exact mg_bst hx hb hDb ha hba' hj hdg kk
            · cases h; exact mg_zst hx hb hDb ha hba' hj hdg kk
            · cases h
  · rename_i x j a r
    split at h
    · rename_i n f ha
      by_cases hba : a < b
      · rw [if_pos hba] at h; cases h
      · rw [if_neg hba] at h
        have hba' : b ≤ a := Nat.not_lt.mp hba
        split at h
        · rename_i k hj
          cases h; exact mg_lst hx hb hDb ha hba' hj hdg kk
        · cases h
    · cases h
  · cases h
end MSP
