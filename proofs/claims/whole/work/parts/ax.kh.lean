/-! THE CONSTANTS AS PLAIN CELLS -/
theorem sz_mod {n N : Nat} (h : n.toInt32 = Int32.ofNat N) (hN : N < 4294967296) : n % 4294967296 = N := by
  have h2 : BitVec.ofNat 32 n = BitVec.ofNat 32 N := congrArg Int32.toBitVec h
  have h3 := congrArg BitVec.toNat h2
  rw [BitVec.toNat_ofNat, BitVec.toNat_ofNat] at h3
  rw [show (2 : Nat) ^ 32 = 4294967296 from rfl, Nat.mod_eq_of_lt hN] at h3
  exact h3
theorem sz_back (n : Nat) : n.toInt32 = Int32.ofNat (n % 4294967296) := by
  have h : BitVec.ofNat 32 n = BitVec.ofNat 32 (n % 4294967296) := by
    apply BitVec.eq_of_toNat_eq
    rw [BitVec.toNat_ofNat, BitVec.toNat_ofNat, show (2 : Nat) ^ 32 = 4294967296 from rfl, Nat.mod_mod]
  exact congrArg (fun z => (⟨⟨z⟩⟩ : Int32)) h
def kI (cell : Cell) (j : Nat) : Int32 := match cell.slots[j]? with
  | some (.int v) => v
  | _ => 0
def kAr (s : State) (cell : Cell) (ty : FieldType) : Prop := s.isArrayOf cell ty ∧ cell.vm ≠ .unknown ∧ ∀ j : Nat, j < cell.slots.size % 4294967296 → ∃ v, cell.slots[j]? = some (.int v)
def kSt (D : va_G) (cell : Cell) (va : Nat) : Prop := cell.cls = D.1 0 ∧ (cell.vm.isStatics = false ∧ cell.vm ≠ .unknown) ∧ cell.slots[D.2 0 0]? = some (.ref va) ∧ cell.slots[D.2 0 1]? = some (.int 0)
noncomputable def kH (D : va_G) (s : State) : mH := fun a => match s.heap[a]? with
  | none => none
  | some ce => @ite (Option mC) (kAr s ce .byte) (Classical.propDecidable _) (some (.inl (.byte, ce.slots.size % 4294967296, .inl (kI ce)))) (@ite (Option mC) (kAr s ce .int) (Classical.propDecidable _) (some (.inl (.int, ce.slots.size % 4294967296, .inl (kI ce)))) (@dite (Option mC) (∃ va, kSt D ce va) (Classical.propDecidable _) (fun h => some (.inr (0, [.ref h.choose, .int 0]))) (fun _ => none)))
section KH
variable {D : va_G} {s : State} {t : Nat} {vs : List Nat}
theorem kI_of {cell : Cell} {j : Nat} {v : Int32} (h : cell.slots[j]? = some (.int v)) : kI cell j = v := by unfold kI; rw [h]
theorem kAr_no {cell : Cell} {ty ty' : FieldType} (h : s.isArrayOf cell ty) (hn : ty ≠ ty') : ¬ kAr s cell ty' := by
  rintro ⟨⟨-, k', hk', c', hc'⟩, -⟩
  obtain ⟨-, k, hk, c, hc⟩ := h
  cases Option.some.inj (hk.symm.trans hk')
  rw [hc] at hc'
  exact hn (by injection hc')
theorem kH_b (h : va_T .byte t vs.length (fun j => .int (nI (vs.getD j 0))) (fun _ => False) s s.heap) (hN : vs.length < 4294967296) : t < s.heap.size ∧ ∃ f : Nat → Int32, kH D s t = some (.inl (.byte, vs.length, .inl f)) ∧ ∀ i, i < vs.length → f i = nI (vs.getD i 0) := by
  obtain ⟨cell, h1, h2, h3, h4, h5, h6, -⟩ := h
  have hn := sz_mod h5 hN
  refine ⟨(Array.getElem?_eq_some_iff.mp h1).1, kI cell, ?_, fun i hi => kI_of (h6 i hi)⟩
  unfold kH
  rw [h1]
  dsimp only
  rw [if_pos ⟨h2, h3, fun j hj => ⟨_, h6 j (by rw [hn] at hj; exact hj)⟩⟩, hn]
theorem kH_i (h : va_T .int t vs.length (fun j => .int (nI (vs.getD j 0))) (fun _ => False) s s.heap) (hN : vs.length < 4294967296) : t < s.heap.size ∧ ∃ f : Nat → Int32, kH D s t = some (.inl (.int, vs.length, .inl f)) ∧ ∀ i, i < vs.length → f i = nI (vs.getD i 0) := by
  obtain ⟨cell, h1, h2, h3, h4, h5, h6, -⟩ := h
  have hn := sz_mod h5 hN
  refine ⟨(Array.getElem?_eq_some_iff.mp h1).1, kI cell, ?_, fun i hi => kI_of (h6 i hi)⟩
  unfold kH
  rw [h1]
  dsimp only
  rw [if_neg (kAr_no h2 (by decide)), if_pos ⟨h2, h3, fun j hj => ⟨_, h6 j (by rw [hn] at hj; exact hj)⟩⟩, hn]
theorem kH_s {cell : Cell} {va : Nat} (hK : u_Kn s RJ0 TJ0 4 (D.1 0) (D.2 0)) (h1 : s.heap[t]? = some cell) (h2 : kSt D cell va) : kH D s t = some (.inr (0, [.ref va, .int 0])) := by
  have no : ∀ ty, ¬ kAr s cell ty := by
    rintro ty ⟨⟨-, k', hk', c', hc'⟩, -⟩
    obtain ⟨-, -, k, hk, hc⟩ := hK
    rw [h2.1] at hk'
    cases Option.some.inj (hk.symm.trans hk')
    rw [hc] at hc'
    cases hc'
  have hex : ∃ va, kSt D cell va := ⟨va, h2⟩
  unfold kH
  rw [h1]
  dsimp only
  rw [if_neg (no _), if_neg (no _), dif_pos hex]
  have e : hex.choose = va := by
    have := hex.choose_spec.2.2.1.symm.trans h2.2.2.1
    cases this
    rfl
  rw [e]
theorem kH_rel (hD : D.2 1000 0 = s.heap.size) : mRel D s s.heap (kH D s) := by
  intro a c hc
  unfold kH at hc
  cases hcell : s.heap[a]? with
  | none => rw [hcell] at hc; cases hc
  | some cell =>
    rw [hcell] at hc
    dsimp only at hc
    have hlt := (Array.getElem?_eq_some_iff.mp hcell).1
    by_cases h1 : kAr s cell .byte
    · rw [if_pos h1] at hc
      cases hc
      exact Or.inr ⟨by rw [hD]; exact hlt, cell, kI cell, hcell, h1.1, h1.2.1, Nat.mod_le _ _, sz_back _, rfl, fun j hj => by
        obtain ⟨v, hv⟩ := h1.2.2 j hj
        rw [kI_of hv]; exact hv⟩
    · rw [if_neg h1] at hc
      by_cases h2 : kAr s cell .int
      · rw [if_pos h2] at hc
        cases hc
        exact Or.inr ⟨by rw [hD]; exact hlt, cell, kI cell, hcell, h2.1, h2.2.1, Nat.mod_le _ _, sz_back _, rfl, fun j hj => by
          obtain ⟨v, hv⟩ := h2.2.2 j hj
          rw [kI_of hv]; exact hv⟩
      · rw [if_neg h2] at hc
        by_cases h3 : ∃ va, kSt D cell va
        · rw [dif_pos h3] at hc
          cases hc
          obtain ⟨g1, g2, g3, g4⟩ := h3.choose_spec
          refine ⟨(RJ0, TJ0, 4), cell, rfl, hcell, g1, ⟨g2.1, g2.2, fun z => absurd hlt (by rw [hD] at z; omega)⟩, fun k v hv => ?_⟩
          match k, hv with
          | 0, hv => cases hv; exact ⟨by show 0 < 4; decide, g3⟩
          | 1, hv => cases hv; exact ⟨by show 1 < 4; decide, g4⟩
          | k + 2, hv => cases hv
        · rw [dif_neg h3] at hc
          cases hc
/-- an array's words, used -/
theorem a_T {args : Array Value} {tm : Term} {ty : FieldType} (hw : ∀ w ∈ aWs tm ty vs, w.before args s = true) (hN : vs.length < 2 ^ 31) : ∃ t, tm.eval args s none [] s = some (.ref t) ∧ va_T ty t vs.length (fun j => .int (nI (vs.getD j 0))) (fun _ => False) s s.heap := by
  refine va_Tof hN (hw _ List.mem_cons_self) (va_eqt (hw _ (List.mem_cons_of_mem _ List.mem_cons_self))) (fun j hj => va_eqt (hw _ (List.mem_cons_of_mem _ (List.mem_cons_of_mem _ (List.mem_map.mpr ⟨j, List.mem_range.mpr hj, rfl⟩))))) (fun _ _ h => h)
/-- a string's words, used -/
theorem s_T {args : Array Value} {own : String} {k : Nat} (hK : u_Kn s RJ0 TJ0 4 (D.1 0) (D.2 0)) (hw : ∀ w ∈ sWs own k vs, w.before args s = true) (hN : vs.length < 1000) (h128 : ∀ i, i < vs.length → vs.getD i 0 < 128) : ∃ a, (Term.string own k).eval args s none [] s = some (.ref a) ∧ ∀ n, mStr (n, kH D s) s.heap.size a vs := by
  obtain ⟨a, c, cell, kc, q1, q2, q3, q4, q5, q6, -⟩ := Cond.exactly_spec (args := args) (first := s) (o := none) (s := s) (idx := []) (hw _ List.mem_cons_self)
  obtain ⟨va, ht, hT⟩ := a_T (vs := vs) (fun w h => hw w (List.mem_cons_of_mem _ (List.mem_cons_of_mem _ h))) (by omega)
  obtain ⟨cf1, kf1, fi1, f1, cell1, e1, -, e3, e4, e5, -⟩ := vk_OFof (A := fun _ => False) q1 (va_eqt (hw _ (List.mem_cons_of_mem _ List.mem_cons_self))) (fun _ _ h => h)
  obtain ⟨cf2, kf2, fi2, f2, cell2, d1, -, d3, d4, d5, -⟩ := vk_OFof (A := fun _ => False) q1 ht (fun _ _ h => h)
  cases Option.some.inj (q3.symm.trans e3)
  cases Option.some.inj (q3.symm.trans d3)
  obtain ⟨cf, kf, fi, fd, w1, w2⟩ := hK.1 0 (by decide)
  obtain ⟨cg, kg, gi, gd, y1, y2⟩ := hK.1 1 (by decide)
  have s0 : cell.slots[D.2 0 0]? = some (.ref va) := by
    have := d1.symm.trans w1
    simp only [Option.some.injEq, Prod.mk.injEq] at this
    rw [← w2, ← this.2.2.2]
    exact d5
  have s1 : cell.slots[D.2 0 1]? = some (.int 0) := by
    have := e1.symm.trans y1
    simp only [Option.some.injEq, Prod.mk.injEq] at this
    rw [← y2, ← this.2.2.2]
    exact e5
  have hcls : cell.cls = D.1 0 := by
    rw [q6]
    exact Option.some.inj (q2.symm.trans hK.2.1)
  obtain ⟨hlt, f, hf, hfv⟩ := kH_b (D := D) hT (by omega)
  refine ⟨a, q1, fun n => ⟨va, f, [], (Array.getElem?_eq_some_iff.mp q3).1, hlt, kH_s hK q3 ⟨hcls, ⟨q5, e4⟩, s0, s1⟩, hf, hN, fun i hi => ⟨h128 i hi, hfv i hi⟩⟩⟩
end KH
