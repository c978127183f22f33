/-! THE TABLES ARE AS THE STATEMENT'S WORDS SAY -/
def tTs : List Cond := lw_tbl.filter goodWord
def tNest (w : Cond) : Bool := match w with
  | .fieldLinkNest .. => true
  | .methodLinkNest .. => true
  | _ => false
def tNs : List Cond := lw_tbl.filter tNest
/-- the word at that place of the tables -/
def kAt (n : Nat) (w : Cond) : Bool := decide (lw_tbl[n]? = some w) && goodWord w
def kNt (n : Nat) (w : Cond) : Bool := decide (lw_tbl[n]? = some w) && tNest w
theorem kAt_mem {n : Nat} {w : Cond} (h : kAt n w = true) : w ∈ tTs := by
  unfold kAt at h
  simp only [Bool.and_eq_true, decide_eq_true_eq] at h
  exact List.mem_filter.mpr ⟨List.mem_of_getElem? h.1, h.2⟩
theorem kNt_mem {n : Nat} {w : Cond} (h : kNt n w = true) : w ∈ tNs := by
  unfold kNt at h
  simp only [Bool.and_eq_true, decide_eq_true_eq] at h
  exact List.mem_filter.mpr ⟨List.mem_of_getElem? h.1, h.2⟩
theorem tGood : mGood tTs tNs := by
  refine ⟨fun w hw => good_of_word (List.mem_filter.mp hw).2, fun w hw => ?_⟩
  have h := (List.mem_filter.mp hw).2
  cases w <;> first | (cases h; done) | exact Or.inl ⟨_, _, _, _, _, _, rfl⟩ | exact Or.inr ⟨_, _, _, _, rfl⟩
theorem tFind {α : Type} {l : List α} {p : α → Bool} {f : α → Bool} (h : l.all f = true) {e : α} (he : l.find? p = some e) : f e = true ∧ p e = true := ⟨List.all_eq_true.mp h e (List.mem_of_find?_eq_some he), List.find?_some he⟩
/-- the fields -/
def tFchk (e : Nat × Nat × Nat × Nat × Nat) : Bool := match vwCl[e.2.2.1]? with
  | some q => decide (e.2.2.2.1 < q.2.2) && (kAt e.2.2.2.2 (.fieldLink (tN e.1) e.2.1 (q.2.1 e.2.2.2.1).1 (q.2.1 e.2.2.2.1).2.1 (q.2.1 e.2.2.2.1).2.2.1) && decide ((q.2.1 e.2.2.2.1).1 = q.1))
  | none => false
set_option maxRecDepth 100000 in
set_option maxHeartbeats 4000000 in
theorem tFall : tFl.all tFchk = true := by decide +kernel
theorem tF_ok : ∀ t i ci k, tF t i = some (ci, k) → mFok tTs tNs (tN t) i ci k := by
  intro t i ci k h
  unfold tF at h
  cases he : tFl.find? (fun e => e.1 == t && e.2.1 == i) with
  | none => rw [he] at h; cases h
  | some e =>
    rw [he] at h
    obtain ⟨h1, h2⟩ := tFind tFall he
    obtain ⟨t', i', ci', k', w⟩ := e
    simp only [Bool.and_eq_true, beq_iff_eq] at h2
    obtain ⟨rfl, rfl⟩ := h2
    cases h
    unfold tFchk at h1
    dsimp only at h1
    cases hq : vwCl[ci']? with
    | none => rw [hq] at h1; cases h1
    | some q =>
      rw [hq] at h1
      simp only [Bool.and_eq_true, decide_eq_true_eq] at h1
      exact ⟨q, hq, h1.1, Or.inl (kAt_mem h1.2.1), fun _ => ⟨h1.2.2, kAt_mem h1.2.1⟩⟩
/-- classes that are made -/
def tCchk (e : Nat × Nat × Nat × Nat × Nat × Nat) : Bool := match vwCl[e.2.2.1]? with
  | some q => kAt e.2.2.2.1 (.classLink (tN e.1) e.2.1 q.1) && (kAt e.2.2.2.2.1 (.instantiable q.1 q.2.2) && kAt e.2.2.2.2.2 (.initialized q.1))
  | none => false
set_option maxRecDepth 100000 in
theorem tCall : tNl.all tCchk = true := by decide +kernel
theorem tC_ok : ∀ t i ci, tC t i = some ci → ∃ q : vw_C, vwCl[ci]? = some q ∧ Cond.classLink (tN t) i q.1 ∈ tTs ∧ Cond.instantiable q.1 q.2.2 ∈ tTs ∧ Cond.initialized q.1 ∈ tTs := by
  intro t i ci h
  unfold tC at h
  cases he : tNl.find? (fun e => e.1 == t && e.2.1 == i) with
  | none => rw [he] at h; cases h
  | some e =>
    rw [he] at h
    obtain ⟨h1, h2⟩ := tFind tCall he
    obtain ⟨t', i', ci', w1, w2, w3⟩ := e
    simp only [Bool.and_eq_true, beq_iff_eq] at h2
    obtain ⟨rfl, rfl⟩ := h2
    cases h
    unfold tCchk at h1
    dsimp only at h1
    cases hq : vwCl[ci']? with
    | none => rw [hq] at h1; cases h1
    | some q =>
      rw [hq] at h1
      simp only [Bool.and_eq_true] at h1
      exact ⟨q, rfl, kAt_mem h1.1, kAt_mem h1.2.1, kAt_mem h1.2.2⟩
/-- constants -/
def tKchk (e : Nat × Nat × (Int32 ⊕ Int64 ⊕ Nat) × Nat) : Bool := match e.2.2.1 with
  | .inl x => kAt e.2.2.2 (.constant (tN e.1) e.2.1 x)
  | .inr (.inl x) => kAt e.2.2.2 (.constantLong (tN e.1) e.2.1 x)
  | .inr (.inr x) => match (tRs (fun _ => 0))[x]? with
    | some r => decide (r.1 = tN e.1) && decide (r.2.1 = e.2.1)
    | none => false
set_option maxRecDepth 100000 in
theorem tKall : tKl.all tKchk = true := by decide +kernel
theorem tRs_at (sa : Nat → Nat) (x : Nat) {r : String × Nat × String × Nat} (h : (tRs (fun _ => 0))[x]? = some r) : (tRs sa)[x]? = some (r.1, r.2.1, r.2.2.1, sa x) := by
  have hx : x < (tRs (fun _ => 0)).length := (List.getElem?_eq_some_iff.mp h).1
  have hn : (tRs (fun _ => 0)).length = 17 := rfl
  rw [hn] at hx
  match x, hx with
  | 0, _ => cases h; rfl
  | 1, _ => cases h; rfl
  | 2, _ => cases h; rfl
  | 3, _ => cases h; rfl
  | 4, _ => cases h; rfl
  | 5, _ => cases h; rfl
  | 6, _ => cases h; rfl
  | 7, _ => cases h; rfl
  | 8, _ => cases h; rfl
  | 9, _ => cases h; rfl
  | 10, _ => cases h; rfl
  | 11, _ => cases h; rfl
  | 12, _ => cases h; rfl
  | 13, _ => cases h; rfl
  | 14, _ => cases h; rfl
  | 15, _ => cases h; rfl
  | 16, _ => cases h; rfl
theorem tK_ok (sa : Nat → Nat) : ∀ t i v, tK sa t i = some v → mCok tTs (tRs sa) (tZs sa) (tN t) i v := by
  intro t i v h
  unfold tK at h
  cases he : tKl.find? (fun e => e.1 == t && e.2.1 == i) with
  | none => rw [he] at h; cases h
  | some e =>
    rw [he] at h
    obtain ⟨h1, h2⟩ := tFind tKall he
    obtain ⟨t', i', x, w⟩ := e
    simp only [Bool.and_eq_true, beq_iff_eq] at h2
    obtain ⟨rfl, rfl⟩ := h2
    cases h
    unfold tKchk at h1
    dsimp only at h1 ⊢
    obtain x | x | x := x
    · exact Or.inl ⟨x, rfl, kAt_mem h1⟩
    · exact Or.inr (Or.inl ⟨x, rfl, kAt_mem h1⟩)
    · dsimp only at h1 ⊢
      cases hr : (tRs (fun _ => 0))[x]? with
      | none => rw [hr] at h1; cases h1
      | some r =>
        rw [hr] at h1
        simp only [Bool.and_eq_true, decide_eq_true_eq] at h1
        refine Or.inr (Or.inr ⟨r.2.2.1, sa x, rfl, ?_⟩)
        have := List.mem_of_getElem? (tRs_at sa x hr)
        rw [h1.1, h1.2] at this
        exact this
/-- statics -/
def tZchk (e : Nat × Nat × Nat × Bool × Nat) : Bool := match (tZs (fun _ => 0))[e.2.2.1]? with
  | some z => if e.2.2.2.1 then kNt e.2.2.2.2 (.fieldLinkNest (tN e.1) e.2.1 z.1 z.2.1 z.2.2.1 "FlowDesk") else kAt e.2.2.2.2 (.fieldLink (tN e.1) e.2.1 z.1 z.2.1 z.2.2.1)
  | none => false
set_option maxRecDepth 100000 in
theorem tZall : tZl.all tZchk = true := by decide +kernel
theorem tZs_at (sa : Nat → Nat) (x : Nat) {r : String × String × String × Value} (h : (tZs (fun _ => 0))[x]? = some r) : ∃ v, (tZs sa)[x]? = some (r.1, r.2.1, r.2.2.1, v) := by
  have hx : x < (tZs (fun _ => 0)).length := (List.getElem?_eq_some_iff.mp h).1
  have hn : (tZs (fun _ => 0)).length = 4 := rfl
  rw [hn] at hx
  match x, hx with
  | 0, _ => cases h; exact ⟨_, rfl⟩
  | 1, _ => cases h; exact ⟨_, rfl⟩
  | 2, _ => cases h; exact ⟨_, rfl⟩
  | 3, _ => cases h; exact ⟨_, rfl⟩
theorem tZ_ok (sa : Nat → Nat) : ∀ t i v, tZ sa t i = some v → mZok tTs tNs (tZs sa) (tN t) i v := by
  intro t i v h
  unfold tZ at h
  cases he : tZl.find? (fun e => e.1 == t && e.2.1 == i) with
  | none => rw [he] at h; cases h
  | some e =>
    rw [he] at h
    obtain ⟨h1, h2⟩ := tFind tZall he
    obtain ⟨t', i', x, nb, w⟩ := e
    simp only [Bool.and_eq_true, beq_iff_eq] at h2
    obtain ⟨rfl, rfl⟩ := h2
    unfold tZchk at h1
    dsimp only at h1 h
    cases hz : (tZs (fun _ => 0))[x]? with
    | none => rw [hz] at h1; cases h1
    | some z =>
      rw [hz] at h1
      obtain ⟨v', hv⟩ := tZs_at sa x hz
      rw [hv] at h
      cases h
      refine ⟨z.1, z.2.1, z.2.2.1, List.mem_of_getElem? hv, ?_⟩
      dsimp only at h1
      cases nb with
      | true => exact Or.inr ⟨_, kNt_mem h1⟩
      | false => exact Or.inl (kAt_mem h1)
/-- the classes of vwCl -/
def tVchk (q : vw_C) : Bool := (u_ws q.1 q.2.1 q.2.2).all (fun w => decide (w ∈ lw_tbl) && goodWord w) && ((List.range q.2.2).all (fun k => (parseFieldDescriptor (q.2.1 k).2.2.1).isSome) && (List.range q.2.2).all (fun x => (List.range q.2.2).all (fun y => decide (x = y) || !decide ((q.2.1 x).2.1 = (q.2.1 y).2.1))))
set_option maxRecDepth 100000 in
set_option maxHeartbeats 4000000 in
theorem tVall : vwCl.all tVchk = true := by decide +kernel
theorem tV_ok : mVok tTs := by
  intro ci q hq
  have h := List.all_eq_true.mp tVall q (List.mem_of_getElem? hq)
  unfold tVchk at h
  simp only [Bool.and_eq_true, List.all_eq_true, decide_eq_true_eq, Bool.or_eq_true, Bool.not_eq_true', decide_eq_false_iff_not, List.mem_range] at h
  obtain ⟨h1, h2, h3⟩ := h
  refine ⟨fun w hw => List.mem_filter.mpr (h1 w hw), ⟨fun k => (parseFieldDescriptor (q.2.1 k).2.2.1).getD .int, fun k hk => ?_⟩, fun x hx y hy hne => ?_⟩
  · obtain ⟨t, ht⟩ := Option.isSome_iff_exists.mp (h2 k hk)
    dsimp only
    rw [ht]
    rfl
  · rcases h3 x hx y hy with e | e
    · exact absurd e hne
    · exact e
set_option maxRecDepth 100000 in
theorem tArr : (decide (Cond.arrayClass .byte ∈ tTs) && decide (Cond.arrayClass .boolean ∈ tTs) && decide (Cond.arrayClass .int ∈ tTs) && decide (Cond.arrayClass .long ∈ tTs) && decide (Cond.classLink (tN 3) 45 "[[I" ∈ tTs)) = true := by decide +kernel
theorem tPok (sa : Nat → Nat) : mPok (tP sa) tN tTs tNs (tRs sa) (tZs sa) := by
  have h := tArr
  simp only [Bool.and_eq_true, decide_eq_true_eq] at h
  exact ⟨tV_ok, tF_ok, tC_ok, tK_ok sa, tZ_ok sa, h.1.1.1.1, h.1.1.1.2, h.1.1.2, h.1.2, h.2⟩
