/-! WHAT STANDS BEHIND THE CONSTRUCTORS -/
def T0D (sz ns : Nat) : gT := (fun k => match k with | 0 => (fun i => if i = 2 then 2 else if i = 3 then 21 else 0) | _ => (fun _ => 0), fun _ _ => 0, sz, ns)
def T0M (sz ns : Nat) : gT := (fun _ _ => 0, fun _ _ => 0, sz, ns)
def A0 : aSt := (fun _ => 0, 0, none, rn0)
theorem vI_0 {T : gT} {k i : Nat} (h : T.1 k i = 0) : vI T k i = 0 := by unfold vI; rw [h]; rfl
theorem sb_0 : sb_b 0 = 0 := by decide
theorem t0D_A {sz ns : Nat} : cA (T0D sz ns) A0 := by
  refine ⟨2, ⟨fun i _ => ⟨by show 0 < 256; decide, ?_⟩, vI_0 rfl, by show 0 ≤ 400; decide⟩, Or.inl rfl, ?_, ?_, ⟨vI_0 rfl, vI_0 rfl, vI_0 rfl⟩, vI_0 rfl, by show 0 ≤ 2000; decide, rfl, fun l _ => rfl⟩
  · show (0 : Int32) = sb_b 0; rw [sb_0]
  · show ((2 : Int32)).toInt = _; decide
  · show ((21 : Int32)).toInt = _; decide
theorem t0M_A {sz ns : Nat} : rA (T0M sz ns) A0 := by
  refine ⟨⟨fun i _ => ⟨by show 0 < 256; decide, ?_⟩, vI_0 rfl, by show 0 ≤ 400; decide⟩, Or.inl (vI_0 rfl), vI_0 rfl, vI_0 rfl, by show 0 ≤ 2000; decide, Or.inr ⟨vI_0 rfl, rfl⟩⟩
  show (0 : Int32) = sb_b 0; rw [sb_0]
theorem okA_0 : okA A0 := rfl
def csD (b : Nat) : List mC := .inr (8, fF_X6 b 1) :: fA_X6 b 1
def csM (b : Nat) : List mC := .inr (9, fF_X7 b 66) :: fA_X7 b 66
theorem csD_len {b : Nat} : (csD b).length = 65 := rfl
theorem csM_len {b : Nat} : (csM b).length = 29 := rfl
