/-! WHAT STANDS BEHIND THE CONSTRUCTORS -/
def T0D (sz ns : Nat) : gT := (fun k => match k with | 0 => (fun i => if i = 2 then 2 else if i = 3 then 21 else 0) | _ => (fun _ => 0), fun _ _ => 0, sz, ns)
def T0M (sz ns : Nat) : gT := (fun _ _ => 0, fun _ _ => 0, sz, ns)
def A0 : aSt := (fun _ => 0, 0, none, rn0)
theorem vI_0 {T : gT} {k i : Nat} (h : T.1 k i = 0) : vI T k i = 0 := by unfold vI; rw [h]; rfl
theorem sb_0 : sb_b 0 = 0 := by decide
theorem t0D_A {sz ns : Nat} : cA (T0D sz ns) A0 := by
  refine ⟨2, ⟨fun i _ => ⟨by show 0 < 256; decide, ?_⟩, vI_0 rfl, by show 0 ≤ 400; decide⟩, Or.inl rfl, ?_, ?_, ⟨vI_0 rfl, vI_0 rfl, vI_0 rfl⟩, vI_0 rfl, by show 0 ≤ 2000; decide, rfl, fun l _ => rfl⟩
  · show (0 : Int32) = sb_b 0; rw [sb_0]
  · show ((2 : Int32)).toInt = _; decide
  · show ((21 : Int32)).toInt = _; decide
theorem t0M_A {sz ns : Nat} : rA (T0M sz ns) A0 := by
  refine ⟨⟨fun i _ => ⟨by show 0 < 256; decide, ?_⟩, vI_0 rfl, by show 0 ≤ 400; decide⟩, Or.inl (vI_0 rfl), vI_0 rfl, vI_0 rfl, by show 0 ≤ 2000; decide, Or.inr ⟨vI_0 rfl, rfl⟩⟩
  show (0 : Int32) = sb_b 0; rw [sb_0]
theorem okA_0 : okA A0 := rfl
def csD (b : Nat) : List mC := .inr (8, fF_X6 b 1) :: fA_X6 b 1
def csM (b : Nat) : List mC := .inr (9, fF_X7 b 66) :: fA_X7 b 66
theorem csD_len {b : Nat} : (csD b).length = 65 := rfl
theorem csM_len {b : Nat} : (csM b).length = 29 := rfl
set_option maxRecDepth 8000 in
theorem lay_D {b sz ns k : Nat} {d : mDs} (h : lD[k]? = some d) : (csD b)[k]? = some (mCe b ((T0D sz ns).1 k) ((T0D sz ns).2.1 k) d) := by
  have hk : k < 65 := (List.getElem?_eq_some_iff.mp h).1
  have e : csD b = lD.mapIdx (fun k d => mCe b ((T0D sz ns).1 k) ((T0D sz ns).2.1 k) d) := rfl
  rw [e, List.getElem?_mapIdx, h]
  rfl
set_option maxRecDepth 8000 in
theorem lay_M {b sz ns k : Nat} {d : mDs} (h : lM[k]? = some d) : (csM b)[k]? = some (mCe (b + 65) ((T0M sz ns).1 k) ((T0M sz ns).2.1 k) d) := by
  have e : csM b = lM.mapIdx (fun k d => mCe (b + 65) ((T0M sz ns).1 k) ((T0M sz ns).2.1 k) d) := rfl
  rw [e, List.getElem?_mapIdx, h]
  rfl
/-- the whole heap is known: a layout in it -/
theorem gH_all {lay : List mDs} {b sz ns : Nat} {T : gT} {h : mH} (hsz : T.2.2 = (sz, ns)) (hl : ∀ (k : Nat) (d : mDs), lay[k]? = some d → h (b + k) = some (mCe b (T.1 k) (T.2.1 k) d)) (hlen : b + lay.length ≤ sz) : gH lay b (sz, h) T h := ⟨hl, fun _ _ => rfl, hlen, by rw [hsz]; exact Nat.le_refl _⟩
/-- .. and stays, where nothing of it is written -/
theorem gH_keep {lay : List mDs} {b sz : Nat} {T : gT} {h h2 : mH} {E : Nat × mH} {sz2 ns2 : Nat} (hg : gH lay b E T h) (he : b + lay.length ≤ sz) (hs : sz ≤ sz2) (hk : ∀ a, a < sz → (b ≤ a ∧ a < b + lay.length) → h2 a = h a) : gH lay b (sz2, h2) (T.1, T.2.1, sz2, ns2) h2 := by
  refine ⟨fun k d hkd => ?_, fun _ _ => rfl, by dsimp only; omega, Nat.le_refl _⟩
  have hlt : k < lay.length := (List.getElem?_eq_some_iff.mp hkd).1
  rw [hk (b + k) (by omega) ⟨by omega, by omega⟩]
  exact hg.1 k d hkd
