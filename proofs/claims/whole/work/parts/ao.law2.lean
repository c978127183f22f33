/-! THE LAW'S BODY: one call of the desk beside one of the model -/
def lwL (bs b i : Nat) (v5 v6 : Option Value) : mL := [some (.ref bs), some (.ref b), some (.ref (b + 65)), some (.ref (b + 94)), some (.int (nI i)), v5, v6]
def oI (sa : Nat → Nat) (b : Nat) (S : mS) (A : aSt) (x : Int64) : Prop := okA A ∧ jK sa b S x ∧ jD b S A ∧ jM b S A
theorem nI_plus (i j : Nat) : nI i + nI j = nI (i + j) := by
  rw [zI_nat, zI_nat, zI_nat, zI_add]
  congr 1
theorem cmp_self (x : Int64) : lg_cmp x x = 0 := by
  unfold lg_cmp
  simp
/-- a virtual call may be made -/
theorem may_V {M' : mM} {L : mL} {S : mS} {a : Nat} {r rest fs : List Value} (hn : (Value.ref a :: r).length = mNa M') (hL : L.length = 7) (hw : mWide rest = true) (ha : (mArg (Value.ref a :: r)).length ≤ mMax M') (h20 : mMax M' ≤ 20) (hk : S.1 a = some (.inr (mCi M', fs))) : mMay 0 M_L M' L ((Value.ref a :: r).reverse ++ rest) S = true := by
  have e1 : ((((Value.ref a :: r).reverse ++ rest).take (mNa M'))).reverse = Value.ref a :: r := by
    rw [← hn, ← List.length_reverse, List.take_left, List.reverse_reverse]
  have e2 : ((Value.ref a :: r).reverse ++ rest).drop (mNa M') = rest := by
    rw [← hn, ← List.length_reverse, List.drop_left]
  unfold mMay
  rw [e1, e2]
  simp only [Bool.and_eq_true, decide_eq_true_eq, Bool.or_eq_true, beq_iff_eq]
  refine ⟨⟨⟨⟨⟨?_, hL⟩, hw⟩, ha⟩, h20⟩, ?_⟩
  · rw [← hn, List.length_append, List.length_reverse]; omega
  · refine Or.inr ?_
    rw [if_pos trivial]
    unfold mRcv
    dsimp only
    rw [hk]
    simp
theorem jD.cell {b : Nat} {S : mS} {A : aSt} (h : jD b S A) : ∃ fs, S.1 (b + 0) = some (.inr (8, fs)) := by
  obtain ⟨T, hg, _⟩ := h
  exact ⟨_, hg.1 0 _ lD_0⟩
theorem jM.cell {b : Nat} {S : mS} {A : aSt} (h : jM b S A) : ∃ fs, S.1 (b + 65 + 0) = some (.inr (9, fs)) := by
  obtain ⟨T, hg, _⟩ := h
  exact ⟨_, hg.1 0 _ lM_0⟩
section O2
variable {p : Program} {l : Launch} {e : Env} {s : State} {m : MethodId} {below : List Frame} {meth : Method} {c : Code} {Q : State → Prop} {D : va_G} {bs Ls : Nat} {xs : Nat → Int32} {sa : Nat → Nat} {pc : Nat} {L : mL} {st : List Value} {S : mS} {i : Nat} {v5 v6 : Option Value} {A A' : aSt} {x : Int64}
/-- a number of the script is pushed -/
theorem o_arg (C : oC p s m c bs Ls xs D sa) (hR : oR s S) {j pc1 pc3 pc4 pc5 pc6 : Nat} {b : Nat} (h0 : decode code pc = .ok (.aload_n 0, 1)) (h1 : decode code pc1 = .ok (.iload 4, 2)) (h2 : decode code pc3 = .ok (.iconst (j : Int), 1)) (h3 : decode code pc4 = .ok (.iadd, 1)) (h4 : decode code pc5 = .ok (.iaload, 1)) (hp : pc1 = pc + 1 ∧ pc3 = pc1 + 2 ∧ pc4 = pc3 + 1 ∧ pc5 = pc4 + 1 ∧ pc6 = pc5 + 1) (hi : i + j < Ls) (hL : Ls ≤ 2048) (k : oW p l e s m below meth c Q D bs pc6 (lwL bs b i v5 v6) (.int (xs (i + j)) :: st) S) : oW p l e s m below meth c Q D bs pc (lwL bs b i v5 v6) st S := by
  obtain ⟨rfl, rfl, rfl, rfl, rfl⟩ := hp
  refine o_pure C hR h0 (Or.inr rfl) (fun S => rfl) ?_
  refine o_pure C hR h1 (Or.inr rfl) (fun S => rfl) ?_
  refine o_pure C hR h2 (Or.inr rfl) (fun S => rfl) ?_
  refine o_pure C hR h3 (Or.inr rfl) (fun S => rfl) ?_
  exact o_sld C (n := i + j) h4 (nI_plus i j) hi (by omega) k
theorem o_desk (C : oC p s m c bs Ls xs D sa) (hR : oR s S) {k9 q : Nat} {M6 : mM} {as rest : List Value} {r : Value} (hL : L.length = 7) (hd : decode code pc = .ok (.invokevirtual k9, 3)) (hc : tG 8 k9 = some (0, .inl q)) (hm : tM q = some M6) (hn : as.length + 1 = mNa M6) (hci : mCi M6 = 8) (hmx : (mArg (Value.ref (s.heap.size + 0) :: as)).length ≤ mMax M6 ∧ mMax M6 ≤ 20) (hw : mWide rest = true) (hst : st = (Value.ref (s.heap.size + 0) :: as).reverse ++ rest) (hD : jD s.heap.size S A)
    (hrun : mCW (tP sa) s.heap.size 1000 M6 (.ref (s.heap.size + 0) :: as) S (fun r1 S1 => r1 = some r ∧ S1.2 = S.2 ∧ jK sa s.heap.size S1 x ∧ jD s.heap.size S1 A' ∧ jM s.heap.size S1 A)) (k : ∀ S1, oR s S1 → S1.2 = S.2 → jK sa s.heap.size S1 x → jD s.heap.size S1 A' → jM s.heap.size S1 A → oW p l e s m below meth c Q D bs (pc + 3) L (r :: rest) S1) : oW p l e s m below meth c Q D bs pc L st S := by
  obtain ⟨fs, hf⟩ := hD.cell
  subst hst
  refine o_call C (kd := 0) hd hc hm rfl hn (may_V hn hL hw hmx.1 hmx.2 (fs := fs) (by rw [hci]; exact hf)) hrun (by decide) (by decide) (fun r1 S1 h => ?_)
  obtain ⟨rfl, e1, h1, h2, h3⟩ := h
  have hR1 : oR s S1 := by unfold oR at hR ⊢; rw [e1]; exact hR
  exact ⟨hR1, k S1 hR1 e1 h1 h2 h3⟩
theorem o_model (C : oC p s m c bs Ls xs D sa) {k9 q : Nat} {M7 : mM} {as rest : List Value} {r : Value} (hL : L.length = 7) (hR : S.2.1 + 400 - s.heap.size ≤ 601024 ∧ S.2.2 + 1000 ≤ 7293034) (hd : decode code pc = .ok (.invokevirtual k9, 3)) (hc : tG 8 k9 = some (0, .inl q)) (hm : tM q = some M7) (hn : as.length + 1 = mNa M7) (hci : mCi M7 = 9) (hmx : (mArg (Value.ref (s.heap.size + 65 + 0) :: as)).length ≤ mMax M7 ∧ mMax M7 ≤ 20) (hw : mWide rest = true) (hst : st = (Value.ref (s.heap.size + 65 + 0) :: as).reverse ++ rest) (hM : jM s.heap.size S A)
    (hrun : mCW (tP sa) s.heap.size 1000 M7 (.ref (s.heap.size + 65 + 0) :: as) S (fun r2 S2 => r2 = some r ∧ (S.2.1 ≤ S2.2.1 ∧ S2.2.1 ≤ S.2.1 + 400) ∧ (S.2.2 ≤ S2.2.2 ∧ S2.2.2 ≤ S.2.2 + 1000) ∧ jK sa s.heap.size S2 x ∧ jD s.heap.size S2 A' ∧ jM s.heap.size S2 A')) (k : ∀ S2, oR s S2 → (S2.2.1 ≤ S.2.1 + 400 ∧ S2.2.2 ≤ S.2.2 + 1000) → jK sa s.heap.size S2 x → jD s.heap.size S2 A' → jM s.heap.size S2 A' → oW p l e s m below meth c Q D bs (pc + 3) L (r :: rest) S2) : oW p l e s m below meth c Q D bs pc L st S := by
  obtain ⟨fs, hf⟩ := hM.cell
  subst hst
  refine o_call C (kd := 0) hd hc hm rfl hn (may_V hn hL hw hmx.1 hmx.2 (fs := fs) (by rw [hci]; exact hf)) hrun (by decide) (by decide) (fun r1 S1 h => ?_)
  obtain ⟨rfl, e1, e2, h1, h2, h3⟩ := h
  have hR1 : oR s S1 := ⟨by omega, by omega⟩
  exact ⟨hR1, k S1 hR1 ⟨e1.2, e2.2⟩ h1 h2 h3⟩
/-- equal ints: on to 613 -/
theorem o_eqI (C : oC p s m c bs Ls xs D sa) (hR : oR s S) {v : Int32} {off : Int} (hd : decode code pc = .ok (.if_icmp .eq off, 3)) (ht : mTg pc off = some 613) (k : oW p l e s m below meth c Q D bs 613 L st S) : oW p l e s m below meth c Q D bs pc L (.int v :: .int v :: st) S := by
  refine o_pure C hR hd (Or.inr rfl) (pc' := 613) (L' := L) (st' := st) (fun S => ?_) k
  simp only [mStep, ht, mCmp, decide_true, if_true]
theorem o_eqJ (C : oC p s m c bs Ls xs D sa) (hR : oR s S) {v : Int64} {off : Int} {pc1 : Nat} (hp : pc1 = pc + 1) (hd : decode code pc = .ok (.lcmp, 1)) (hd2 : decode code pc1 = .ok (.ifCond .eq off, 3)) (ht : mTg pc1 off = some 613) (k : oW p l e s m below meth c Q D bs 613 L st S) : oW p l e s m below meth c Q D bs pc L (.long v :: .long v :: st) S := by
  subst hp
  refine o_pure C hR hd (Or.inr rfl) (pc' := pc + 1) (L' := L) (st' := .int (lg_cmp v v) :: st) (fun S => rfl) ?_
  rw [cmp_self]
  refine o_pure C hR hd2 (Or.inr rfl) (pc' := 613) (L' := L) (st' := st) (fun S => ?_) k
  simp only [mStep, ht, mCmp, decide_true, if_true]
end O2
