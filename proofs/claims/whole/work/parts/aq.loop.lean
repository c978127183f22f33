/-! THE LAW'S LOOP; the case of type is a hypothesis here (.._open) -/
theorem and31 (x : Int32) : ∃ k : Nat, k < 32 ∧ (x &&& nI 31).toInt = (k : Int) := by
  have h : (x &&& nI 31).toBitVec.toNat ≤ 31 := by
    rw [Int32.toBitVec_and, BitVec.toNat_and]
    exact Nat.and_le_right
  refine ⟨(x &&& nI 31).toBitVec.toNat, by omega, ?_⟩
  rw [← Int32.toInt_toBitVec, BitVec.toInt_eq_toNat_of_lt (by omega)]
section O4
variable {p : Program} {l : Launch} {e : Env} {s : State} {m : MethodId} {below : List Frame} {meth : Method} {c : Code} {Q : State → Prop} {D : va_G} {bs Ls : Nat} {xs : Nat → Int32} {sa : Nat → Nat}
def oTy (p : Program) (l : Launch) (e : Env) (s : State) (m : MethodId) (below : List Frame) (meth : Method) (c : Code) (Q : State → Prop) (D : va_G) (bs Ls : Nat) (sa : Nat → Nat) : Prop := ∀ (S : mS) (A : aSt) (x : Int64) (i : Nat) (v5 v6 : Option Value), oI sa s.heap.size S A x → S.2.1 + 400 - s.heap.size ≤ 601024 ∧ S.2.2 + 1000 ≤ 7293034 → i + 3 < Ls → okL v5 → okL v6 → (∀ S2 A2 x2 w5 w6, oI sa s.heap.size S2 A2 x2 → S2.2.1 ≤ S.2.1 + 400 ∧ S2.2.2 ≤ S.2.2 + 1000 → okL w5 → okL w6 → oW p l e s m below meth c Q D bs 613 (lwL bs s.heap.size i w5 w6) [] S2) → oW p l e s m below meth c Q D bs 120 (lwL bs s.heap.size i v5 v6) [] S
theorem o_loop_open (C : oC p s m c bs Ls xs D sa) (hL : Ls ≤ 2048) (hTy : oTy p l e s m below meth c Q D bs Ls sa) (hEnd : ∀ S L, oR s S → oW p l e s m below meth c Q D bs 619 L [] S) :
    ∀ (n j : Nat), Ls < 4 * (j + n) + 4 → ∀ (S : mS) (A : aSt) (x : Int64) (v5 v6 : Option Value), oI sa s.heap.size S A x → S.2.1 ≤ s.heap.size + 95 + 400 * j → S.2.2 ≤ 70000 + 1000 * j → j ≤ 512 → okL v5 → okL v6 → oW p l e s m below meth c Q D bs 23 (lwL bs s.heap.size (4 * j) v5 v6) [] S := by
  intro n
  induction n with
  | zero =>
    intro j hj S A x v5 v6 hI h1 h2 h3 h5 h6
    have hR : oR s S := ⟨by omega, by omega⟩
    refine o_pure C hR dL_23 (Or.inr rfl) (fun S => rfl) ?_
    refine o_pure C hR dL_25 (Or.inr rfl) (fun S => rfl) ?_
    refine o_slen C dL_26 ?_
    refine o_pure C hR dL_27 (Or.inr rfl) (fun S => rfl) ?_
    refine o_pure C hR dL_28 (Or.inr rfl) (fun S => rfl) ?_
    refine o_pure C hR dL_29 (Or.inr rfl) (pc' := 619) (L' := lwL bs s.heap.size (4 * j) v5 v6) (st' := []) (fun S => ?_) (hEnd S _ hR)
    have hlt : nI Ls - Int32.ofInt 4 < nI (4 * j) := by
      rw [zI_nat, zI_nat, show Int32.ofInt 4 = zI 4 from rfl, zI_sub, zI_lt (by omega) (by omega)]
      omega
    simp only [mStep, show mTg 29 590 = some 619 from rfl, mCmp, hlt, decide_true, if_true]
  | succ n ih =>
    intro j hj S A x v5 v6 hI h1 h2 h3 h5 h6
    have hR : oR s S := ⟨by omega, by omega⟩
    refine o_pure C hR dL_23 (Or.inr rfl) (fun S => rfl) ?_
    refine o_pure C hR dL_25 (Or.inr rfl) (fun S => rfl) ?_
    refine o_slen C dL_26 ?_
    refine o_pure C hR dL_27 (Or.inr rfl) (fun S => rfl) ?_
    refine o_pure C hR dL_28 (Or.inr rfl) (fun S => rfl) ?_
    by_cases hx : Ls < 4 * j + 4
    · refine o_pure C hR dL_29 (Or.inr rfl) (pc' := 619) (L' := lwL bs s.heap.size (4 * j) v5 v6) (st' := []) (fun S => ?_) (hEnd S _ hR)
      have hlt : nI Ls - Int32.ofInt 4 < nI (4 * j) := by
        rw [zI_nat, zI_nat, show Int32.ofInt 4 = zI 4 from rfl, zI_sub, zI_lt (by omega) (by omega)]
        omega
      simp only [mStep, show mTg 29 590 = some 619 from rfl, mCmp, hlt, decide_true, if_true]
    · refine o_pure C hR dL_29 (Or.inr rfl) (pc' := 32) (L' := lwL bs s.heap.size (4 * j) v5 v6) (st' := []) (fun S => ?_) ?_
      · have hlt : ¬ nI Ls - Int32.ofInt 4 < nI (4 * j) := by
          rw [zI_nat, zI_nat, show Int32.ofInt 4 = zI 4 from rfl, zI_sub, zI_lt (by omega) (by omega)]
          omega
        simp only [mStep, show mTg 29 590 = some 619 from rfl, mCmp, hlt, decide_false, Bool.false_eq_true, if_false]
      refine o_pure C hR dL_32 (Or.inr rfl) (fun S => rfl) ?_
      refine o_pure C hR dL_33 (Or.inr rfl) (fun S => rfl) ?_
      refine o_sld C (n := 4 * j) dL_35 rfl (by omega) (by omega) ?_
      refine o_pure C hR dL_36 (Or.inr rfl) (pc' := 38) (L' := lwL bs s.heap.size (4 * j) v5 v6) (st' := [.int (nI 31), .int (xs (4 * j))]) (fun S => rfl) ?_
      refine o_pure C hR dL_38 (Or.inr rfl) (pc' := 39) (L' := lwL bs s.heap.size (4 * j) v5 v6) (st' := [.int (xs (4 * j) &&& nI 31)]) (fun S => rfl) ?_
      obtain ⟨k, hk, ek⟩ := and31 (xs (4 * j))
      have room : S.2.1 + 400 - s.heap.size ≤ 601024 ∧ S.2.2 + 1000 ≤ 7293034 := ⟨by omega, by omega⟩
      -- on to the next four
      have nxt : ∀ S2 A2 x2 w5 w6, oI sa s.heap.size S2 A2 x2 → S2.2.1 ≤ S.2.1 + 400 ∧ S2.2.2 ≤ S.2.2 + 1000 → okL w5 → okL w6 → oW p l e s m below meth c Q D bs 613 (lwL bs s.heap.size (4 * j) w5 w6) [] S2 := by
        intro S2 A2 x2 w5 w6 hI2 g hw5 hw6
        have hR2 : oR s S2 := ⟨by omega, by omega⟩
        refine o_pure C hR2 dL_613 (Or.inr rfl) (pc' := 616) (L' := lwL bs s.heap.size (4 * (j + 1)) w5 w6) (st' := []) (fun S => ?_) ?_
        · show some (616, [some (.ref bs), some (.ref s.heap.size), some (.ref (s.heap.size + 65)), some (.ref (s.heap.size + 94)), some (.int (nI (4 * j) + nI 4)), w5, w6], [], S) = _
          rw [nI_plus]
          rfl
        refine o_pure C hR2 dL_616 (Or.inr rfl) (pc' := 23) (L' := lwL bs s.heap.size (4 * (j + 1)) w5 w6) (st' := []) (fun S => rfl) ?_
        exact ih (j + 1) (by omega) S2 A2 x2 w5 w6 hI2 (by omega) (by omega) (by omega) hw5 hw6
      rcases (show k = 0 ∨ k = 1 ∨ k = 2 ∨ k = 3 ∨ k = 4 ∨ k = 5 ∨ k = 6 ∨ k = 7 ∨ k = 8 ∨ k = 9 ∨ k = 10 ∨ k = 11 ∨ k = 12 ∨ k = 13 ∨ k = 14 ∨ k = 15 ∨ k = 16 ∨ 16 < k by omega) with rfl | rfl | rfl | rfl | rfl | rfl | rfl | rfl | rfl | rfl | rfl | rfl | rfl | rfl | rfl | rfl | rfl | hk16
      · refine o_pure C hR dL_39 (Or.inl rfl) (pc' := 120) (L' := lwL bs s.heap.size (4 * j) v5 v6) (st' := []) (fun S => by simp only [mStep, ek]; rfl) ?_
        exact hTy S A x (4 * j) v5 v6 hI room (by omega) h5 h6 nxt
      · refine o_pure C hR dL_39 (Or.inl rfl) (pc' := 220) (L' := lwL bs s.heap.size (4 * j) v5 v6) (st' := []) (fun S => by simp only [mStep, ek]; rfl) ?_
        exact o_c1 C hI room (by omega) hL (fun S2 A2 hI2 g => nxt S2 A2 x v5 v6 hI2 g h5 h6)
      · refine o_pure C hR dL_39 (Or.inl rfl) (pc' := 233) (L' := lwL bs s.heap.size (4 * j) v5 v6) (st' := []) (fun S => by simp only [mStep, ek]; rfl) ?_
        exact o_c2 C hI room (by omega) hL (fun S2 A2 hI2 g => nxt S2 A2 x v5 v6 hI2 g h5 h6)
      · refine o_pure C hR dL_39 (Or.inl rfl) (pc' := 246) (L' := lwL bs s.heap.size (4 * j) v5 v6) (st' := []) (fun S => by simp only [mStep, ek]; rfl) ?_
        exact o_c3 C hI room (by omega) hL (fun S2 A2 hI2 g => nxt S2 A2 x v5 v6 hI2 g h5 h6)
      · refine o_pure C hR dL_39 (Or.inl rfl) (pc' := 271) (L' := lwL bs s.heap.size (4 * j) v5 v6) (st' := []) (fun S => by simp only [mStep, ek]; rfl) ?_
        exact o_c4 C hI room (by omega) hL (fun S2 A2 hI2 g => nxt S2 A2 x v5 v6 hI2 g h5 h6)
      · refine o_pure C hR dL_39 (Or.inl rfl) (pc' := 308) (L' := lwL bs s.heap.size (4 * j) v5 v6) (st' := []) (fun S => by simp only [mStep, ek]; rfl) ?_
        exact o_c5 C hI room (by omega) hL (fun S2 A2 hI2 g => nxt S2 A2 x v5 v6 hI2 g h5 h6)
      · refine o_pure C hR dL_39 (Or.inl rfl) (pc' := 334) (L' := lwL bs s.heap.size (4 * j) v5 v6) (st' := []) (fun S => by simp only [mStep, ek]; rfl) ?_
        exact o_c6 C hI room (by omega) hL (fun S2 A2 hI2 g => nxt S2 A2 x v5 v6 hI2 g h5 h6)
      · refine o_pure C hR dL_39 (Or.inl rfl) (pc' := 360) (L' := lwL bs s.heap.size (4 * j) v5 v6) (st' := []) (fun S => by simp only [mStep, ek]; rfl) ?_
        exact o_c7 C hI room (by omega) hL (fun S2 A2 hI2 g => nxt S2 A2 x v5 v6 hI2 g h5 h6)
      · refine o_pure C hR dL_39 (Or.inl rfl) (pc' := 397) (L' := lwL bs s.heap.size (4 * j) v5 v6) (st' := []) (fun S => by simp only [mStep, ek]; rfl) ?_
        exact o_c8 C hI room (by omega) hL (fun S2 A2 hI2 g => nxt S2 A2 x v5 v6 hI2 g h5 h6)
      · refine o_pure C hR dL_39 (Or.inl rfl) (pc' := 434) (L' := lwL bs s.heap.size (4 * j) v5 v6) (st' := []) (fun S => by simp only [mStep, ek]; rfl) ?_
        exact o_c9 C hI room (by omega) hL (fun S2 A2 hI2 g => nxt S2 A2 x v5 v6 hI2 g h5 h6)
      · refine o_pure C hR dL_39 (Or.inl rfl) (pc' := 459) (L' := lwL bs s.heap.size (4 * j) v5 v6) (st' := []) (fun S => by simp only [mStep, ek]; rfl) ?_
        exact o_c10 C hI room (by omega) hL (fun S2 A2 hI2 g => nxt S2 A2 x v5 v6 hI2 g h5 h6)
      · refine o_pure C hR dL_39 (Or.inl rfl) (pc' := 484) (L' := lwL bs s.heap.size (4 * j) v5 v6) (st' := []) (fun S => by simp only [mStep, ek]; rfl) ?_
        exact o_c11 C hI room (by omega) hL (fun S2 A2 hI2 g => nxt S2 A2 x v5 v6 hI2 g h5 h6)
      · refine o_pure C hR dL_39 (Or.inl rfl) (pc' := 498) (L' := lwL bs s.heap.size (4 * j) v5 v6) (st' := []) (fun S => by simp only [mStep, ek]; rfl) ?_
        exact o_c12 C hI room (by omega) hL (fun S2 A2 hI2 g => nxt S2 A2 x v5 v6 hI2 g h5 h6)
      · refine o_pure C hR dL_39 (Or.inl rfl) (pc' := 524) (L' := lwL bs s.heap.size (4 * j) v5 v6) (st' := []) (fun S => by simp only [mStep, ek]; rfl) ?_
        exact o_c13 C hI room (by omega) hL (fun S2 A2 hI2 g => nxt S2 A2 x v5 v6 hI2 g h5 h6)
      · refine o_pure C hR dL_39 (Or.inl rfl) (pc' := 549) (L' := lwL bs s.heap.size (4 * j) v5 v6) (st' := []) (fun S => by simp only [mStep, ek]; rfl) ?_
        exact o_c14 C hI room (by omega) hL (fun S2 A2 hI2 g => nxt S2 A2 x v5 v6 hI2 g h5 h6)
      · refine o_pure C hR dL_39 (Or.inl rfl) (pc' := 574) (L' := lwL bs s.heap.size (4 * j) v5 v6) (st' := []) (fun S => by simp only [mStep, ek]; rfl) ?_
        exact o_c15 C hI room (by omega) hL (fun S2 A2 hI2 g => nxt S2 A2 x v5 v6 hI2 g h5 h6)
      · refine o_pure C hR dL_39 (Or.inl rfl) (pc' := 587) (L' := lwL bs s.heap.size (4 * j) v5 v6) (st' := []) (fun S => by simp only [mStep, ek]; rfl) ?_
        exact o_c16 C hI room (by omega) hL (fun S2 A2 hI2 g => nxt S2 A2 x v5 v6 hI2 g h5 h6)
      · refine o_pure C hR dL_39 (Or.inl rfl) (pc' := 613) (L' := lwL bs s.heap.size (4 * j) v5 v6) (st' := []) (fun S => ?_) (nxt S A x v5 v6 hI ⟨by omega, by omega⟩ h5 h6)
        simp only [mStep, ek]
        rw [if_pos (Or.inr (by omega))]
        rfl
end O4
