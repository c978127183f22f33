/-! THE SAME CALL OF THE DESK AND OF THE MODEL -/
def jP (sa : Nat → Nat) (M6 M7 : mM) (as : List Value) (A : aSt) (r : Value) (A' : aSt) : Prop := ∀ (b : Nat) (x : Int64), (∀ S : mS, jK sa b S x → jD b S A → jM b S A → mCW (tP sa) b 1000 M6 (.ref (b + 0) :: as) S (fun r1 S1 => r1 = some r ∧ S1.2 = S.2 ∧ jK sa b S1 x ∧ jD b S1 A' ∧ jM b S1 A)) ∧ ∀ S : mS, jK sa b S x → jD b S A' → jM b S A → mCW (tP sa) b 1000 M7 (.ref (b + 65 + 0) :: as) S (fun r2 S2 => r2 = some r ∧ (S.2.1 ≤ S2.2.1 ∧ S2.2.1 ≤ S.2.1 + 400) ∧ (S.2.2 ≤ S2.2.2 ∧ S2.2.2 ≤ S.2.2 + 1000) ∧ jK sa b S2 x ∧ jD b S2 A' ∧ jM b S2 A')
section PR
variable {sa : Nat → Nat} {A : aSt}
theorem qI_q {T : gT} {v : Int} {A' : aSt} {r : Option Value} {T' : gT} (h : qI T v A' r T') : r = some (.int (zI v)) ∧ (T.2.2.1 ≤ T'.2.2.1 ∧ T'.2.2.1 ≤ T.2.2.1 + 400) ∧ (T.2.2.2 ≤ T'.2.2.2 ∧ T'.2.2.2 ≤ T.2.2.2 + 1000) ∧ rA T' A' := ⟨h.1, by rw [h.2.1]; omega, by rw [h.2.1]; omega, h.2.2⟩
theorem qJ_q {T : gT} {v : Int64} {A' : aSt} {r : Option Value} {T' : gT} (h : qJ T v A' r T') : r = some (.long v) ∧ (T.2.2.1 ≤ T'.2.2.1 ∧ T'.2.2.1 ≤ T.2.2.1 + 400) ∧ (T.2.2.2 ≤ T'.2.2.2 ∧ T'.2.2.2 ≤ T.2.2.2 + 1000) ∧ rA T' A' := ⟨h.1, by rw [h.2.1]; omega, by rw [h.2.1]; omega, h.2.2⟩
theorem okA_tx {u : Nat → Nat} {m : Nat} (h : okA A) : okA (u, m, A.2.2) := h
theorem j_clear : jP sa mX6_clear mX7_clear [] A (.int (zI (A.2.1 : Int))) (A.1, 0, A.2.2) := by
  intro b x
  refine ⟨fun S hK hD hM => ?_, fun S hK hD hM => ?_⟩
  · exact j_cls hK hD hM (fun E T hE _ _ h => (s_clear (d := 0) h).mono (by decide) (fun r T' hr => hr))
  · exact j_mod hK hD hM (fun E T _ _ h => (r_clear (d := 0) h).mono (by decide) (fun r T' hr => qI_q hr))
theorem j_told {w : Int} (hw : okI w) : jP sa mX6_told mX7_told [.int (zI w)] A (.int (zI (aTold A.2.2.1 A.2.2.2 w))) A := by
  intro b x
  refine ⟨fun S hK hD hM => ?_, fun S hK hD hM => ?_⟩
  · exact j_cls hK hD hM (fun E T hE _ _ h => (s_told (d := 0) hw h).mono (by decide) (fun r T' hr => hr))
  · exact j_mod hK hD hM (fun E T _ _ h => (r_told (d := 0) hw h).mono (by decide) (fun r T' hr => qI_q hr))
theorem j_expr {l : Int} {w : Int} (hl : okI l) (hw : okI w) : jP sa mX6_expr mX7_expr [.int (zI l), .int (zI w)] A (.int (zI (aExpr A.2.2.1 l w))) A := by
  intro b x
  refine ⟨fun S hK hD hM => ?_, fun S hK hD hM => ?_⟩
  · exact j_cls hK hD hM (fun E T hE _ _ h => (s_expr (d := 0) hl hw h).mono (by decide) (fun r T' hr => hr))
  · exact j_mod hK hD hM (fun E T _ _ h => (r_expr (d := 0) hl hw h).mono (by decide) (fun r T' hr => qI_q hr))
theorem j_flow {l : Int} (hl : okI l) : jP sa mX6_flow mX7_flow [.int (zI l)] A (.long (aFlow A.2.2.1 l)) A := by
  intro b x
  refine ⟨fun S hK hD hM => ?_, fun S hK hD hM => ?_⟩
  · exact j_cls hK hD hM (fun E T hE _ _ h => (s_flow (d := 0) hl h).mono (by decide) (fun r T' hr => hr))
  · exact j_mod hK hD hM (fun E T _ _ h => (r_flow (d := 0) hl h).mono (by decide) (fun r T' hr => qJ_q hr))
theorem j_flows {l : Int} (hl : okI l) : jP sa mX6_flows mX7_flows [.int (zI l)] A (.long (aFlows A.2.2.1 l)) A := by
  intro b x
  refine ⟨fun S hK hD hM => ?_, fun S hK hD hM => ?_⟩
  · exact j_cls hK hD hM (fun E T hE _ _ h => (s_flows (d := 0) hl h).mono (by decide) (fun r T' hr => hr))
  · exact j_mod hK hD hM (fun E T _ _ h => (r_flows (d := 0) hl h).mono (by decide) (fun r T' hr => qJ_q hr))
theorem j_function {l : Int} {w : Int} (hl : okI l) (hw : okI w) : jP sa mX6_function mX7_function [.int (zI l), .int (zI w)] A (.int (zI (aFun A.2.2.1 l w))) A := by
  intro b x
  refine ⟨fun S hK hD hM => ?_, fun S hK hD hM => ?_⟩
  · exact j_cls hK hD hM (fun E T hE _ _ h => (s_function (d := 0) hl hw h).mono (by decide) (fun r T' hr => hr))
  · exact j_mod hK hD hM (fun E T _ _ h => (r_function (d := 0) hl hw h).mono (by decide) (fun r T' hr => qI_q hr))
theorem j_reaches {l : Int} {w : Int} (hl : okI l) (hw : okI w) : jP sa mX6_reaches mX7_reaches [.int (zI l), .int (zI w)] A (.int (zI (aReach A.2.2.1 l w))) A := by
  intro b x
  refine ⟨fun S hK hD hM => ?_, fun S hK hD hM => ?_⟩
  · exact j_cls hK hD hM (fun E T hE _ _ h => (s_reaches (d := 0) hl hw h).mono (by decide) (fun r T' hr => hr))
  · exact j_mod hK hD hM (fun E T _ _ h => (r_reaches (d := 0) hl hw h).mono (by decide) (fun r T' hr => qI_q hr))
theorem j_single {l : Int} (hl : okI l) : jP sa mX6_single mX7_single [.int (zI l)] A (.int (zI (aSingle A.2.2.1 l))) A := by
  intro b x
  refine ⟨fun S hK hD hM => ?_, fun S hK hD hM => ?_⟩
  · exact j_cls hK hD hM (fun E T hE _ _ h => (s_single (d := 0) hl h).mono (by decide) (fun r T' hr => hr))
  · exact j_mod hK hD hM (fun E T _ _ h => (r_single (d := 0) hl h).mono (by decide) (fun r T' hr => qI_q hr))
theorem j_run {w : Int} (hw : okI w) : jP sa mX6_run mX7_run [.int (zI w)] A (.int (zI (aRunA A.2.2.1 A.2.2.2 w).1)) (A.1, A.2.1, A.2.2.1, (aRunA A.2.2.1 A.2.2.2 w).2) := by
  intro b x
  refine ⟨fun S hK hD hM => ?_, fun S hK hD hM => ?_⟩
  · exact j_cls hK hD hM (fun E T hE _ _ h => (s_run (d := 0) hw h).mono (by decide) (fun r T' hr => hr))
  · exact j_mod hK hD hM (fun E T _ _ h => (r_run (d := 0) hw h).mono (by decide) (fun r T' hr => qI_q hr))
theorem j_result : jP sa mX6_result mX7_result [] A (.long A.2.2.2.2.1) A := by
  intro b x
  refine ⟨fun S hK hD hM => ?_, fun S hK hD hM => ?_⟩
  · exact j_cls hK hD hM (fun E T hE _ _ h => (s_result (d := 0) h).mono (by decide) (fun r T' hr => hr))
  · exact j_mod hK hD hM (fun E T _ _ h => (r_result (d := 0) h).mono (by decide) (fun r T' hr => qJ_q hr))
theorem j_used {l : Int} (hl : okI l) (hA : okA A) : jP sa mX6_used mX7_used [.int (zI l)] A (.long (aUsed A.2.2.1 A.2.2.2 l)) A := by
  intro b x
  refine ⟨fun S hK hD hM => ?_, fun S hK hD hM => ?_⟩
  · exact j_cls hK hD hM (fun E T hE _ _ h => (s_used (d := 0) hl hA h).mono (by decide) (fun r T' hr => hr))
  · exact j_mod hK hD hM (fun E T _ _ h => (r_used (d := 0) hl h).mono (by decide) (fun r T' hr => qJ_q hr))
theorem j_inline {l : Int} (hl : okI l) : jP sa mX6_inline mX7_inline [.int (zI l)] A (.int (zI (aInl A.2.2.1 A.2.2.2 l).1)) (A.1, A.2.1, (aInl A.2.2.1 A.2.2.2 l).2) := by
  intro b x
  refine ⟨fun S hK hD hM => ?_, fun S hK hD hM => ?_⟩
  · exact j_cls hK hD hM (fun E T hE _ _ h => (s_inline (d := 0) hl hE h).mono (by decide) (fun r T' hr => hr))
  · exact j_mod hK hD hM (fun E T _ _ h => (r_inline (d := 0) hl h).mono (by decide) (fun r T' hr => qI_q hr))
theorem j_drop {l : Int} (hl : okI l) : jP sa mX6_drop mX7_drop [.int (zI l)] A (.int (zI (aDrp A.2.2.1 A.2.2.2 l).1)) (A.1, A.2.1, (aDrp A.2.2.1 A.2.2.2 l).2) := by
  intro b x
  refine ⟨fun S hK hD hM => ?_, fun S hK hD hM => ?_⟩
  · exact j_cls hK hD hM (fun E T hE _ _ h => (s_drop (d := 0) hl hE h).mono (by decide) (fun r T' hr => hr))
  · exact j_mod hK hD hM (fun E T _ _ h => (r_drop (d := 0) hl h).mono (by decide) (fun r T' hr => qI_q hr))
theorem j_out {l : Int} : jP sa mX6_out mX7_out [.int (zI l)] A (.long (aOut A.1 A.2.1 l)) A := by
  intro b x
  refine ⟨fun S hK hD hM => ?_, fun S hK hD hM => ?_⟩
  · exact j_cls hK hD hM (fun E T hE _ _ h => (s_out (d := 0) h).mono (by decide) (fun r T' hr => hr))
  · exact j_mod hK hD hM (fun E T _ _ h => (r_out (d := 0) h).mono (by decide) (fun r T' hr => qJ_q hr))
def aRd (A : aSt) : Int × aSt := match rdP A.1 A.2.1 with
  | .inl q => ((q : Int), A)
  | .inr x => (-1, (A.1, A.2.1, some x, rn0))
theorem j_read : jP sa mX6_read mX7_read [] A (.int (zI (aRd A).1)) (aRd A).2 := by
  intro b x
  refine ⟨fun S hK hD hM => ?_, fun S hK hD hM => ?_⟩
  · refine j_cls hK hD hM (fun E T hE hKc _ h => (s_read (d := 0) hE hKc h).mono (by decide) (fun r T' hr => ?_))
    obtain ⟨v, e, e2, hr⟩ := hr
    unfold aRd
    revert hr
    cases rdP A.1 A.2.1 with
    | inl q => rintro ⟨rfl, hr⟩; exact ⟨e, e2, hr⟩
    | inr y => rintro ⟨rfl, hr⟩; exact ⟨e, e2, hr⟩
  · refine j_mod hK hD hM (fun E T hKr _ h => (r_read (d := 0) hKr h).mono (by decide) (fun r T' hr => ?_))
    obtain ⟨v, e, e2, hr⟩ := hr
    unfold aRd
    revert hr
    cases rdP A.1 A.2.1 with
    | inl q => rintro ⟨rfl, hr⟩; exact ⟨e, by rw [e2]; omega, by rw [e2]; omega, hr⟩
    | inr y => rintro ⟨rfl, hr⟩; exact ⟨e, by rw [e2]; omega, by rw [e2]; omega, hr⟩
theorem j_write : jP sa mX6_write mX7_write [] A (.int (zI (aWr A).1)) (aWr A).2 := by
  intro b x
  refine ⟨fun S hK hD hM => ?_, fun S hK hD hM => ?_⟩
  · exact j_cls hK hD hM (fun E T hE _ hKw h => (s_write (d := 0) hE hKw h).mono (by decide) (fun r T' hr => hr))
  · exact j_mod hK hD hM (fun E T _ hKs h => (r_write (d := 0) hKs h).mono (by decide) (fun r T' hr => ⟨hr.1, hr.2.2.1, hr.2.2.2, hr.2.1⟩))
theorem okA_rd (h : okA A) : okA (aRd A).2 := by
  unfold aRd
  cases rdP A.1 A.2.1 with
  | inl q => exact h
  | inr y => exact okA_new
theorem okA_inl {l : Int} (h : okA A) : okA (A.1, A.2.1, (aInl A.2.2.1 A.2.2.2 l).2) := by
  obtain ⟨u, m, po, rn⟩ := A
  cases po with
  | none => exact h
  | some x =>
    show okA (u, m, (aInl (some x) rn l).2)
    unfold aInl
    dsimp only
    split
    · split
      · exact okA_new
      · exact h
    · exact h
theorem okA_drp {l : Int} (h : okA A) : okA (A.1, A.2.1, (aDrp A.2.2.1 A.2.2.2 l).2) := by
  obtain ⟨u, m, po, rn⟩ := A
  cases po with
  | none => exact h
  | some x =>
    show okA (u, m, (aDrp (some x) rn l).2)
    unfold aDrp
    dsimp only
    split
    · split
      · exact okA_new
      · exact h
    · exact h
theorem okA_wr (h : okA A) : okA (aWr A).2 := by
  unfold aWr
  cases hpo : A.2.2.1 with
  | none => exact h
  | some x =>
    dsimp only
    split
    · exact h
    · exact h
theorem okA_ty {x : Int64} {n : Int} (h : okA A) : okA (aTy A x n) := by
  unfold aTy
  split
  · exact h
  · exact h
end PR
