/-! THE REFERENCE'S CALLS THAT ONLY ASK -/
/-- an answer; the state is A' -/
def qI (T : gT) (v : Int) (A : aSt) (r : Option Value) (T' : gT) : Prop := r = some (.int (zI v)) ∧ T'.2.2 = T.2.2 ∧ rA T' A
def qJ (T : gT) (v : Int64) (A : aSt) (r : Option Value) (T' : gT) : Prop := r = some (.long v) ∧ T'.2.2 = T.2.2 ∧ rA T' A
section PB
variable {sa : Nat → Nat} {b : Nat} {E : Nat × mH} {d : Nat} {T : gT} {A : aSt} {a : Nat} {c : Nat → Nat → Int} {n nv nf : Nat}
theorem f15.st {T T' : gT} (hf : f15 T T') (h : rA T A) : rA T' A := h.of (fG.mono hf (fun k i z => by have : k = 15 := z; unfold Wo; omega) (fun k i z => z.elim))
theorem r_clear (h : rA T A) : gC (tP sa) lM b E (d + 1) mX7_clear [.ref (b + 0)] T (qI T (A.2.1 : Int) (A.1, 0, A.2.2)) := by
  obtain ⟨⟨t1, t2, t3⟩, h2, h3, h4⟩ := h
  have h0 : rA T (A.1, A.2.1, A.2.2) := ⟨⟨t1, t2, t3⟩, h2, h3, h4⟩
  refine w_X7_clear ?_
  unfold f_X7_clear
  refine ⟨by rw [t2], rfl, ?_⟩
  have h1 := h0.t0
  obtain ⟨⟨q1, q2, q3⟩, q4, q5, q6⟩ := h1
  refine ⟨⟨fun i hi => ⟨(q1 i hi).1, ?_⟩, v_s (by omega), Nat.zero_le _⟩, by rw [v_o (by omega)]; exact q4, ?_, ?_⟩
  · rw [gI_I, if_neg (by omega)]; exact (q1 i hi).2
  · revert q5
    show rPo _ A.2.2.1 → rPo _ A.2.2.1
    cases A.2.2.1 with
    | none => intro q5; show vI _ 0 4 = 0; rw [v_o (by omega)]; exact q5
    | some x =>
      rintro ⟨a, q5⟩
      exact ⟨a, q5.of (fun k j z => v_o (by omega)) (fun k j _ _ => rfl)⟩
  · exact q6.of (v_o (by omega)) (v_o (by omega)) rfl (fun _ => rfl)
theorem r_result (h : rA T A) : gC (tP sa) lM b E (d + 1) mX7_result [.ref (b + 0)] T (qJ T A.2.2.2.2.1 A) := by
  have h0 := h.t0
  obtain ⟨h1, h2, h3, h4, h5, h6⟩ := h
  refine w_X7_result ?_
  unfold f_X7_result
  rcases h6 with ⟨z1, z2, z3⟩ | ⟨z1, z2⟩
  · exact ⟨fun z => by omega, fun _ => ⟨by rw [z2], rfl, h0⟩⟩
  · exact ⟨fun _ => ⟨by rw [z2]; rfl, rfl, h0⟩, fun z => absurd z1 z⟩
theorem r_used {l : Int} (hl : okI l) (h : rA T A) : gC (tP sa) lM b E (d + 2) mX7_used [.ref (b + 0), .int (zI l)] T (qJ T (aUsed A.2.2.1 A.2.2.2 l) A) := by
  have h0 := h.t0
  obtain ⟨h1, h2, h3, h4, h5, h6⟩ := id h0
  refine w_X7_used (d := d + 1) ?_
  unfold f_X7_used
  rw [v_o (by omega)] at h6
  rcases h6 with ⟨z1, z2, z3⟩ | ⟨z1, z2⟩
  · refine ⟨fun z => by omega, fun _ => c_isLabel hl h2 h3 (fun x a hx hp l0 l1 => ⟨by omega, fun z => by omega, fun _ => ⟨l0, by have := hp.1.1; omega, ?_, rfl, h0⟩⟩) (fun q => ⟨by omega, fun _ => ⟨?_, rfl, h0⟩, fun z => absurd rfl z⟩)⟩
    · unfold aUsed; rw [hx]; dsimp only; rw [if_pos ⟨l0, l1⟩]
      have := z3 l.toNat (by have := hp.1.1; omega)
      rw [← this]
    · unfold aUsed
      rcases q with q | ⟨x, q, q2⟩
      · rw [q]
      · rw [q]; dsimp only; rw [if_neg q2]
  · refine ⟨fun _ => ⟨?_, rfl, h0⟩, fun z => absurd z1 z⟩
    rw [z2]; unfold aUsed rn0
    cases A.2.2.1 with
    | none => rfl
    | some x => dsimp only; split <;> rfl
theorem r_flow {l : Int} (hl : okI l) (h : rA T A) : gC (tP sa) lM b E (d + 2) mX7_flow [.ref (b + 0), .int (zI l)] T (qJ T (aFlow A.2.2.1 l) A) := by
  have h0 := h.t0
  obtain ⟨h1, h2, h3, h4⟩ := id h0
  refine w_X7_flow (d := d + 1) ?_
  unfold f_X7_flow
  refine c_isLabel hl h2 h3 (fun x a hx hp l0 l1 => ⟨by omega, fun z => by omega, fun _ => ⟨l0, by have := hp.1.1; omega, ?_, rfl, h0⟩⟩) (fun q => ⟨by omega, fun _ => ⟨?_, rfl, h0⟩, fun z => absurd rfl z⟩)
  · unfold aFlow; rw [hx]; dsimp only; rw [if_pos ⟨l0, l1⟩, ← hp.2.2.2.2.1 l.toNat (by omega)]
  · unfold aFlow
    rcases q with q | ⟨x, q, q2⟩
    · rw [q]
    · rw [q]; dsimp only; rw [if_neg q2]
theorem r_flows {l : Int} (hl : okI l) (h : rA T A) : gC (tP sa) lM b E (d + 2) mX7_flows [.ref (b + 0), .int (zI l)] T (qJ T (aFlows A.2.2.1 l) A) := by
  have h0 := h.t0
  obtain ⟨h1, h2, h3, h4⟩ := id h
  refine w_X7_flows (d := d + 2) ?_
  unfold f_X7_flows aFlows
  revert h3
  cases A.2.2.1 with
  | none => intro h3; exact ⟨fun _ => ⟨rfl, rfl, h0⟩, fun z => absurd h3 z⟩
  | some x =>
    rintro ⟨a, hp⟩
    have h4 := hp.2.2.2.1
    obtain ⟨m1, m2, m3, _⟩ := hp.2.1
    have hv := hp.2.2.1
    have hnv := hp.1.2.1
    rw [show (vI T 0 3).toNat = a by omega, hv]
    dsimp only
    refine ⟨fun z => by omega, fun _ => ⟨hl, fun z => ⟨by rw [if_neg (by omega)], rfl, h0⟩, fun z => ⟨by omega, by omega, fun z2 => ⟨by rw [if_neg (by omega)], rfl, h0⟩, fun z2 => ⟨by omega, by omega, ?_, rfl, h0⟩⟩⟩⟩
    rw [if_pos (by omega), hp.2.2.2.2.2.1 l.toNat (by omega)]
theorem r_reaches {t u : Int} (ht : okI t) (hu : okI u) (h : rA T A) : gC (tP sa) lM b E (d + 2) mX7_reaches [.ref (b + 0), .int (zI t), .int (zI u)] T (qI T (aReach A.2.2.1 t u) A) := by
  have h0 := h.t0
  obtain ⟨h1, h2, h3, h4⟩ := id h0
  refine w_X7_reaches (d := d + 1) ?_
  unfold f_X7_reaches
  have no : (A.2.2.1 = none ∨ ∃ x : aPg, A.2.2.1 = some x ∧ ¬ ((0 ≤ t ∧ t < (x.2.2.2 : Int)) ∧ 0 ≤ u ∧ u < (x.2.2.2 : Int))) → aReach A.2.2.1 t u = -2 := fun q => by
    unfold aReach
    rcases q with q | ⟨x, q, q2⟩
    · rw [q]
    · rw [q]; dsimp only; rw [if_neg q2]
  refine c_isFunction ht h3 (fun x a hx hp l0 l1 => ⟨by omega, fun z => by omega, fun _ => c_isFunction hu h3 (fun x2 a2 hx2 hp2 l02 l12 => ⟨by omega, fun z => by omega, fun _ => ?_⟩) (fun q => ⟨by omega, fun _ => ⟨?_, rfl, h0⟩, fun z => absurd rfl z⟩)⟩) (fun q => ⟨by omega, fun _ => ⟨?_, rfl, h0⟩, fun z => absurd rfl z⟩)
  · obtain rfl : x = x2 := by rw [hx] at hx2; cases hx2; rfl
    have hnf := hp.1.2.2.1
    refine ⟨by omega, by omega, ?_, rfl, h0⟩
    obtain ⟨t, rfl⟩ : ∃ m : Nat, t = (m : Int) := ⟨t.toNat, by omega⟩
    obtain ⟨u, rfl⟩ : ∃ m : Nat, u = (m : Int) := ⟨u.toNat, by omega⟩
    rw [Int.toNat_natCast, (hp.2.2.2.2.2.2 t (by omega)).1, bit_iv (by omega)]
    unfold aReach; rw [hx]; dsimp only; rw [if_pos ⟨⟨l0, l1⟩, l02, l12⟩, Int.toNat_natCast, Int.toNat_natCast]
  · rw [no]
    rcases q with q | ⟨x, q, q2⟩
    · exact Or.inl q
    · exact Or.inr ⟨x, q, fun z => q2 z.2⟩
  · rw [no]
    rcases q with q | ⟨x, q, q2⟩
    · exact Or.inl q
    · exact Or.inr ⟨x, q, fun z => q2 z.1⟩
theorem r_single {l : Int} (hl : okI l) (h : rA T A) : gC (tP sa) lM b E (d + 4) mX7_single [.ref (b + 0), .int (zI l)] T (qI T (aSingle A.2.2.1 l) A) := by
  have h0 := h.t0
  obtain ⟨h1, h2, h3, h4⟩ := id h0
  refine w_X7_single (d := d + 2) ?_
  unfold f_X7_single
  have no : (A.2.2.1 = none ∨ ∃ x : aPg, A.2.2.1 = some x ∧ ¬ ((0 ≤ l ∧ l < (x.2.1 : Int)) ∧ x.1 l.toNat 0 = 11)) → aSingle A.2.2.1 l = -2 := fun q => by
    unfold aSingle
    rcases q with q | ⟨x, q, q2⟩
    · rw [q]
    · rw [q]; dsimp only; rw [if_neg q2]
  refine c_isLabel hl h2 h3 (fun x a hx hp l0 l1 => ⟨by omega, fun z => by omega, fun _ => ?_⟩) (fun q => ⟨by omega, fun _ => ⟨?_, rfl, h0⟩, fun z => absurd rfl z⟩)
  · obtain ⟨l, rfl⟩ : ∃ m : Nat, l = (m : Int) := ⟨l.toNat, by omega⟩
    obtain ⟨m1, m2, m3, m4, _⟩ := hp.2.1
    have hn := hp.1.1
    rw [show (vI (gI T 0 0 (zI 0)) 0 3).toNat = a by omega, Int.toNat_natCast, m4 l 0 (by omega) (by omega)]
    refine ⟨by omega, by omega, fun z => ?_, fun z => ⟨?_, rfl, h0⟩⟩
    · have ey : aSingle A.2.2.1 (l : Int) = onF x.1 x.2.1 x.2.2.2 l := by unfold aSingle; rw [hx]; dsimp only; rw [Int.toNat_natCast, if_pos ⟨⟨l0, l1⟩, z⟩]
      rw [ey]
      refine c_isSingle (d := d + 1) hp (by omega) (fun hs => ⟨by omega, fun z => by omega, fun _ => ?_⟩) (fun hs => ⟨by omega, fun _ => ⟨?_, rfl, h0⟩, fun z => absurd rfl z⟩)
      · exact c_only (d := d + 1) hp (by omega) hs ⟨rfl, rfl, h0⟩
      · by_cases q : onF x.1 x.2.1 x.2.2.2 l = -1
        · rw [q]
        · exact absurd ⟨z, q⟩ hs
    · rw [no]
      exact Or.inr ⟨x, hx, fun q => z (by rw [Int.toNat_natCast] at q; exact q.2)⟩
  · rw [no]
    rcases q with q | ⟨x, q, q2⟩
    · exact Or.inl q
    · exact Or.inr ⟨x, q, fun z => q2 z.1⟩
theorem r_expr {l w : Int} (hl : okI l) (hw : okI w) (h : rA T A) : gC (tP sa) lM b E (d + 4) mX7_expr [.ref (b + 0), .int (zI l), .int (zI w)] T (qI T (aExpr A.2.2.1 l w) A) := by
  have h0 := h.t0
  obtain ⟨h1, h2, h3, h4⟩ := id h0
  refine w_X7_expr (d := d + 2) ?_
  unfold f_X7_expr
  refine c_isLabel hl h2 h3 (fun x a hx hp l0 l1 => ⟨by omega, fun z => by omega, fun _ => ?_⟩) (fun q => ⟨by omega, fun _ => ⟨?_, rfl, h0⟩, fun z => absurd rfl z⟩)
  · obtain ⟨l, rfl⟩ : ∃ m : Nat, l = (m : Int) := ⟨l.toNat, by omega⟩
    obtain ⟨m1, m2, m3, m4, m5, m6, m7, m8, m9⟩ := hp.2.1
    have hn := hp.1.1
    have ln : l < x.2.1 := by omega
    unfold aExpr
    rw [hx]
    dsimp only
    rw [if_pos ⟨l0, l1⟩, show (vI (gI T 0 0 (zI 0)) 0 3).toNat = a by omega, Int.toNat_natCast, m4 l 0 ln (by omega), m4 l 1 ln (by omega), m4 l 6 ln (by omega), m6 l ln, m8 l ln]
    refine ⟨hw, fun z => ?_, fun z => ⟨fun z2 => ⟨fun e => ?_, fun e => ?_, fun e => ?_, fun e => ?_, fun e => ?_, fun e => ?_⟩, fun z2 => ?_⟩⟩
    · rw [if_neg (by omega), if_neg (by omega), if_neg (by omega), if_neg (by omega), if_neg (by omega), if_neg (by omega), if_neg (by omega), if_neg (by omega)]; exact ⟨rfl, rfl, h0⟩
    · exact ⟨by omega, by omega, by rw [if_pos e], rfl, h0⟩
    · exact ⟨by omega, by omega, by rw [if_neg (by omega), if_pos e], rfl, h0⟩
    · exact ⟨by omega, by omega, by rw [if_neg (by omega), if_neg (by omega), if_pos e], rfl, h0⟩
    · exact ⟨by omega, by omega, by rw [if_neg (by omega), if_neg (by omega), if_neg (by omega), if_neg (by omega), if_neg (by omega), if_neg (by omega), if_pos e], rfl, h0⟩
    · exact ⟨by omega, by omega, by rw [if_neg (by omega), if_neg (by omega), if_neg (by omega), if_neg (by omega), if_neg (by omega), if_neg (by omega), if_neg (by omega), if_pos e], rfl, h0⟩
    · refine ⟨by omega, by omega, by omega, ?_, rfl, h0⟩
      have : w = 3 ∨ w = 4 ∨ w = 5 := by omega
      rcases this with e | e | e
      · subst e; rw [if_neg (by omega), if_neg (by omega), if_neg (by omega), if_pos rfl, ← m4 l 3 ln (by omega)]; rfl
      · subst e; rw [if_neg (by omega), if_neg (by omega), if_neg (by omega), if_neg (by omega), if_pos rfl, ← m4 l 4 ln (by omega)]; rfl
      · subst e; rw [if_neg (by omega), if_neg (by omega), if_neg (by omega), if_neg (by omega), if_neg (by omega), if_pos rfl, ← m4 l 5 ln (by omega)]; rfl
    · rw [if_neg (by omega), if_neg (by omega), if_neg (by omega), if_neg (by omega), if_neg (by omega), if_neg (by omega), if_neg (by omega), if_neg (by omega)]; exact ⟨rfl, rfl, h0⟩
  · unfold aExpr
    rcases q with q | ⟨x, q, q2⟩
    · rw [q]
    · rw [q]; dsimp only; rw [if_neg q2]
end PB
