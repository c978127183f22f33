/-! THE CLASS'S CALLS THAT ONLY ASK -/
def cPo (T : gT) (q : Nat) : Option aPg → Prop
  | none => vI T q 0 = 0 ∧ vI T q 1 = 0 ∧ vI T q 2 = 0
  | some x => cPq T q x.1 x.2.1 x.2.2.1 x.2.2.2 ∧ (∀ l, l < x.2.1 → T.2.1 48 l = lJ (Fx x.1 x.2.1 l)) ∧ (∀ v, v < x.2.2.1 → T.2.1 49 v = lJ (Gx x.1 x.2.1 v)) ∧ mRw 50 T (Rx x.1 x.2.1 x.2.2.2)
def cRn (T : gT) (r : aRn) : Prop := vI T 51 0 = (r.1 : Int) ∧ r.1 ≤ 2000 ∧ T.2.1 51 2 = r.2.1 ∧ ∀ l, l < 200 → T.2.1 52 l = r.2.2 l
/-- only calls are used -/
def okA (A : aSt) : Prop := match A.2.2.1 with
  | none => A.2.2.2 = rn0
  | some x => ∀ l, l < x.2.1 → x.1 l 0 ≠ 11 → A.2.2.2.2.2 l = 0
def cAq (T : gT) (q : Nat) (A : aSt) : Prop := (mTx T 1 A.1 ∧ vI T 0 1 = (A.2.1 : Int) ∧ A.2.1 ≤ 400) ∧ (q = 2 ∨ q = 21) ∧ vI T 0 2 = (q : Int) ∧ vI T 0 3 = 23 - (q : Int) ∧ cPo T q A.2.2.1 ∧ cRn T A.2.2.2
def cA (T : gT) (A : aSt) : Prop := ∃ q, cAq T q A
def sI (T : gT) (v : Int) (A : aSt) (r : Option Value) (T' : gT) : Prop := r = some (.int (zI v)) ∧ T'.2.2 = T.2.2 ∧ cA T' A
def sJ (T : gT) (v : Int64) (A : aSt) (r : Option Value) (T' : gT) : Prop := r = some (.long v) ∧ T'.2.2 = T.2.2 ∧ cA T' A
section CPB
variable {sa : Nat → Nat} {b : Nat} {E : Nat × mH} {d : Nat} {T : gT} {A : aSt} {q : Nat} {c : Nat → Nat → Int} {n nv nf : Nat}
theorem s_isLabel {po : Option aPg} {l : Int} {φ : Int → gT → Prop} (hl : okI l) (hq : q = 2 ∨ q = 21) (h2 : vI T 0 2 = (q : Int)) (h : cPo T q po) (k1 : ∀ x, po = some x → 0 ≤ l → l < x.2.1 → φ 1 T) (k0 : (po = none ∨ ∃ x, po = some x ∧ ¬ (0 ≤ l ∧ l < x.2.1)) → φ 0 T) : gC (tP sa) lD b E d mX6_isLabel [.ref (b + 0), .int (zI l)] T (fun r T' => pI r (fun v => φ v T')) := by
  refine w_X6_isLabel ?_
  unfold f_X6_isLabel
  cases po with
  | none =>
    have h0 := h.1
    exact ⟨hl, fun _ => ⟨_, rfl, k0 (Or.inl rfl)⟩, fun z => ⟨q, hq, h2, fun _ => ⟨_, rfl, k0 (Or.inl rfl)⟩, fun z => by omega⟩⟩
  | some x =>
    have h0 := h.1.2.2.1
    exact ⟨hl, fun z => ⟨_, rfl, k0 (Or.inr ⟨x, rfl, by omega⟩)⟩, fun z => ⟨q, hq, h2, fun z2 => ⟨_, rfl, k0 (Or.inr ⟨x, rfl, by omega⟩)⟩, fun z2 => ⟨_, rfl, k1 x rfl (by omega) (by omega)⟩⟩⟩
theorem s_isFunction {po : Option aPg} {l : Int} {φ : Int → gT → Prop} (hl : okI l) (hq : q = 2 ∨ q = 21) (h2 : vI T 0 2 = (q : Int)) (h : cPo T q po) (k1 : ∀ x, po = some x → 0 ≤ l → l < x.2.2.2 → φ 1 T) (k0 : (po = none ∨ ∃ x, po = some x ∧ ¬ (0 ≤ l ∧ l < x.2.2.2)) → φ 0 T) : gC (tP sa) lD b E d mX6_isFunction [.ref (b + 0), .int (zI l)] T (fun r T' => pI r (fun v => φ v T')) := by
  refine w_X6_isFunction ?_
  unfold f_X6_isFunction
  cases po with
  | none =>
    have h0 := h.2.1
    exact ⟨hl, fun _ => ⟨_, rfl, k0 (Or.inl rfl)⟩, fun z => ⟨q, hq, h2, fun _ => ⟨_, rfl, k0 (Or.inl rfl)⟩, fun z => by omega⟩⟩
  | some x =>
    have h0 := h.1.2.2.2.1
    exact ⟨hl, fun z => ⟨_, rfl, k0 (Or.inr ⟨x, rfl, by omega⟩)⟩, fun z => ⟨q, hq, h2, fun z2 => ⟨_, rfl, k0 (Or.inr ⟨x, rfl, by omega⟩)⟩, fun z2 => ⟨_, rfl, k1 x rfl (by omega) (by omega)⟩⟩⟩
theorem s_isOfKind {po : Option aPg} {l k : Int} {φ : Int → gT → Prop} (hl : okI l) (hk : okI k) (hq : q = 2 ∨ q = 21) (h2 : vI T 0 2 = (q : Int)) (h : cPo T q po) (k1 : ∀ x, po = some x → 0 ≤ l → l < x.2.1 → x.1 l.toNat 0 = k → φ 1 T) (k0 : (po = none ∨ ∃ x, po = some x ∧ ¬ ((0 ≤ l ∧ l < x.2.1) ∧ x.1 l.toNat 0 = k)) → φ 0 T) : gC (tP sa) lD b E (d + 1) mX6_isOfKind [.ref (b + 0), .int (zI l), .int (zI k)] T (fun r T' => pI r (fun v => φ v T')) := by
  refine w_X6_isOfKind ?_
  unfold f_X6_isOfKind
  refine s_isLabel hl hq h2 h (fun x hx l0 l1 => ⟨by omega, fun z => by omega, fun _ => ⟨q, hq, h2, l0, ?_, hk, fun z => ⟨_, rfl, k0 (Or.inr ⟨x, hx, ?_⟩)⟩, fun z => ⟨_, rfl, k1 x hx l0 l1 ?_⟩⟩⟩) (fun y => ⟨by omega, fun _ => ⟨_, rfl, k0 ?_⟩, fun z => absurd rfl z⟩)
  all_goals first | subst hx | skip
  · have := h.1.1.1; omega
  · intro y
    have := (h.1.2.2.2.2.2.1 l.toNat (by omega)).1
    rw [this] at z; exact z y.2
  · have := (h.1.2.2.2.2.2.1 l.toNat (by omega)).1
    rw [this] at z; exact z
  · rcases y with y | ⟨x, y, y2⟩
    · exact Or.inl y
    · exact Or.inr ⟨x, y, fun z => y2 z.1⟩
theorem s_clear (h : cA T A) : gC (tP sa) lD b E (d + 1) mX6_clear [.ref (b + 0)] T (sI T (A.2.1 : Int) (A.1, 0, A.2.2)) := by
  obtain ⟨q, ⟨t1, t2, t3⟩, h2, h3, h4, h5, h6⟩ := h
  refine w_X6_clear ?_
  unfold f_X6_clear
  refine ⟨by rw [t2], rfl, q, ⟨fun i hi => ⟨(t1 i hi).1, ?_⟩, v_s (by omega), Nat.zero_le _⟩, h2, by rw [v_o (by omega)]; exact h3, by rw [v_o (by omega)]; exact h4, ?_, ?_⟩
  · rw [gI_I, if_neg (by omega)]; exact (t1 i hi).2
  · show cPo _ q A.2.2.1
    revert h5
    cases A.2.2.1 with
    | none => rintro ⟨a1, a2, a3⟩; exact ⟨by rw [v_o (by omega)]; exact a1, by rw [v_o (by omega)]; exact a2, by rw [v_o (by omega)]; exact a3⟩
    | some x => rintro ⟨a1, a2⟩; exact ⟨a1.of (fun k i _ _ => v_o (by omega)), a2⟩
  · obtain ⟨a1, a2, a3, a4⟩ := h6
    exact ⟨by rw [v_o (by omega)]; exact a1, a2, a3, a4⟩
theorem s_result (h : cA T A) : gC (tP sa) lD b E (d + 1) mX6_result [.ref (b + 0)] T (sJ T A.2.2.2.2.1 A) := by
  obtain ⟨q, h1⟩ := id h
  refine w_X6_result ?_
  unfold f_X6_result
  exact ⟨by rw [h1.2.2.2.2.2.2.2.1], rfl, h⟩
theorem s_used {l : Int} (hl : okI l) (hA : okA A) (h : cA T A) : gC (tP sa) lD b E (d + 2) mX6_used [.ref (b + 0), .int (zI l)] T (sJ T (aUsed A.2.2.1 A.2.2.2 l) A) := by
  obtain ⟨q, h1, h2, h3, h4, h5, h6⟩ := id h
  refine w_X6_used (d := d + 1) ?_
  unfold f_X6_used
  refine s_isOfKind hl (by unfold okI; omega) h2 h3 h5 (fun x hx l0 l1 hk => ⟨by omega, fun z => by omega, fun _ => ⟨l0, ?_, ?_, rfl, h⟩⟩) (fun y => ⟨by omega, fun _ => ⟨?_, rfl, h⟩, fun z => absurd rfl z⟩)
  · rw [hx] at h5; have := h5.1.1.1; omega
  · unfold aUsed; rw [hx]; dsimp only; rw [if_pos ⟨l0, l1⟩]
    rw [hx] at h5
    rw [h6.2.2.2 l.toNat (by have := h5.1.1.1; omega)]
  · unfold aUsed
    unfold okA at hA
    rcases y with y | ⟨x, y, y2⟩
    · rw [y]
    · rw [y] at hA ⊢; dsimp only at hA ⊢
      by_cases z : 0 ≤ l ∧ l < (x.2.1 : Int)
      · rw [if_pos z, hA l.toNat (by omega) (fun w => y2 ⟨z, w⟩)]
      · rw [if_neg z]
theorem s_flow {l : Int} (hl : okI l) (h : cA T A) : gC (tP sa) lD b E (d + 2) mX6_flow [.ref (b + 0), .int (zI l)] T (sJ T (aFlow A.2.2.1 l) A) := by
  obtain ⟨q, h1, h2, h3, h4, h5, h6⟩ := id h
  refine w_X6_flow (d := d + 1) ?_
  unfold f_X6_flow
  refine s_isLabel hl h2 h3 h5 (fun x hx l0 l1 => ⟨by omega, fun z => by omega, fun _ => ⟨l0, ?_, ?_, rfl, h⟩⟩) (fun y => ⟨by omega, fun _ => ⟨?_, rfl, h⟩, fun z => absurd rfl z⟩)
  · rw [hx] at h5; have := h5.1.1.1; omega
  · unfold aFlow; rw [hx]; dsimp only; rw [if_pos ⟨l0, l1⟩]
    rw [hx] at h5
    rw [h5.2.1 l.toNat (by omega)]
  · unfold aFlow
    rcases y with y | ⟨x, y, y2⟩
    · rw [y]
    · rw [y]; dsimp only; rw [if_neg y2]
theorem s_flows {l : Int} (hl : okI l) (h : cA T A) : gC (tP sa) lD b E (d + 2) mX6_flows [.ref (b + 0), .int (zI l)] T (sJ T (aFlows A.2.2.1 l) A) := by
  obtain ⟨q, h1, h2, h3, h4, h5, h6⟩ := id h
  refine w_X6_flows (d := d + 2) ?_
  unfold f_X6_flows aFlows
  revert h5
  cases A.2.2.1 with
  | none => intro h5; have h0 := h5.2.2; exact ⟨hl, fun _ => ⟨rfl, rfl, h⟩, fun _ => ⟨q, h2, h3, fun _ => ⟨rfl, rfl, h⟩, fun z => by omega⟩⟩
  | some x =>
    intro h5
    have h0 := h5.1.2.2.2.2.1
    have hnv := h5.1.1.2.1
    dsimp only
    refine ⟨hl, fun z => ⟨by rw [if_neg (by omega)], rfl, h⟩, fun z => ⟨q, h2, h3, fun z2 => ⟨by rw [if_neg (by omega)], rfl, h⟩, fun z2 => ⟨by omega, by omega, ?_, rfl, h⟩⟩⟩
    rw [if_pos (by omega), h5.2.2.1 l.toNat (by omega)]
theorem s_reaches {t u : Int} (ht : okI t) (hu : okI u) (h : cA T A) : gC (tP sa) lD b E (d + 2) mX6_reaches [.ref (b + 0), .int (zI t), .int (zI u)] T (sI T (aReach A.2.2.1 t u) A) := by
  obtain ⟨q, h1, h2, h3, h4, h5, h6⟩ := id h
  refine w_X6_reaches (d := d + 1) ?_
  unfold f_X6_reaches
  have no : (A.2.2.1 = none ∨ ∃ x : aPg, A.2.2.1 = some x ∧ ¬ ((0 ≤ t ∧ t < (x.2.2.2 : Int)) ∧ 0 ≤ u ∧ u < (x.2.2.2 : Int))) → aReach A.2.2.1 t u = -2 := fun y => by
    unfold aReach
    rcases y with y | ⟨x, y, y2⟩
    · rw [y]
    · rw [y]; dsimp only; rw [if_neg y2]
  refine s_isFunction ht h2 h3 h5 (fun x hx l0 l1 => ⟨by omega, fun z => by omega, fun _ => s_isFunction hu h2 h3 h5 (fun x2 hx2 l02 l12 => ⟨by omega, fun z => by omega, fun _ => ?_⟩) (fun y => ⟨by omega, fun _ => ⟨?_, rfl, h⟩, fun z => absurd rfl z⟩)⟩) (fun y => ⟨by omega, fun _ => ⟨?_, rfl, h⟩, fun z => absurd rfl z⟩)
  · obtain rfl : x = x2 := by rw [hx] at hx2; cases hx2; rfl
    rw [hx] at h5
    have hnf := h5.1.1.2.2.1
    obtain ⟨t, rfl⟩ : ∃ m : Nat, t = (m : Int) := ⟨t.toNat, by omega⟩
    obtain ⟨u, rfl⟩ : ∃ m : Nat, u = (m : Int) := ⟨u.toNat, by omega⟩
    refine k_reachesBit h5.2.2.2 (by omega) (by omega) ⟨?_, rfl, h⟩
    unfold aReach; rw [hx]; dsimp only; rw [if_pos ⟨⟨l0, l1⟩, l02, l12⟩, Int.toNat_natCast, Int.toNat_natCast]
  · rw [no]
    rcases y with y | ⟨x, y, y2⟩
    · exact Or.inl y
    · exact Or.inr ⟨x, y, fun z => y2 z.2⟩
  · rw [no]
    rcases y with y | ⟨x, y, y2⟩
    · exact Or.inl y
    · exact Or.inr ⟨x, y, fun z => y2 z.1⟩
theorem s_opF {l : Nat} {x : aPg} {ψ : Int64 → gT → Prop} (hq : q = 2 ∨ q = 21) (h2 : vI T 0 2 = (q : Int)) (h : cPo T q (some x)) (hl : l < x.2.1) (hk : 2 ≤ x.1 l 0) (k : ψ (lJ (opF x.1 x.2.1 l)) T) : gC (tP sa) lD b E (d + 1) mX6_operatorFlow [.ref (b + 0), .int (zI (l : Int))] T (fun r T' => pJ r (fun v => ψ v T')) := by
  have hn := h.1.1.1
  have r3 := (h.1.1.flat.2.2.2 l hl).1.2.2.2.1 hk
  refine w_X6_operatorFlow ?_
  unfold f_X6_operatorFlow
  refine ⟨q, hq, h2, by omega, ?_⟩
  rw [(cP_pt h.1 hl).1, aJ_in (by omega), h.2.1 _ (by omega)]
  exact ⟨_, rfl, k⟩
theorem s_only {l : Nat} {x : aPg} {φ : Int → gT → Prop} (hq : q = 2 ∨ q = 21) (h2 : vI T 0 2 = (q : Int)) (h : cPo T q (some x)) (hl : l < x.2.1) (hk : x.1 l 0 = 11) (k : φ (onF x.1 x.2.1 x.2.2.2 l) T) : gC (tP sa) lD b E (d + 2) mX6_onlyFunction [.ref (b + 0), .int (zI (l : Int))] T (fun r T' => pI r (fun v => φ v T')) := by
  have hw := h.1.1
  have hnf := hw.2.2.1
  have hlt := opF_lt hw hl (by omega)
  refine w_X6_onlyFunction (d := d + 1) ?_
  unfold f_X6_onlyFunction
  refine s_opF hq h2 h hl (by omega) ?_
  have lp : ∀ (j t : Nat), j + t = x.2.2.2 → (∀ u, u < t → opF x.1 x.2.1 l ≠ 2 ^ u) → gW (tP sa) lD b E (d + 1 + 1) mX6_onlyFunction 9 [some (.ref (b + 0)), some (.int (zI (l : Int))), some (.long (lJ (opF x.1 x.2.1 l))), none, some (.int (zI (t : Int)))] [] T (fun r T' => pI r (fun v => φ v T')) := by
    intro j
    induction j with
    | zero =>
      intro t hj hu
      refine w_X6_onlyFunction_9 (d := d + 1) ?_
      unfold f_X6_onlyFunction_9
      have e1 := h.1.2.2.2.1
      refine ⟨q, hq, h2, by omega, fun _ => ⟨_, rfl, ?_⟩, fun z => absurd z (by omega)⟩
      have : onF x.1 x.2.1 x.2.2.2 l = -1 := by
        unfold onF sgl
        rw [if_neg]
        rintro ⟨y1, y2⟩
        exact hu _ (by omega) y1
      rw [this] at k; exact k
    | succ j ih =>
      intro t hj hu
      refine w_X6_onlyFunction_9 (d := d + 1) ?_
      unfold f_X6_onlyFunction_9
      have e1 := h.1.2.2.2.1
      rw [sh2 ⟨t, by omega⟩]
      have l50 : opF x.1 x.2.1 l < 2 ^ 50 := Nat.lt_of_lt_of_le hlt (Nat.pow_le_pow_right (by decide) hnf)
      refine ⟨q, hq, h2, by omega, fun z => absurd z (by omega), fun _ => ⟨fun z => ?_, fun z => ⟨_, rfl, ?_⟩⟩⟩
      · rw [show (t : Int) + 1 = ((t + 1 : Nat) : Int) by omega]
        refine ih (t + 1) (by omega) (fun u hu2 => ?_)
        by_cases e : u = t
        · rw [e]; intro y; exact z (by rw [y])
        · exact hu u (by omega)
      · have z' : opF x.1 x.2.1 l = 2 ^ t := (lJ_inj l50 (two_lt (by omega))).mp z
        have hl2 : (opF x.1 x.2.1 l).log2 = t := by rw [z', Nat.log2_two_pow]
        have : onF x.1 x.2.1 x.2.2.2 l = (t : Int) := by
          unfold onF sgl
          rw [hl2, if_pos ⟨z', by omega⟩]
        rw [this] at k; exact k
  exact lp _ 0 (Nat.add_zero _) (fun u hu => by omega)
theorem s_single {l : Int} (hl : okI l) (h : cA T A) : gC (tP sa) lD b E (d + 3) mX6_single [.ref (b + 0), .int (zI l)] T (sI T (aSingle A.2.2.1 l) A) := by
  obtain ⟨q, h1, h2, h3, h4, h5, h6⟩ := id h
  refine w_X6_single (d := d + 2) ?_
  unfold f_X6_single
  refine s_isOfKind hl (by unfold okI; omega) h2 h3 h5 (fun x hx l0 l1 hk => ⟨by omega, fun z => by omega, fun _ => ?_⟩) (fun y => ⟨by omega, fun _ => ⟨?_, rfl, h⟩, fun z => absurd rfl z⟩)
  · obtain ⟨l, rfl⟩ : ∃ m : Nat, l = (m : Int) := ⟨l.toNat, by omega⟩
    rw [Int.toNat_natCast] at hk
    rw [hx] at h5
    refine s_only h2 h3 h5 (by omega) hk ⟨?_, rfl, h⟩
    unfold aSingle; rw [hx]; dsimp only; rw [Int.toNat_natCast, if_pos ⟨⟨l0, l1⟩, hk⟩]
  · unfold aSingle
    rcases y with y | ⟨x, y, y2⟩
    · rw [y]
    · rw [y]; dsimp only; rw [if_neg y2]
theorem s_run {w : Int} (hw : okI w) (h : cA T A) : gC (tP sa) lD b E (d + 5) mX6_run [.ref (b + 0), .int (zI w)] T (sI T (aRunA A.2.2.1 A.2.2.2 w).1 (A.1, A.2.1, A.2.2.1, (aRunA A.2.2.1 A.2.2.2 w).2)) := by
  obtain ⟨q, h1, h2, h3, h4, h5, h6⟩ := id h
  obtain ⟨u, m, po, rn⟩ := A
  dsimp only at h1 h5 h6 ⊢
  refine w_X6_run (d := d + 4) ?_
  unfold f_X6_run
  cases po with
  | none => exact ⟨q, h2, h3, fun _ => ⟨rfl, rfl, h⟩, fun z => absurd h5.1 z⟩
  | some x =>
    obtain ⟨c, n, nv, nf⟩ := x
    have h0 := h5.1.2.2.1
    have hwp := h5.1.1
    have g1 := hwp.flat.1
    dsimp only at h0 hwp g1
    unfold aRunA
    dsimp only
    refine ⟨q, h2, h3, fun z => by omega, fun _ => ⟨hw, fun z => ?_, fun z => ⟨fun z2 => ⟨q, h2, h3, ?_⟩, fun z2 => ?_⟩⟩⟩
    · rw [if_neg (by omega)]; exact ⟨rfl, rfl, h⟩
    · rw [if_pos (by omega)]
      obtain ⟨most, rfl⟩ : ∃ m : Nat, w = (m : Int) := ⟨w.toNat, by omega⟩
      rw [Int.toNat_natCast]
      refine d_start (d := d) h5.1 (by omega) (fun T' hE => ?_)
      obtain ⟨x1, x2, x3, x4, x5, x6, x7⟩ := hE
      have hst : (rnP c n most).2.2.1 ≤ most := by
        rw [← rnP_eq (f := 4 * most + 1) hwp (by omega) (by omega)]
        refine rnF_st hwp _ _ (cf0_i hwp) ?_
        show 4 * (most - 0) + 0 < _
        omega
      rw [x2]
      refine ⟨rfl, x1.2.2, q, ⟨fun i hi => ⟨(h1.1 i hi).1, ?_⟩, ?_, h1.2.2⟩, h2, ?_, ?_, ⟨cP_of h5.1 x1, fun l hl => ?_, fun v hv => ?_, h5.2.2.2.of (fun t _ => ?_)⟩, x5, by show (rnP c n most).2.2.1 ≤ 2000; omega, x4, x6⟩
      · rw [x1.1 1 i (by unfold Wz; omega)]; exact (h1.1 i hi).2
      · rw [x1.v (by unfold Wz; omega)]; exact h1.2.1
      · rw [x1.v (by unfold Wz; omega)]; exact h3
      · rw [x1.v (by unfold Wz; omega)]; exact h4
      · rw [x1.2.1 48 l (by unfold Vz; omega)]; exact h5.2.1 l hl
      · rw [x1.2.1 49 v (by unfold Vz; omega)]; exact h5.2.2.1 v hv
      · exact x1.2.1 50 t (by unfold Vz; omega)
    · rw [if_neg (by omega)]; exact ⟨rfl, rfl, h⟩
end CPB
