section CPD
variable {sa : Nat → Nat} {b : Nat} {E : Nat × mH} {d : Nat} {T : gT} {A : aSt} {q : Nat} {c : Nat → Nat → Int} {n nv nf : Nat}
theorem s_canI {l : Nat} {x : aPg} {φ : Int → gT → Prop} (hq : q = 2 ∨ q = 21) (h2 : vI T 0 2 = (q : Int)) (h : cPo T q (some x)) (hl : l < x.2.1) (hk : x.1 l 0 = 11) (k1 : inP x.1 x.2.1 x.2.2.2 l → φ 1 T) (k0 : ¬ inP x.1 x.2.1 x.2.2.2 l → φ 0 T) : gC (tP sa) lD b E (d + 3) mX6_isInlinable [.ref (b + 0), .int (zI (l : Int))] T (fun r T' => pI r (fun v => φ v T')) := by
  obtain ⟨c, n, nv, nf⟩ := x
  dsimp only at *
  have hw : wP c n nv nf := h.1.1
  have hn := hw.1
  have hnf := hw.2.2.1
  obtain ⟨g1, g2, g3, g4⟩ := hw.flat
  have rg := onF_rg (c := c) (n := n) (nf := nf) (l := l)
  refine w_X6_isInlinable (d := d + 2) ?_
  unfold f_X6_isInlinable
  refine s_only (d := d) hq h2 h hl hk ?_
  dsimp only
  refine ⟨by omega, fun z => ⟨_, rfl, k0 (fun y => y.1.2 z)⟩, fun z => ?_⟩
  obtain ⟨t, t1, t2⟩ := onF_r (c := c) (n := n) (nf := nf) (l := l) ⟨hk, z⟩
  rw [t1]
  refine k_reachesBit h.2.2.2 (by omega) (by omega) ?_
  obtain ⟨a1, a2, a3⟩ := lbN_ok (c := c) (n := n) (t := t) (by omega)
  have q3 := (g4 l hl).1.2.2.2.1 (by omega)
  have et : (onF c n nf l).toNat = t := by omega
  have el := (h.1.2.2.2.2.2.2.1 t t2)
  have cl := (h.1.2.2.2.2.2.1 _ a1)
  have cl3 := (h.1.2.2.2.2.2.1 (c l 3).toNat (by dsimp only; omega))
  dsimp only at el cl cl3
  have e3 : aI T (q + 1) 200 (aP T q (l : Int) 0) = c (c l 3).toNat 0 := by
    rw [(cP_pt h.1 hl).1]; dsimp only
    rw [aI_in (by omega), cl3.1]
  have e7 : aI T (q + 7) 50 (t : Int) = (lbN c n t : Int) := by rw [aI_n (by omega), el.1]
  refine ⟨by unfold b1; split <;> omega, fun z1 => ⟨q, hq, h2, q, hq, h2, q, hq, h2, by omega, ?_⟩, fun z1 => ⟨_, rfl, k0 (fun y => ?_)⟩⟩
  · have hr : (Rx c n nf t).testBit t = false := by
      cases y : (Rx c n nf t).testBit t with
      | false => rfl
      | true => exact absurd (by unfold b1; dsimp only; rw [if_pos y]; rfl) z1
    rw [e3, e7]
    have tl : (c (c l 3).toNat 0 = 0 ∨ c (c l 3).toNat 0 = 2) → gW (tP sa) lD b E (d + 2 + 1) mX6_isInlinable 70 [some (.ref (b + 0)), some (.int (zI (l : Int))), some (.int (zI (t : Int))), some (.int (zI (lbN c n t : Int))), some (.int (zI (c (c l 3).toNat 0)))] [] T (fun r T' => pI r (fun v => φ v T')) := by
      intro y
      refine w_X6_isInlinable_70 ?_
      unfold f_X6_isInlinable_70
      have ea : aI T (q + 1) 200 (lbN c n t : Int) = c (lbN c n t) 0 := by rw [aI_n (by omega), cl.1]
      have eb : aI T (q + 10) 50 (t : Int) = (frc c (lbN c n t) : Int) := by rw [aI_n (by omega), el.2]
      refine ⟨q, hq, h2, by omega, ?_⟩
      rw [ea]
      refine ⟨fun z2 => ⟨_, rfl, k0 (fun y2 => z2 ?_)⟩, fun z2 => ⟨q, hq, h2, by omega, ?_⟩⟩
      rotate_left
      rw [eb]
      refine ⟨fun z3 => ⟨_, rfl, k0 (fun y2 => z3 ?_)⟩, fun z3 => ⟨_, rfl, k1 ⟨⟨hk, z⟩, ?_, ?_, ?_, y⟩⟩⟩
      · have := y2.2.2.1; rw [et] at this; omega
      · rw [et]; exact z2
      · rw [et]; omega
      · rw [et]; exact hr
      · have := y2.2.1; rw [et] at this; exact this
    exact ⟨fun z2 => tl (Or.inl z2), fun z2 => ⟨fun z3 => ⟨_, rfl, k0 (fun y => y.2.2.2.2.elim z2 z3)⟩, fun z3 => tl (Or.inr z3)⟩⟩
  · have := y.2.2.2.1; rw [et] at this
    rw [show b1 ((Rx c n nf t).testBit t = true) = 0 by unfold b1; rw [this]; rfl] at z1
    cases z1
theorem s_canD {l : Nat} {x : aPg} {φ : Int → gT → Prop} (hq : q = 2 ∨ q = 21) (h2 : vI T 0 2 = (q : Int)) (h : cPo T q (some x)) (hl : l < x.2.1) (hk : x.1 l 0 = 5) (k1 : drP x.1 x.2.1 l → φ 1 T) (k0 : ¬ drP x.1 x.2.1 l → φ 0 T) : gC (tP sa) lD b E (d + 1) mX6_isDroppable [.ref (b + 0), .int (zI (l : Int))] T (fun r T' => pI r (fun v => φ v T')) := by
  obtain ⟨c, n, nv, nf⟩ := x
  dsimp only at *
  have hw : wP c n nv nf := h.1.1
  have hn := hw.1
  have hnv := hw.2.1
  obtain ⟨g1, g2, g3, g4⟩ := hw.flat
  refine w_X6_isDroppable (d := d) ?_
  unfold f_X6_isDroppable
  have q1 := (g4 l hl).1.2.1 (by omega)
  have q3 := (g4 l hl).1.2.2.2.1 (by omega)
  have cl := (h.1.2.2.2.2.2.1 l hl)
  have cl3 := (h.1.2.2.2.2.2.1 (c l 3).toNat (by dsimp only; omega))
  have cv := (h.1.2.2.2.2.2.2.2 (c l 1).toNat (by dsimp only; omega))
  have k3 := ((g4 (c l 3).toNat (by omega)).1).1
  dsimp only at cl cl3 cv
  have e3 : aI T (q + 1) 200 (aP T q (l : Int) 0) = c (c l 3).toNat 0 := by
    rw [(cP_pt h.1 hl).1]; dsimp only
    rw [aI_in (by omega), cl3.1]
  refine ⟨q, hq, h2, q, hq, h2, by omega, ?_⟩
  rw [e3]
  have tl : c (c l 3).toNat 0 ≤ 3 → gW (tP sa) lD b E (d + 1) mX6_isDroppable 39 [some (.ref (b + 0)), some (.int (zI (l : Int))), some (.int (zI (c (c l 3).toNat 0)))] [] T (fun r T' => pI r (fun v => φ v T')) := by
    intro y
    refine w_X6_isDroppable_39 ?_
    unfold f_X6_isDroppable_39
    have ea : aI T (q + 9) 100 (aI T (q + 2) 200 (l : Int)) = (mcn c (c l 1).toNat n : Int) := by rw [aI_n (by omega), cl.2.1, aI_in (by omega), cv.2]
    refine ⟨q, hq, h2, q, hq, h2, by omega, ?_⟩
    rw [ea]
    refine ⟨fun z => ⟨_, rfl, k0 (fun y2 => z ?_)⟩, fun z => ⟨_, rfl, k1 ⟨hk, by omega, y⟩⟩⟩
    have := y2.2.1; omega
  refine ⟨fun z => tl (by omega), fun z => ⟨fun z1 => tl (by omega), fun z1 => ⟨fun z2 => tl (by omega), fun z2 => ⟨fun z3 => ⟨_, rfl, k0 (fun y => ?_)⟩, fun z3 => tl (by omega)⟩⟩⟩⟩
  have := y.2.2; omega
theorem s_sort {l : Nat} {w : Int} {x : aPg} {φ : Int → gT → Prop} (hw3 : 3 ≤ w ∧ w ≤ 6) (hq : q = 2 ∨ q = 21) (h2 : vI T 0 2 = (q : Int)) (h : cPo T q (some x)) (hl : l < x.2.1) (k1 : tdP x.1 x.2.1 x.2.2.2 w l → φ 1 T) (k0 : ¬ tdP x.1 x.2.1 x.2.2.2 w l → φ 0 T) : gC (tP sa) lD b E (d + 4) mX6_isOfSort [.ref (b + 0), .int (zI (l : Int)), .int (zI (w - 3))] T (fun r T' => pI r (fun v => φ v T')) := by
  have hn := h.1.1.1
  refine w_X6_isOfSort (d := d + 3) ?_
  unfold f_X6_isOfSort
  unfold tdP at k1 k0
  have kd : ∀ {k : Int} {ψ : Int → gT → Prop}, okI k → (x.1 l 0 = k → ψ 1 T) → (¬ x.1 l 0 = k → ψ 0 T) → gC (tP sa) lD b E (d + 3) mX6_isOfKind [.ref (b + 0), .int (zI (l : Int)), .int (zI k)] T (fun r T' => pI r (fun v => ψ v T')) := by
    intro k ψ hk a1 a0
    refine s_isOfKind (d := d + 2) (by omega) hk hq h2 h (fun y hy _ _ hkk => a1 ?_) (fun y => a0 (fun z => ?_))
    · cases hy; rw [Int.toNat_natCast] at hkk; exact hkk
    · rcases y with y | ⟨y, e, y2⟩
      · cases y
      · cases e; exact y2 ⟨by omega, by rw [Int.toNat_natCast]; exact z⟩
  refine ⟨by omega, fun z => ?_, fun z => ?_, fun z => ?_, fun z => ?_⟩
  · rw [if_pos (by omega)] at k1 k0
    exact kd (by unfold okI; omega) (fun e => ⟨Or.inr rfl, _, rfl, k1 e⟩) (fun e => ⟨Or.inl rfl, _, rfl, k0 e⟩)
  · rw [if_neg (by omega), if_pos (by omega)] at k1 k0
    refine kd (by unfold okI; omega) (fun e => ⟨by omega, fun z => by omega, fun _ => ?_⟩) (fun e => ⟨by omega, fun _ => ⟨_, rfl, k0 (fun y => e y.1)⟩, fun z => absurd rfl z⟩)
    refine s_only (d := d + 1) hq h2 h hl e ?_
    have rg := onF_rg (c := x.1) (n := x.2.1) (nf := x.2.2.2) (l := l)
    have hnf := h.1.1.2.2.1
    exact ⟨by omega, fun z => ⟨_, rfl, k0 (fun y => y.2 z)⟩, fun z => ⟨_, rfl, k1 ⟨e, z⟩⟩⟩
  · rw [if_neg (by omega), if_neg (by omega), if_pos (by omega)] at k1 k0
    refine kd (by unfold okI; omega) (fun e => ⟨by omega, fun z => by omega, fun _ => ?_⟩) (fun e => ⟨by omega, fun _ => ⟨_, rfl, k0 (fun y => e y.1.1)⟩, fun z => absurd rfl z⟩)
    exact s_canI (d := d) hq h2 h hl e (fun y => ⟨by omega, fun z => by omega, fun _ => ⟨_, rfl, k1 y⟩⟩) (fun y => ⟨by omega, fun _ => ⟨_, rfl, k0 y⟩, fun z => absurd rfl z⟩)
  · rw [if_neg (by omega), if_neg (by omega), if_neg (by omega)] at k1 k0
    refine kd (by unfold okI; omega) (fun e => ⟨by omega, fun z => by omega, fun _ => ?_⟩) (fun e => ⟨by omega, fun _ => ⟨_, rfl, k0 (fun y => e y.1)⟩, fun z => absurd rfl z⟩)
    exact s_canD (d := d + 2) hq h2 h hl e (fun y => ⟨by omega, fun z => by omega, fun _ => ⟨_, rfl, k1 y⟩⟩) (fun y => ⟨by omega, fun _ => ⟨_, rfl, k0 y⟩, fun z => absurd rfl z⟩)
theorem s_count {w : Int} {x : aPg} {φ : Int → gT → Prop} (hw3 : 3 ≤ w ∧ w ≤ 6) (hq : q = 2 ∨ q = 21) (h2 : vI T 0 2 = (q : Int)) (h : cPo T q (some x)) (k : φ ((sm (fun l => b1 (tdP x.1 x.2.1 x.2.2.2 w l)) x.2.1 : Nat) : Int) T) : gC (tP sa) lD b E (d + 5) mX6_countExprs [.ref (b + 0), .int (zI (w - 3))] T (fun r T' => pI r (fun v => φ v T')) := by
  have hn := h.1.1.1
  have e0 := h.1.2.2.1
  refine w_X6_countExprs (d := d + 4) ?_
  unfold f_X6_countExprs
  have lp : ∀ (j i : Nat), j + i = x.2.1 → gW (tP sa) lD b E (d + 4 + 1) mX6_countExprs 4 [some (.ref (b + 0)), some (.int (zI (w - 3))), some (.int (zI ((sm (fun l => b1 (tdP x.1 x.2.1 x.2.2.2 w l)) i : Nat) : Int))), some (.int (zI (i : Int)))] [] T (fun r T' => pI r (fun v => φ v T')) := by
    intro j
    induction j with
    | zero =>
      intro i hj
      refine w_X6_countExprs_4 (d := d + 4) ?_
      unfold f_X6_countExprs_4
      obtain rfl : i = x.2.1 := by omega
      exact ⟨q, hq, h2, by omega, fun _ => ⟨_, rfl, k⟩, fun z => absurd z (by omega)⟩
    | succ j ih =>
      intro i hj
      have := ih (i + 1) (by omega)
      rw [sm] at this
      refine w_X6_countExprs_4 (d := d + 4) ?_
      unfold f_X6_countExprs_4
      rw [show (i : Int) + 1 = ((i + 1 : Nat) : Int) by omega]
      refine ⟨q, hq, h2, by omega, fun z => absurd z (by omega), fun _ => ?_⟩
      refine s_sort (d := d) hw3 hq h2 h (by omega) (fun y => ⟨by omega, fun z => by omega, fun _ => ?_⟩) (fun y => ⟨by omega, fun _ => ?_, fun z => absurd rfl z⟩)
      · rw [show b1 (tdP x.1 x.2.1 x.2.2.2 w i) = 1 by unfold b1; rw [if_pos y]] at this
        rw [show ∀ x : Nat, (x : Int) + 1 = ((x + 1 : Nat) : Int) from fun x => by omega]
        exact this
      · rw [show b1 (tdP x.1 x.2.1 x.2.2.2 w i) = 0 by unfold b1; rw [if_neg y]] at this
        rw [Int.add_zero]
        exact this
  exact lp _ 0 (Nat.add_zero _)
theorem s_told {w : Int} (hw : okI w) (h : cA T A) : gC (tP sa) lD b E (d + 6) mX6_told [.ref (b + 0), .int (zI w)] T (sI T (aTold A.2.2.1 A.2.2.2 w) A) := by
  obtain ⟨q, h1, h2, h3, h4, h5, h6⟩ := id h
  refine w_X6_told (d := d + 5) ?_
  unfold f_X6_told aTold
  revert h5
  cases A.2.2.1 with
  | none => intro h5; exact ⟨q, h2, h3, fun z => absurd h5.1 z, fun _ => ⟨rfl, rfl, h⟩⟩
  | some x =>
    intro h5
    have e0 := h5.1.2.2.1
    have e1 := h5.1.2.2.2.1
    have e2 := h5.1.2.2.2.2.1
    have g1 := h5.1.1.flat.1
    dsimp only
    have cnt : ∀ u : Int, 3 ≤ u ∧ u ≤ 6 → w = u → gC (tP sa) lD b E (d + 5) mX6_countExprs [.ref (b + 0), .int (zI (u - 3))] T (fun r T' => pI r (fun v => sI T (if w = 0 then (x.2.1 : Int) else if w = 1 then (x.2.2.2 : Int) else if w = 2 then (x.2.2.1 : Int) else if w = 7 then (A.2.2.2.1 : Int) else if 3 ≤ w ∧ w ≤ 6 then ((sm (fun l => b1 (tdP x.1 x.2.1 x.2.2.2 w l)) x.2.1 : Nat) : Int) else -2) A (some (.int (zI v))) T')) := by
      intro u hu e
      rw [← e]
      refine s_count (d := d) (by omega) h2 h3 h5 ?_
      rw [if_neg (by omega), if_neg (by omega), if_neg (by omega), if_neg (by omega), if_pos (by omega)]
      exact ⟨rfl, rfl, h⟩
    refine ⟨q, h2, h3, fun _ => ⟨hw, fun z => ⟨q, h2, h3, ?_, rfl, h⟩, fun z => ⟨q, h2, h3, ?_, rfl, h⟩, fun z => ⟨q, h2, h3, ?_, rfl, h⟩, fun z => cnt 3 (by omega) z, fun z => cnt 4 (by omega) z, fun z => cnt 5 (by omega) z, fun z => cnt 6 (by omega) z, fun z => ⟨?_, rfl, h⟩, fun z => ⟨?_, rfl, h⟩⟩, fun z => by omega⟩
    · rw [if_pos z, e0]
    · rw [if_neg (by omega), if_pos z, e1]
    · rw [if_neg (by omega), if_neg (by omega), if_pos z, e2]
    · rw [if_neg (by omega), if_neg (by omega), if_neg (by omega), if_pos z, h6.1]
    · rw [if_neg (by omega), if_neg (by omega), if_neg (by omega), if_neg (by omega), if_neg (by omega)]
theorem s_expr {l w : Int} (hl : okI l) (hw : okI w) (h : cA T A) : gC (tP sa) lD b E (d + 2) mX6_expr [.ref (b + 0), .int (zI l), .int (zI w)] T (sI T (aExpr A.2.2.1 l w) A) := by
  obtain ⟨q, h1, h2, h3, h4, h5, h6⟩ := id h
  refine w_X6_expr (d := d + 1) ?_
  unfold f_X6_expr
  refine s_isLabel hl h2 h3 h5 (fun x hx l0 l1 => ⟨by omega, fun _ => ?_, fun z => by omega⟩) (fun y => ⟨by omega, fun z => absurd rfl z, fun _ => ⟨?_, rfl, h⟩⟩)
  · obtain ⟨l, rfl⟩ : ∃ m : Nat, l = (m : Int) := ⟨l.toNat, by omega⟩
    rw [hx] at h5
    have hn := h5.1.1.1
    obtain ⟨a1, a2, a3, a4, a5, a6, a7, a8, a9, a10⟩ := h5.1.2.2.2.2.2.1 l (by omega)
    obtain ⟨p0, p1, p2⟩ := cP_pt h5.1 (show l < x.2.1 by omega)
    unfold aExpr
    rw [hx]
    dsimp only
    rw [if_pos ⟨l0, l1⟩, Int.toNat_natCast]
    refine ⟨hw, fun z => ⟨q, h2, h3, l0, by omega, ?_, rfl, h⟩, fun z => ⟨q, h2, h3, l0, by omega, ?_, rfl, h⟩, fun z => ⟨q, h2, h3, l0, by omega, ?_, rfl, h⟩, fun z => ⟨q, h2, h3, by omega, ?_, rfl, h⟩, fun z => ⟨q, h2, h3, by omega, ?_, rfl, h⟩, fun z => ⟨q, h2, h3, by omega, ?_, rfl, h⟩, fun z => ⟨q, h2, h3, l0, by omega, ?_, rfl, h⟩, fun z => ⟨q, h2, h3, l0, by omega, ?_, rfl, h⟩, fun z => ⟨?_, rfl, h⟩⟩
    · rw [if_pos z, a1]
    · rw [if_neg (by omega), if_pos z, a2]
    · rw [if_neg (by omega), if_neg (by omega), if_pos z, a4]
    · rw [if_neg (by omega), if_neg (by omega), if_neg (by omega), if_pos z, p0]
    · rw [if_neg (by omega), if_neg (by omega), if_neg (by omega), if_neg (by omega), if_pos z, p1]
    · rw [if_neg (by omega), if_neg (by omega), if_neg (by omega), if_neg (by omega), if_neg (by omega), if_pos z, p2]
    · rw [if_neg (by omega), if_neg (by omega), if_neg (by omega), if_neg (by omega), if_neg (by omega), if_neg (by omega), if_pos z, a5]
    · rw [if_neg (by omega), if_neg (by omega), if_neg (by omega), if_neg (by omega), if_neg (by omega), if_neg (by omega), if_neg (by omega), if_pos z, a6]
    · rw [if_neg (by omega), if_neg (by omega), if_neg (by omega), if_neg (by omega), if_neg (by omega), if_neg (by omega), if_neg (by omega), if_neg (by omega)]
  · unfold aExpr
    rcases y with y | ⟨x, y, y2⟩
    · rw [y]
    · rw [y]; dsimp only; rw [if_neg y2]
theorem s_cci {t : Nat} {x : aPg} {φ : Int → gT → Prop} (ht : t < x.2.2.2) (hq : q = 2 ∨ q = 21) (h2 : vI T 0 2 = (q : Int)) (h : cPo T q (some x)) (k : φ ((sm (fun l => b1 (x.1 l 0 = 11 ∧ (opF x.1 x.2.1 l).testBit t = true)) x.2.1 : Nat) : Int) T) : gC (tP sa) lD b E (d + 3) mX6_countCallsInto [.ref (b + 0), .int (zI (t : Int))] T (fun r T' => pI r (fun v => φ v T')) := by
  have hn := h.1.1.1
  have hnf := h.1.1.2.2.1
  have e0 := h.1.2.2.1
  refine w_X6_countCallsInto (d := d + 2) ?_
  unfold f_X6_countCallsInto
  have lp : ∀ (j i : Nat), j + i = x.2.1 → gW (tP sa) lD b E (d + 2 + 1) mX6_countCallsInto 4 [some (.ref (b + 0)), some (.int (zI (t : Int))), some (.int (zI ((sm (fun l => b1 (x.1 l 0 = 11 ∧ (opF x.1 x.2.1 l).testBit t = true)) i : Nat) : Int))), some (.int (zI (i : Int)))] [] T (fun r T' => pI r (fun v => φ v T')) := by
    intro j
    induction j with
    | zero =>
      intro i hj
      refine w_X6_countCallsInto_4 (d := d + 2) ?_
      unfold f_X6_countCallsInto_4
      obtain rfl : i = x.2.1 := by omega
      exact ⟨q, hq, h2, by omega, fun _ => ⟨_, rfl, k⟩, fun z => absurd z (by omega)⟩
    | succ j ih =>
      intro i hj
      have := ih (i + 1) (by omega)
      rw [sm] at this
      refine w_X6_countCallsInto_4 (d := d + 2) ?_
      unfold f_X6_countCallsInto_4
      rw [show (i : Int) + 1 = ((i + 1 : Nat) : Int) by omega]
      refine ⟨q, hq, h2, by omega, fun z => absurd z (by omega), fun _ => ?_⟩
      have no : ¬ (x.1 i 0 = 11 ∧ (opF x.1 x.2.1 i).testBit t = true) → gW (tP sa) lD b E (d + 2 + 1) mX6_countCallsInto 4 [some (.ref (b + 0)), some (.int (zI (t : Int))), some (.int (zI ((sm (fun l => b1 (x.1 l 0 = 11 ∧ (opF x.1 x.2.1 l).testBit t = true)) i : Nat) + 0 : Int))), some (.int (zI ((i + 1 : Nat) : Int)))] [] T (fun r T' => pI r (fun v => φ v T')) := fun y => by
        rw [show b1 (x.1 i 0 = 11 ∧ (opF x.1 x.2.1 i).testBit t = true) = 0 by unfold b1; rw [if_neg y]] at this
        rw [Int.add_zero]
        exact this
      refine s_isOfKind (d := d + 1) (by omega) (by unfold okI; omega) hq h2 h (fun y hy _ _ hkk => ⟨by omega, fun z => by omega, fun _ => ?_⟩) (fun y => ⟨by omega, fun _ => no (fun z => ?_), fun z => absurd rfl z⟩)
      · cases hy
        rw [Int.toNat_natCast] at hkk
        refine s_opF (d := d + 1) hq h2 h (by omega) (by omega) ?_
        rw [bit_u (by omega)]
        refine ⟨fun z => no (fun y => z y.2), fun z => ?_⟩
        rw [show b1 (x.1 i 0 = 11 ∧ (opF x.1 x.2.1 i).testBit t = true) = 1 by unfold b1; rw [if_pos ⟨hkk, z⟩]] at this
        rw [show ∀ x : Nat, (x : Int) + 1 = ((x + 1 : Nat) : Int) from fun x => by omega]
        exact this
      · rcases y with y | ⟨y, e, y2⟩
        · cases y
        · cases e; exact y2 ⟨by omega, by rw [Int.toNat_natCast]; exact z.1⟩
  exact lp _ 0 (Nat.add_zero _)
theorem s_function {t w : Int} (ht : okI t) (hw : okI w) (h : cA T A) : gC (tP sa) lD b E (d + 4) mX6_function [.ref (b + 0), .int (zI t), .int (zI w)] T (sI T (aFun A.2.2.1 t w) A) := by
  obtain ⟨q, h1, h2, h3, h4, h5, h6⟩ := id h
  refine w_X6_function (d := d + 3) ?_
  unfold f_X6_function
  refine s_isFunction ht h2 h3 h5 (fun x hx l0 l1 => ⟨by omega, fun _ => ?_, fun z => by omega⟩) (fun y => ⟨by omega, fun z => absurd rfl z, fun _ => ⟨?_, rfl, h⟩⟩)
  · obtain ⟨c, n, nv, nf⟩ := x
    obtain ⟨t, rfl⟩ : ∃ m : Nat, t = (m : Int) := ⟨t.toNat, by omega⟩
    rw [hx] at h5
    have hn := h5.1.1.1
    have hnf := h5.1.1.2.2.1
    obtain ⟨g1, g2, g3, g4⟩ := h5.1.1.flat
    dsimp only at hn hnf g2 l1
    obtain ⟨e1, e2⟩ := h5.1.2.2.2.2.2.2.1 t (by dsimp only; omega)
    obtain ⟨b1', b2', b3'⟩ := lbN_ok (c := c) (n := n) (t := t) (by omega)
    obtain ⟨a1, a2, a3, a4, a5, a6, a7, a8, a9, a10⟩ := h5.1.2.2.2.2.2.1 _ b1'
    obtain ⟨p0, p1, p2⟩ := cP_pt h5.1 b1'
    dsimp only at e1 e2 a1 a2 a3 p0
    unfold aFun
    rw [hx]
    dsimp only
    rw [if_pos ⟨l0, l1⟩, Int.toNat_natCast]
    refine ⟨q, h2, h3, l0, by omega, hw, ?_⟩
    rw [e1]
    refine ⟨fun z => ⟨?_, rfl, h⟩, fun z => ⟨q, h2, h3, ?_, rfl, h⟩, fun z => ⟨q, h2, h3, ?_, rfl, h⟩, fun z => ⟨q, h2, h3, ?_, rfl, h⟩, fun z => ⟨q, h2, h3, ?_, rfl, h⟩, fun z => ?_, fun z => ?_, fun z => ⟨?_, rfl, h⟩⟩
    · rw [if_pos z]
    · rw [if_neg (by omega), if_pos z, p0]
    · rw [if_neg (by omega), if_neg (by omega), if_pos z, aI_n (by omega), a2]
    · rw [if_neg (by omega), if_neg (by omega), if_neg (by omega), if_pos z, aI_n (by omega), a3]
    · rw [if_neg (by omega), if_neg (by omega), if_neg (by omega), if_neg (by omega), if_pos z, e2]
    · refine s_cci (d := d) (x := (c, n, nv, nf)) (by dsimp only; omega) h2 h3 h5 ?_
      rw [if_neg (by omega), if_neg (by omega), if_neg (by omega), if_neg (by omega), if_neg (by omega), if_pos z]
      exact ⟨rfl, rfl, h⟩
    · refine k_reachesBit h5.2.2.2 (by omega) (by omega) ?_
      rw [if_neg (by omega), if_neg (by omega), if_neg (by omega), if_neg (by omega), if_neg (by omega), if_neg (by omega), if_pos z]
      exact ⟨rfl, rfl, h⟩
    · rw [if_neg (by omega), if_neg (by omega), if_neg (by omega), if_neg (by omega), if_neg (by omega), if_neg (by omega), if_neg (by omega)]
  · unfold aFun
    rcases y with y | ⟨x, y, y2⟩
    · rw [y]
    · rw [y]; dsimp only; rw [if_neg y2]
end CPD
