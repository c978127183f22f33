/-! WHAT IS ANSWERED -/
abbrev sgP (c : Nat → Nat → Int) (n nf l : Nat) : Prop := c l 0 = 11 ∧ onF c n nf l ≠ -1
abbrev inP (c : Nat → Nat → Int) (n nf l : Nat) : Prop := sgP c n nf l ∧ c (lbN c n (onF c n nf l).toNat) 0 = 2 ∧ frc c (lbN c n (onF c n nf l).toNat) = 0 ∧ (Rx c n nf (onF c n nf l).toNat).testBit (onF c n nf l).toNat = false ∧ (c (c l 3).toNat 0 = 0 ∨ c (c l 3).toNat 0 = 2)
abbrev drP (c : Nat → Nat → Int) (n l : Nat) : Prop := c l 0 = 5 ∧ mcn c (c l 1).toNat n = 0 ∧ c (c l 3).toNat 0 ≤ 3
abbrev tdP (c : Nat → Nat → Int) (n nf : Nat) (w : Int) (l : Nat) : Prop := if w = 3 then c l 0 = 11 else if w = 4 then sgP c n nf l else if w = 5 then inP c n nf l else drP c n l
def b1 (p : Prop) [Decidable p] : Nat := if p then 1 else 0
def aTold (po : Option aPg) (rn : aRn) (w : Int) : Int := match po with
  | none => -2
  | some x => if w = 0 then (x.2.1 : Int) else if w = 1 then (x.2.2.2 : Int) else if w = 2 then (x.2.2.1 : Int) else if w = 7 then (rn.1 : Int) else if 3 ≤ w ∧ w ≤ 6 then ((sm (fun l => b1 (tdP x.1 x.2.1 x.2.2.2 w l)) x.2.1 : Nat) : Int) else -2
def aExpr (po : Option aPg) (l w : Int) : Int := match po with
  | none => -2
  | some x => if 0 ≤ l ∧ l < (x.2.1 : Int) then (if w = 0 then x.1 l.toNat 0 else if w = 1 then x.1 l.toNat 1 else if w = 2 then x.1 l.toNat 6 else if w = 3 then x.1 l.toNat 3 else if w = 4 then x.1 l.toNat 4 else if w = 5 then x.1 l.toNat 5 else if w = 6 then foN x.1 l.toNat else if w = 7 then wi x.1 l.toNat else -2) else -2
def aFlow (po : Option aPg) (l : Int) : Int64 := match po with
  | none => 0
  | some x => if 0 ≤ l ∧ l < (x.2.1 : Int) then lJ (Fx x.1 x.2.1 l.toNat) else 0
def aFlows (po : Option aPg) (l : Int) : Int64 := match po with
  | none => 0
  | some x => if 0 ≤ l ∧ l < (x.2.2.1 : Int) then lJ (Gx x.1 x.2.1 l.toNat) else 0
def aReach (po : Option aPg) (t u : Int) : Int := match po with
  | none => -2
  | some x => if (0 ≤ t ∧ t < (x.2.2.2 : Int)) ∧ 0 ≤ u ∧ u < (x.2.2.2 : Int) then (b1 ((Rx x.1 x.2.1 x.2.2.2 t.toNat).testBit u.toNat = true) : Int) else -2
def aSingle (po : Option aPg) (l : Int) : Int := match po with
  | none => -2
  | some x => if (0 ≤ l ∧ l < (x.2.1 : Int)) ∧ x.1 l.toNat 0 = 11 then onF x.1 x.2.1 x.2.2.2 l.toNat else -2
def aFun (po : Option aPg) (t w : Int) : Int := match po with
  | none => -2
  | some x => if 0 ≤ t ∧ t < (x.2.2.2 : Int) then (if w = 0 then (lbN x.1 x.2.1 t.toNat : Int) else if w = 1 then x.1 (lbN x.1 x.2.1 t.toNat) 3 else if w = 2 then x.1 (lbN x.1 x.2.1 t.toNat) 1 else if w = 3 then x.1 (lbN x.1 x.2.1 t.toNat) 2 else if w = 4 then (frc x.1 (lbN x.1 x.2.1 t.toNat) : Int) else if w = 5 then ((sm (fun l => b1 (x.1 l 0 = 11 ∧ (opF x.1 x.2.1 l).testBit t.toNat = true)) x.2.1 : Nat) : Int) else if w = 6 then (b1 ((Rx x.1 x.2.1 x.2.2.2 t.toNat).testBit t.toNat = true) : Int) else -2) else -2
def aUsed (po : Option aPg) (rn : aRn) (l : Int) : Int64 := match po with
  | none => 0
  | some x => if 0 ≤ l ∧ l < (x.2.1 : Int) then rn.2.2 l.toNat else 0
theorem rA.t0 {T : gT} {A : aSt} (h : rA T A) : rA (gI T 0 0 (zI 0)) A := h.of (fG.refl.gI (Or.inl ⟨rfl, Or.inl rfl⟩))
theorem bit_i : ((1 : Int64).toInt32.toInt) = 1 ∧ ((0 : Int64).toInt32.toInt) = 0 := by decide
theorem bit_iv {x t : Nat} (ht : t < 50) : (((lJ x >>> ((zI (t : Int)).toInt64 &&& 63)) &&& 1).toInt32.toInt) = (b1 (x.testBit t = true) : Int) := by
  rw [bit_rv ht]
  unfold b1
  by_cases h : x.testBit t = true
  · rw [if_pos h, if_pos h]; exact bit_i.1
  · rw [if_neg h, if_neg h]; exact bit_i.2
section PUB
variable {sa : Nat → Nat} {b : Nat} {E : Nat × mH} {d : Nat} {T : gT} {A : aSt} {a : Nat} {c : Nat → Nat → Int} {n nv nf : Nat}
abbrev okI (z : Int) : Prop := -2147483648 ≤ z ∧ z < 2147483648
theorem c_isLabel {po : Option aPg} {l : Int} {φ : Int → gT → Prop} (hl : okI l) (hnow : vI T 0 3 = 0 ∨ vI T 0 3 = 1) (h : rPo T po) (k1 : ∀ x a, po = some x → rPa T a x.1 x.2.1 x.2.2.1 x.2.2.2 → 0 ≤ l → l < x.2.1 → φ 1 T) (k0 : (po = none ∨ ∃ x, po = some x ∧ ¬ (0 ≤ l ∧ l < x.2.1)) → φ 0 T) : gC (tP sa) lM b E d mX7_isLabel [.ref (b + 0), .int (zI l)] T (fun r T' => pI r (fun v => φ v T')) := by
  refine w_X7_isLabel ?_
  unfold f_X7_isLabel
  cases po with
  | none =>
    have h4 : vI T 0 4 = 0 := h
    exact ⟨fun _ => ⟨_, rfl, k0 (Or.inl rfl)⟩, fun z => absurd h4 z⟩
  | some x =>
    obtain ⟨a, h⟩ := h
    have h4 := h.2.2.2.1
    obtain ⟨h1, h2, h3, _⟩ := h.2.1
    rw [show (vI T 0 3).toNat = a by omega, h3]
    refine ⟨fun z => by omega, fun _ => ⟨hl, fun z => ⟨_, rfl, k0 (Or.inr ⟨x, rfl, by omega⟩)⟩, fun z => ⟨by omega, by omega, fun z2 => ⟨_, rfl, k0 (Or.inr ⟨x, rfl, by omega⟩)⟩, fun z2 => ⟨_, rfl, k1 x a rfl h (by omega) (by omega)⟩⟩⟩⟩
theorem c_isFunction {po : Option aPg} {l : Int} {φ : Int → gT → Prop} (hl : okI l) (h : rPo T po) (k1 : ∀ x a, po = some x → rPa T a x.1 x.2.1 x.2.2.1 x.2.2.2 → 0 ≤ l → l < x.2.2.2 → φ 1 T) (k0 : (po = none ∨ ∃ x, po = some x ∧ ¬ (0 ≤ l ∧ l < x.2.2.2)) → φ 0 T) : gC (tP sa) lM b E d mX7_isFunction [.ref (b + 0), .int (zI l)] T (fun r T' => pI r (fun v => φ v T')) := by
  refine w_X7_isFunction ?_
  unfold f_X7_isFunction
  cases po with
  | none =>
    have h4 : vI T 0 4 = 0 := h
    exact ⟨fun _ => ⟨_, rfl, k0 (Or.inl rfl)⟩, fun z => absurd h4 z⟩
  | some x =>
    obtain ⟨a, h⟩ := h
    have h4 := h.2.2.2.1
    have h8 := h.2.1.2.2.2.2.1
    have hf := h.1.flat.2.1
    refine ⟨fun z => by omega, fun _ => ⟨hl, fun z => ⟨_, rfl, k0 (Or.inr ⟨x, rfl, by omega⟩)⟩, fun z => ⟨fun z2 => ⟨_, rfl, k0 (Or.inr ⟨x, rfl, by omega⟩)⟩, fun z2 => ⟨_, rfl, k1 x a rfl h (by omega) (by omega)⟩⟩⟩⟩
theorem c_isSingle (h : rPa T a c n nv nf) {l : Nat} (hl : l < n) {φ : Int → gT → Prop} (k1 : sgP c n nf l → φ 1 T) (k0 : ¬ sgP c n nf l → φ 0 T) : gC (tP sa) lM b E (d + 2) mX7_isSingle [.ref (b + 0), .int (zI (l : Int))] T (fun r T' => pI r (fun v => φ v T')) := by
  obtain ⟨hw, hm, _, _, h9, _⟩ := h
  obtain ⟨h1, h2, h3, h4, h5, h6, h7, h8, _⟩ := hm
  obtain ⟨g1, g2, g3, g4⟩ := hw.flat
  have hn := hw.1
  have hnf := hw.2.2.1
  refine w_X7_isSingle (d := d) ?_
  unfold f_X7_isSingle
  rw [show (vI T 0 3).toNat = a by omega, Int.toNat_natCast, h4 l 0 hl (by omega), h4 l 3 hl (by omega)]
  refine ⟨by omega, by omega, fun z => ⟨_, rfl, k0 (fun q => z q.1)⟩, fun z => ?_⟩
  have q3 := (g4 l hl).1.2.2.2.1 (by omega)
  rw [h9 _ (by omega)]
  refine ⟨by omega, by omega, by omega, c_countBits (Fx_lt hw _) ?_⟩
  have hlt := opF_lt hw hl (by omega)
  have hcb := cb_sgl hlt hnf
  have h64 : cb (opF c n l) ≤ 64 := sm_bt 64
  show okI (cb (opF c n l) : Int) ∧ (¬ (cb (opF c n l) : Int) = 1 → _) ∧ ((cb (opF c n l) : Int) = 1 → _)
  refine ⟨by unfold okI; omega, fun z2 => ⟨_, rfl, k0 (fun q => z2 ?_)⟩, fun z2 => ⟨_, rfl, k1 ⟨z, hcb.mp (by omega)⟩⟩⟩
  have := hcb.mpr q.2; omega
theorem c_only (h : rPa T a c n nv nf) {l : Nat} (hl : l < n) (hs : sgP c n nf l) {φ : Int → gT → Prop} (k : φ (onF c n nf l) T) : gC (tP sa) lM b E (d + 2) mX7_only [.ref (b + 0), .int (zI (l : Int))] T (fun r T' => pI r (fun v => φ v T')) := by
  obtain ⟨hw, hm, _, _, h9, _⟩ := h
  obtain ⟨h1, h2, h3, h4, h5, h6, h7, h8, _⟩ := hm
  obtain ⟨g1, g2, g3, g4⟩ := hw.flat
  have hn := hw.1
  have hnf := hw.2.2.1
  have q3 := (g4 l hl).1.2.2.2.1 (by omega)
  obtain ⟨e1, e2⟩ : opF c n l = 2 ^ (opF c n l).log2 ∧ (opF c n l).log2 < nf := by
    have := hs.2
    unfold onF sgl at this
    by_cases q : opF c n l = 2 ^ (opF c n l).log2 ∧ (opF c n l).log2 < nf
    · exact q
    · rw [if_neg q] at this; exact absurd rfl this
  have e3 : onF c n nf l = ((opF c n l).log2 : Int) := by unfold onF sgl; rw [if_pos ⟨e1, e2⟩]
  rw [e3] at k
  refine w_X7_only (d := d) ?_
  unfold f_X7_only
  have lp : ∀ (j t : Nat), j + t = (opF c n l).log2 → gW (tP sa) lM b E (d + 1 + 1) mX7_only 2 [some (.ref (b + 0)), some (.int (zI (l : Int))), some (.int (zI (t : Int)))] [] T (fun r T' => pI r (fun v => φ v T')) := by
    intro j
    induction j with
    | zero =>
      intro t hj
      refine w_X7_only_2 ?_
      unfold f_X7_only_2
      rw [show (vI T 0 3).toNat = a by omega, Int.toNat_natCast, h4 l 3 hl (by omega), h9 _ (by omega), show Fx c n (c l 3).toNat = opF c n l from rfl, bit_rv (by omega)]
      have : (opF c n l).testBit t = true := by rw [e1, show t = (opF c n l).log2 by omega]; exact Nat.testBit_two_pow_self
      rw [if_pos this]
      refine ⟨by omega, by omega, by omega, by omega, fun _ => ⟨_, rfl, ?_⟩, fun z => absurd z (by decide)⟩
      rw [show t = (opF c n l).log2 by omega]; exact k
    | succ j ih =>
      intro t hj
      refine w_X7_only_2 ?_
      unfold f_X7_only_2
      rw [show (vI T 0 3).toNat = a by omega, Int.toNat_natCast, h4 l 3 hl (by omega), h9 _ (by omega), show Fx c n (c l 3).toNat = opF c n l from rfl, bit_rv (by omega)]
      have : ¬ (opF c n l).testBit t = true := by rw [e1, Nat.testBit_two_pow_of_ne (by omega)]; decide
      rw [if_neg this]
      refine ⟨by omega, by omega, by omega, by omega, fun z => absurd rfl z, fun _ => ?_⟩
      exact ih (t + 1) (by omega)
  exact lp _ 0 (Nat.add_zero _)
theorem onF_r {l : Nat} (hs : sgP c n nf l) : ∃ t : Nat, onF c n nf l = (t : Int) ∧ t < nf := by
  have := onF_rg (c := c) (n := n) (nf := nf) (l := l)
  have h := hs.2
  exact ⟨(onF c n nf l).toNat, by omega, by omega⟩
theorem c_canInline (h : rPa T a c n nv nf) {l : Nat} (hl : l < n) {φ : Int → gT → Prop} (k1 : ∀ T', f15 T T' → inP c n nf l → φ 1 T') (k0 : ∀ T', f15 T T' → ¬ inP c n nf l → φ 0 T') : gC (tP sa) lM b E (d + 4) mX7_canInline [.ref (b + 0), .int (zI (l : Int))] T (fun r T' => pI r (fun v => φ v T')) := by
  obtain ⟨hw, hm, _, _, h9, _, hR⟩ := id h
  obtain ⟨h1, h2, h3, h4, h5, h6, h7, h8, _⟩ := hm
  obtain ⟨g1, g2, g3, g4⟩ := hw.flat
  have hn := hw.1
  have hnf := hw.2.2.1
  refine w_X7_canInline (d := d + 2) ?_
  unfold f_X7_canInline
  refine c_isSingle (d := d + 1) h hl (fun hs => ⟨by omega, fun _ => ?_, fun z => by omega⟩) (fun hs => ⟨by omega, fun z => absurd rfl z, fun _ => ⟨_, rfl, k0 T fG.refl (fun q => hs q.1)⟩⟩)
  refine c_only (d := d + 1) h hl hs ?_
  obtain ⟨t, t1, t2⟩ := onF_r hs
  have q3 := (g4 l hl).1.2.2.2.1 (by omega)
  obtain ⟨a1, a2, a3⟩ := lbN_ok (c := c) (n := n) (t := t) (by omega)
  have el := h7 _ a1 a2
  rw [a3] at el
  have et : (onF c n nf l).toNat = t := by omega
  rw [t1, show (vI T 0 3).toNat = a by omega, Int.toNat_natCast, Int.toNat_natCast, el, Int.toNat_natCast, h4 _ 0 a1 (by omega), h4 l 3 hl (by omega), h4 _ 0 (show (c l 3).toNat < n by omega) (by omega)]
  refine ⟨by omega, by omega, by omega, by omega, by omega, by omega, fun z => ⟨_, rfl, k0 T fG.refl (fun q => z ?_)⟩, fun z => ?_⟩
  · have := q.2.1; rw [et] at this; exact this
  refine c_freeOf (d := d) h t2 (fun T1 hf1 => ?_)
  have hb : frc c (lbN c n t) ≤ 100 := by
    unfold frc
    have := sm_bd (f := fun v => if mcn c v (en c (lbN c n t)) ≠ mcn c v (lbN c n t) ∧ (v : Int) < v0c c (lbN c n t) then 1 else 0) (k := 100) (m := 1) (fun i _ => by split <;> omega)
    omega
  rw [hf1.2.1 11 t id, (hR t (by omega)).1, bit_rv (by omega)]
  refine ⟨by omega, fun z2 => ⟨_, rfl, k0 T1 hf1 (fun q => z2 ?_)⟩, fun z2 => ⟨fun z3 => ⟨_, rfl, k0 T1 hf1 (fun q => z3 ?_)⟩, fun z3 => ?_⟩⟩
  · have := q.2.2.1; rw [et] at this; omega
  · have := q.2.2.2.1; rw [et] at this; rw [if_neg (by rw [this]; decide)]
  have hr : (Rx c n nf t).testBit t = false := by
    cases q : (Rx c n nf t).testBit t with
    | false => rfl
    | true => rw [q, if_pos rfl] at z3; exact absurd z3 (by decide)
  have good : (c (c l 3).toNat 0 = 0 ∨ c (c l 3).toNat 0 = 2) → inP c n nf l := fun q => ⟨hs, by rw [et]; exact z, by rw [et]; omega, by rw [et]; exact hr, q⟩
  exact ⟨fun z4 => ⟨_, rfl, k1 T1 hf1 (good (Or.inl z4))⟩, fun z4 => ⟨fun z5 => ⟨_, rfl, k0 T1 hf1 (fun q => q.2.2.2.2.elim z4 z5)⟩, fun z5 => ⟨_, rfl, k1 T1 hf1 (good (Or.inr z5))⟩⟩⟩
theorem c_canDrop (h : rPa T a c n nv nf) {l : Nat} (hl : l < n) {φ : Int → gT → Prop} (k1 : drP c n l → φ 1 T) (k0 : ¬ drP c n l → φ 0 T) : gC (tP sa) lM b E (d + 2) mX7_canDrop [.ref (b + 0), .int (zI (l : Int))] T (fun r T' => pI r (fun v => φ v T')) := by
  obtain ⟨hw, hm, _, _, _⟩ := h
  obtain ⟨h1, h2, h3, h4, h5, h6, h7, h8, h9⟩ := hm
  obtain ⟨g1, g2, g3, g4⟩ := hw.flat
  have hn := hw.1
  have hnv := hw.2.1
  refine w_X7_canDrop (d := d) ?_
  unfold f_X7_canDrop
  rw [show (vI T 0 3).toNat = a by omega, Int.toNat_natCast, h4 l 0 hl (by omega), h4 l 1 hl (by omega), h4 l 3 hl (by omega)]
  refine ⟨by omega, by omega, fun z => ⟨_, rfl, k0 (fun q => z q.1)⟩, fun z => ?_⟩
  have q1 := (g4 l hl).1.2.1 (by omega)
  have q3 := (g4 l hl).1.2.2.2.1 (by omega)
  rw [h9 _ (by omega), h4 _ 0 (show (c l 3).toNat < n by omega) (by omega)]
  refine ⟨by omega, by omega, by omega, fun z2 => ⟨by omega, by omega, fun z3 => ⟨_, rfl, k0 (fun q => by have := q.2.2; omega)⟩, fun z3 => ⟨_, rfl, k1 ⟨z, by omega, by omega⟩⟩⟩, fun z2 => ⟨_, rfl, k0 (fun q => by have := q.2.1; omega)⟩⟩
end PUB
