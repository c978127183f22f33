/-! A RUN, step by step. Values and what is bound, as trees: a number, a function with what it sees; nothing bound, a variable bound, a variable of a fix bound -/
abbrev eT : Type := Std.Format
def vN (x : Int64) : eT := .nest x.toInt .nil
def vC (t : Nat) (e : eT) : eT := .tag t e
def eC (x : Nat) (v e : eT) : eT := .append (.tag x v) (.nest 0 e)
def eF (x t : Nat) (v e : eT) : eT := .append (.tag x v) (.tag t e)
def isC : eT → Option (Nat × eT)
  | .tag t e => some (t, e)
  | _ => none
def nmV : eT → Int64
  | .nest z _ => Int64.ofInt z
  | _ => 0
/-- a variable's value -/
def lkE (c : Nat → Nat → Int) (n v : Nat) : eT → eT
  | .append (.tag x w) (.nest _ e) => if x = v then w else lkE c n v e
  | .append (.tag x w) (.tag t e) => if x = v then w else if c (lbN c n t) 2 = (v : Int) then .tag t e else lkE c n v e
  | _ => .nil
/-- an expr that waits: its label, what is bound there, the first value if it has come -/
abbrev mFr : Type := Nat × eT × Option eT
/-- the expr to be begun, what waits, the value that has come, how many were bound, steps, used -/
abbrev mCf : Type := Option (Nat × eT) × List mFr × eT × Nat × Nat × (Nat → Int64)
/-- how it ended, what came, steps, used -/
abbrev mOu : Type := Int × Int64 × Nat × (Nat → Int64)
def opV (k : Int) (x y : Int64) : Int64 := if k = 6 then x + y else if k = 7 then x - y else if k = 8 then x * y else if k = 9 then (if x = y then 1 else 0) else (if x < y then 1 else 0)
/-- the body of function t, x bound -/
def cBd (c : Nat → Nat → Int) (n t : Nat) (v e : eT) : Nat × eT := ((c (lbN c n t) 3).toNat, if c (lbN c n t) 0 = 3 then eF (c (lbN c n t) 1).toNat t v e else eC (c (lbN c n t) 1).toNat v e)
def uSet (us : Nat → Int64) (l t : Nat) : Nat → Int64 := fun k => if k = l then us l ||| lJ (2 ^ t) else us k
def bg1 (c : Nat → Nat → Int) (n : Nat) (l : Nat) (e : eT) (K : List mFr) (v : eT) (nb st : Nat) (us : Nat → Int64) : mCf :=
  if c l 0 = 0 then (none, K, lkE c n (c l 1).toNat e, nb, st, us)
  else if c l 0 = 1 then (none, K, vN (zI (c l 1)).toInt64, nb, st, us)
  else if c l 0 = 2 ∨ c l 0 = 3 then (none, K, vC (fcn c l) e, nb, st, us)
  else (some ((c l 3).toNat, e), (l, e, none) :: K, v, nb, st, us)
def stk (l st : Nat) (us : Nat → Int64) : mCf ⊕ mOu := .inr (2, (zI (l : Int)).toInt64, st, us)
def hd1 (c : Nat → Nat → Int) (n l : Nat) (e : eT) (h : Option eT) (K : List mFr) (v : eT) (nb st : Nat) (us : Nat → Int64) : mCf ⊕ mOu :=
  if c l 0 = 4 then (match isC v with
    | some _ => stk l st us
    | none => .inl (some (if nmV v = 0 then (c l 5).toNat else (c l 4).toNat, e), K, v, nb, st, us))
  else if c l 0 = 5 then .inl (some ((c l 4).toNat, eC (c l 1).toNat v e), K, v, nb + 1, st, us)
  else match h with
    | none => .inl (some ((c l 4).toNat, e), (l, e, some v) :: K, v, nb, st, us)
    | some w => if c l 0 = 11 then (match isC w with
        | none => stk l st us
        | some (t, e') => .inl (some (cBd c n t v e'), K, v, nb + 1, st, uSet us l t))
      else match isC v with
        | some _ => stk l st us
        | none => match isC w with
          | some _ => stk l st us
          | none => .inl (none, K, vN (opV (c l 0) (nmV w) (nmV v)), nb, st, us)
def st1 (c : Nat → Nat → Int) (n most : Nat) : mCf → mCf ⊕ mOu
  | (some (l, e), K, v, nb, st, us) => if st = most then .inr (3, 0, st, us) else .inl (bg1 c n l e K v nb (st + 1) us)
  | (none, [], v, _, st, us) => .inr (match isC v with
    | none => (0, nmV v, st, us)
    | some (t, _) => (1, (zI (t : Int)).toInt64, st, us))
  | (none, (l, e, h) :: K, v, nb, st, us) => hd1 c n l e h K v nb st us
def rnF (c : Nat → Nat → Int) (n most : Nat) : Nat → mCf → mOu
  | 0, _ => (3, 0, 0, fun _ => 0)
  | f + 1, s => match st1 c n most s with
    | .inl s' => rnF c n most f s'
    | .inr o => o
def cf0 : mCf := (some (0, .nil), [], .nil, 0, 0, fun _ => 0)
/-- what a run of at most `most` steps comes to -/
def rnP (c : Nat → Nat → Int) (n most : Nat) : mOu := rnF c n most (4 * most) cf0
/-! what fits: what is bound is what the text binds -/
def wAt (c : Nat → Nat → Int) (n l : Nat) (vs : List Nat) : Prop := ∃ f e up v0 v1 f0 f1, e ≤ n ∧ wf c f l e up vs v0 v1 f0 f1 ∧ ∀ x, x ∈ vs → x < v0
/-- a value (none), or what is bound where vs are in sight -/
def fit (c : Nat → Nat → Int) (n : Nat) : eT → Option (List Nat) → Prop
  | .nil, some vs => vs = []
  | .nest _ _, none => True
  | .tag t e, none => t < fcn c n ∧ ∃ vs, wAt c n (lbN c n t) vs ∧ fit c n e (some vs)
  | .append (.tag x w) (.nest _ e), some vs => fit c n w none ∧ ∃ vs', vs = x :: vs' ∧ fit c n e (some vs') ∧ ∃ g, g < n ∧ (c g 0 = 2 ∨ c g 0 = 5) ∧ c g 1 = (x : Int)
  | .append (.tag x w) (.tag t e), some vs => fit c n w none ∧ t < fcn c n ∧ c (lbN c n t) 0 = 3 ∧ c (lbN c n t) 1 = (x : Int) ∧ ∃ vs' y, c (lbN c n t) 2 = ((y : Nat) : Int) ∧ vs = x :: y :: vs' ∧ wAt c n (lbN c n t) vs' ∧ fit c n e (some vs')
  | _, _ => False
section CEK
variable {c : Nat → Nat → Int} {n nv nf : Nat}
theorem wAt.lt {l : Nat} {vs : List Nat} (h : wAt c n l vs) : l < n := by
  obtain ⟨f, e, up, v0, v1, f0, f1, h1, h2, _⟩ := h
  have := wf_lt _ _ _ _ _ _ _ _ _ h2
  omega
theorem fit_lk : ∀ (e : eT) (vs : List Nat) (v : Nat), fit c n e (some vs) → v ∈ vs → fit c n (lkE c n v e) none
  | .nil, vs, v, h, hv => by
    rw [fit] at h
    rw [h] at hv; cases hv
  | .append (.tag x w) (.nest z e), vs, v, h, hv => by
    rw [fit] at h
    obtain ⟨h2, vs', h3, h4⟩ := h
    rw [lkE]
    split
    · exact h2
    · rename_i q
      refine fit_lk e vs' v h4.1 ?_
      rw [h3] at hv
      rcases List.mem_cons.mp hv with z | z
      · exact absurd z.symm q
      · exact z
  | .append (.tag x w) (.tag t e), vs, v, h, hv => by
    rw [fit] at h
    obtain ⟨h2, h3, h4, h5, vs', y, h6, h7, h8, h9⟩ := h
    rw [lkE]
    split
    · exact h2
    split
    · rw [fit]; exact ⟨h3, vs', h8, h9⟩
    · rename_i q q2
      refine fit_lk e vs' v h9 ?_
      rw [h7] at hv
      rcases List.mem_cons.mp hv with z | z
      · exact absurd z.symm q
      · rcases List.mem_cons.mp z with z | z
        · exact absurd (by rw [h6, z]) q2
        · exact z
theorem fit_isC {v : eT} (h : fit c n v none) : (isC v = none ∧ ∃ z e, v = .nest z e) ∨ ∃ t e, isC v = some (t, e) ∧ v = .tag t e ∧ t < fcn c n ∧ ∃ vs, wAt c n (lbN c n t) vs ∧ fit c n e (some vs) := by
  match v with
  | .nest z e => exact Or.inl ⟨rfl, z, e, rfl⟩
  | .tag t e => rw [fit] at h; exact Or.inr ⟨t, e, rfl, rfl, h⟩
  | .append p q => unfold fit at h; split at h <;> first | exact h.elim | contradiction
  | .nil => unfold fit at h; exact h.elim
  | .line => unfold fit at h; exact h.elim
  | .align _ => unfold fit at h; exact h.elim
  | .text _ => unfold fit at h; exact h.elim
  | .group _ _ => unfold fit at h; exact h.elim
/-- the parts of an expr, and what is in sight there -/
theorem wAt.parts {l : Nat} {vs : List Nat} (h : wAt c n l vs) : (c l 0 = 0 → ∃ x, x ∈ vs ∧ c l 1 = ((x : Nat) : Int)) ∧ (c l 0 = 2 → ∃ x : Nat, c l 1 = (x : Int) ∧ c l 3 = ((l + 1 : Nat) : Int) ∧ wAt c n (l + 1) (x :: vs)) ∧ (c l 0 = 3 → ∃ x y : Nat, c l 1 = (x : Int) ∧ c l 2 = (y : Int) ∧ c l 3 = ((l + 1 : Nat) : Int) ∧ wAt c n (l + 1) (x :: y :: vs)) ∧
    (4 ≤ c l 0 → c l 0 ≤ 11 ∧ ∃ m : Nat, c l 3 = ((l + 1 : Nat) : Int) ∧ wAt c n (l + 1) vs ∧ c l 4 = (m : Int) ∧ (c l 0 = 4 → wAt c n m vs ∧ ∃ m2 : Nat, c l 5 = (m2 : Int) ∧ wAt c n m2 vs) ∧ (c l 0 = 5 → ∃ x : Nat, c l 1 = (x : Int) ∧ wAt c n m (x :: vs)) ∧ (6 ≤ c l 0 → wAt c n m vs)) := by
  obtain ⟨f, e, up, v0, v1, f0, f1, h1, h2, hv⟩ := h
  cases f with
  | zero => exact h2.elim
  | succ f =>
    obtain ⟨_, h⟩ := h2
    rcases h with h | h | h | h | h | h | h
    · exact ⟨fun _ => h.2.1, by omega, by omega, by omega⟩
    · exact ⟨by omega, by omega, by omega, by omega⟩
    · obtain ⟨k0, k1, _, k3, _, _, h1'⟩ := h
      refine ⟨by omega, fun _ => ⟨v0, k1, k3, f, e, l, v0 + 1, v1, f0 + 1, f1, h1, h1', fun x hx => ?_⟩, by omega, by omega⟩
      rcases List.mem_cons.mp hx with z | z
      · omega
      · have := hv x z; omega
    · obtain ⟨k0, k1, k2, k3, _, _, h1'⟩ := h
      refine ⟨by omega, by omega, fun _ => ⟨v0 + 1, v0, k1, k2, k3, f, e, l, v0 + 2, v1, f0 + 1, f1, h1, h1', fun x hx => ?_⟩, by omega⟩
      rcases List.mem_cons.mp hx with z | z
      · omega
      · rcases List.mem_cons.mp z with z | z
        · omega
        · have := hv x z; omega
    · obtain ⟨k0, k1, _, k3, _, m, v, g, k4, h1', h2'⟩ := h
      have a1 := wf_lt _ _ _ _ _ _ _ _ _ h1'
      have a2 := wf_lt _ _ _ _ _ _ _ _ _ h2'
      refine ⟨by omega, by omega, by omega, fun _ => ⟨by omega, m, k3, ⟨f, m, l, v0 + 1, v, f0, g, by omega, h1', fun x hx => by have := hv x hx; omega⟩, k4, fun z => by omega, fun _ => ⟨v0, k1, f, e, l, v, v1, g, f1, h1, h2', fun x hx => ?_⟩, fun z => by omega⟩⟩
      rcases List.mem_cons.mp hx with z | z
      · omega
      · have := hv x z; omega
    · obtain ⟨k0, _, _, k3, m, v, g, m2, v2, g2, k4, k5, h1', h2', h3'⟩ := h
      have a1 := wf_lt _ _ _ _ _ _ _ _ _ h1'
      have a2 := wf_lt _ _ _ _ _ _ _ _ _ h2'
      have a3 := wf_lt _ _ _ _ _ _ _ _ _ h3'
      exact ⟨by omega, by omega, by omega, fun _ => ⟨by omega, m, k3, ⟨f, m, l, v0, v, f0, g, by omega, h1', hv⟩, k4, fun _ => ⟨⟨f, m2, l, v, v2, g, g2, by omega, h2', fun x hx => by have := hv x hx; omega⟩, m2, k5, ⟨f, e, l, v2, v1, g2, f1, h1, h3', fun x hx => by have := hv x hx; omega⟩⟩, fun z => by omega, fun z => by omega⟩⟩
    · obtain ⟨k0, _, _, k3, _, m, v, g, k4, h1', h2'⟩ := h
      have a1 := wf_lt _ _ _ _ _ _ _ _ _ h1'
      have a2 := wf_lt _ _ _ _ _ _ _ _ _ h2'
      exact ⟨by omega, by omega, by omega, fun _ => ⟨by omega, m, k3, ⟨f, m, l, v0, v, f0, g, by omega, h1', hv⟩, k4, fun z => by omega, fun z => by omega, fun _ => ⟨f, e, l, v, v1, g, f1, h1, h2', fun x hx => by have := hv x hx; omega⟩⟩⟩
/-- what waits, fits -/
def fitK (c : Nat → Nat → Int) (n : Nat) : List mFr → Prop
  | [] => True
  | (l, e, h) :: K => (4 ≤ c l 0 ∧ ∃ vs, wAt c n l vs ∧ fit c n e (some vs)) ∧ (∀ w, h = some w → 6 ≤ c l 0 ∧ fit c n w none) ∧ fitK c n K
def cr1 : Option eT → Nat
  | none => 1
  | some _ => 2
def pt1 : Option eT → Nat
  | none => 2
  | some _ => 1
theorem cr1_ge (h : Option eT) : 1 ≤ cr1 h ∧ 1 ≤ pt1 h := by cases h <;> (constructor <;> (first | exact Nat.le_refl _ | exact Nat.le_succ _))
def crd : List mFr → Nat
  | [] => 0
  | p :: K => cr1 p.2.2 + crd K
def pot : List mFr → Nat
  | [] => 0
  | p :: K => pt1 p.2.2 + pot K
/-- a state of a run -/
def iCf (c : Nat → Nat → Int) (n most : Nat) (s : mCf) : Prop := fitK c n s.2.1 ∧ 2 * s.2.2.2.1 + crd s.2.1 + (if s.1 = none then 1 else 0) ≤ s.2.2.2.2.1 ∧ s.2.2.2.2.1 ≤ most ∧ (s.1 = none → fit c n s.2.2.1 none) ∧ ∀ l e, s.1 = some (l, e) → ∃ vs, wAt c n l vs ∧ fit c n e (some vs)
theorem bg1_i (hw : wP c n nv nf) {l : Nat} {e : eT} {K : List mFr} {v : eT} {nb st most : Nat} {us : Nat → Int64} (h : iCf c n most (some (l, e), K, v, nb, st, us)) (hs : st ≠ most) : iCf c n most (bg1 c n l e K v nb (st + 1) us) := by
  obtain ⟨h1, h2, h3, h4, h5⟩ := h
  obtain ⟨vs, h6, h7⟩ := h5 l e rfl
  dsimp only at h1 h2 h3
  rw [if_neg (by intro q; cases q)] at h2
  have hA : 2 * nb + crd K + 1 ≤ st + 1 := by omega
  have hB : st + 1 ≤ most := by omega
  have w1 := (hw.flat.2.2.2 l h6.lt).1.1
  unfold bg1
  by_cases k0 : c l 0 = 0
  · rw [if_pos k0]
    obtain ⟨x, x1, x2⟩ := h6.parts.1 k0
    refine ⟨h1, by dsimp only; rw [if_pos rfl]; exact hA, hB, fun _ => ?_, fun l e z => by cases z⟩
    dsimp only
    rw [x2, Int.toNat_natCast]
    exact fit_lk e vs x h7 x1
  rw [if_neg k0]
  by_cases k1 : c l 0 = 1
  · rw [if_pos k1]
    exact ⟨h1, by dsimp only; rw [if_pos rfl]; exact hA, hB, fun _ => trivial, fun l e z => by cases z⟩
  rw [if_neg k1]
  by_cases k2 : c l 0 = 2 ∨ c l 0 = 3
  · rw [if_pos k2]
    refine ⟨h1, by dsimp only; rw [if_pos rfl]; exact hA, hB, fun _ => ?_, fun l e z => by cases z⟩
    dsimp only
    unfold vC
    rw [fit, lbN_fcn h6.lt k2]
    refine ⟨?_, vs, h6, h7⟩
    have q : fcn c (l + 1) ≤ fcn c n := fcn_mono h6.lt
    rw [fcn, if_pos k2] at q
    omega
  rw [if_neg k2]
  have k4 : 4 ≤ c l 0 := by omega
  obtain ⟨p1, m, p2, p3, _⟩ := h6.parts.2.2.2 k4
  refine ⟨⟨⟨k4, vs, h6, h7⟩, (fun w z => by cases z), h1⟩, ?_, hB, (fun z => by cases z), fun l2 e2 z => ?_⟩
  · dsimp only
    rw [if_neg (by intro q; cases q), crd]
    show 2 * nb + (1 + crd K) + 0 ≤ st + 1
    clear p3 h1 h4 h5 h6 h7
    omega
  · cases z
    rw [p2, Int.toNat_natCast]
    exact ⟨vs, p3, h7⟩
theorem cBd_fit {t : Nat} {v e : eT} {vs : List Nat} (hw : wP c n nv nf) (hv : fit c n v none) (ht : t < fcn c n) (h : wAt c n (lbN c n t) vs) (he : fit c n e (some vs)) : ∃ vs', wAt c n (cBd c n t v e).1 vs' ∧ fit c n (cBd c n t v e).2 (some vs') := by
  obtain ⟨a1, a2, a3⟩ := lbN_ok ht
  unfold cBd
  dsimp only
  rcases a2 with k | k
  · obtain ⟨x, x1, x2, x3⟩ := h.parts.2.1 k
    rw [if_neg (by rw [k]; decide), x1, x2, Int.toNat_natCast, Int.toNat_natCast]
    refine ⟨_, x3, ?_⟩
    unfold eC
    rw [fit]
    exact ⟨hv, vs, rfl, he, _, h.lt, Or.inl k, x1⟩
  · obtain ⟨x, y, x1, y1, x2, x3⟩ := h.parts.2.2.1 k
    rw [if_pos k, x1, x2, Int.toNat_natCast, Int.toNat_natCast]
    refine ⟨_, x3, ?_⟩
    unfold eF
    rw [fit]
    exact ⟨hv, ht, k, x1, vs, y, y1, rfl, h, he⟩
theorem hd1_i (hw : wP c n nv nf) {l : Nat} {e : eT} {h : Option eT} {K : List mFr} {v : eT} {nb st most : Nat} {us : Nat → Int64} (hI : iCf c n most (none, (l, e, h) :: K, v, nb, st, us)) {s' : mCf} (hs : hd1 c n l e h K v nb st us = .inl s') : iCf c n most s' := by
  obtain ⟨⟨⟨k4, vs, h6, h7⟩, hh, hK⟩, h2, h3, h4, _⟩ := hI
  have hv := h4 rfl
  dsimp only at h2 h3 hv
  rw [if_pos rfl, crd] at h2
  dsimp only at h2
  have hc1 := (cr1_ge h).1
  obtain ⟨p1, m, p2, p3, p4, p5, p6, p7⟩ := h6.parts.2.2.2 k4
  unfold hd1 at hs
  by_cases z4 : c l 0 = 4
  · rw [if_pos z4] at hs
    obtain ⟨q1, m2, q2, q3⟩ := p5 z4
    split at hs
    · cases hs
    · cases hs
      refine ⟨hK, ?_, h3, (fun z => by cases z), fun l2 e2 z => ?_⟩
      · dsimp only; rw [if_neg (by intro q; cases q)]
        clear p5 p6 p7 hh
        omega
      · cases z
        rw [p4, q2, Int.toNat_natCast, Int.toNat_natCast]
        split
        · exact ⟨vs, q3, h7⟩
        · exact ⟨vs, q1, h7⟩
  rw [if_neg z4] at hs
  by_cases z5 : c l 0 = 5
  · rw [if_pos z5] at hs
    obtain ⟨x, q1, q2⟩ := p6 z5
    cases hs
    refine ⟨hK, ?_, h3, (fun z => by cases z), fun l2 e2 z => ?_⟩
    · dsimp only; rw [if_neg (by intro q; cases q)]
      clear p5 p6 p7 hh
      omega
    · cases z
      rw [p4, q1, Int.toNat_natCast, Int.toNat_natCast]
      refine ⟨_, q2, ?_⟩
      unfold eC
      rw [fit]
      exact ⟨hv, vs, rfl, h7, l, h6.lt, Or.inr z5, q1⟩
  rw [if_neg z5] at hs
  have k6 : 6 ≤ c l 0 := by clear p5 p6 p7 hh; omega
  cases h with
  | none =>
    dsimp only at hs
    cases hs
    refine ⟨⟨⟨k4, vs, h6, h7⟩, fun w z => ?_, hK⟩, ?_, h3, (fun z => by cases z), fun l2 e2 z => ?_⟩
    · cases z; exact ⟨k6, hv⟩
    · dsimp only; rw [if_neg (by intro q; cases q), crd]
      clear p5 p6 p7 hh
      have e1 : cr1 (none : Option eT) = 1 := rfl
      have e2 : cr1 (some v) = 2 := rfl
      dsimp only
      rw [e1] at h2; rw [e2]; omega
    · cases z
      rw [p4, Int.toNat_natCast]
      exact ⟨vs, p7 k6, h7⟩
  | some w =>
    obtain ⟨_, hwf⟩ := hh w rfl
    dsimp only at hs
    have e2 : cr1 (some w) = 2 := rfl
    rw [e2] at h2
    by_cases z11 : c l 0 = 11
    · rw [if_pos z11] at hs
      rcases fit_isC hwf with ⟨q, _⟩ | ⟨t, e', q, _, q2, vs2, q3, q4⟩
      · rw [q] at hs; cases hs
      · rw [q] at hs; dsimp only at hs
        cases hs
        refine ⟨hK, ?_, h3, (fun z => by cases z), fun l2 e2 z => ?_⟩
        · dsimp only; rw [if_neg (by intro q; cases q)]
          clear p5 p6 p7 hh
          omega
        · have := cBd_fit (v := v) hw hv q2 q3 q4
          dsimp only at z
          cases z
          exact this
    · rw [if_neg z11] at hs
      split at hs
      · cases hs
      · split at hs
        · cases hs
        · cases hs
          refine ⟨hK, ?_, h3, fun _ => trivial, (fun l e z => by cases z)⟩
          dsimp only; rw [if_pos rfl]
          clear p5 p6 p7 hh
          omega
/-- every turn but the last brings the end nearer -/
def msr (most : Nat) (s : mCf) : Nat := 4 * (most - s.2.2.2.2.1) + pot s.2.1
theorem bg1_m {l : Nat} {e : eT} {K : List mFr} {v : eT} {nb st most : Nat} {us : Nat → Int64} (hs : st < most) : msr most (bg1 c n l e K v nb (st + 1) us) + 2 ≤ msr most (some (l, e), K, v, nb, st, us) := by
  unfold bg1 msr
  split
  · dsimp only; omega
  split
  · dsimp only; omega
  split
  · dsimp only; omega
  · dsimp only; rw [pot]
    have e1 : pt1 (none : Option eT) = 2 := rfl
    dsimp only; rw [e1]; omega
theorem hd1_m {l : Nat} {e : eT} {h : Option eT} {K : List mFr} {v : eT} {nb st most : Nat} {us : Nat → Int64} {s' : mCf} (hs : hd1 c n l e h K v nb st us = .inl s') : msr most s' + 1 ≤ msr most (none, (l, e, h) :: K, v, nb, st, us) := by
  have hp := (cr1_ge h).2
  unfold hd1 at hs
  have m0 : msr most (none, (l, e, h) :: K, v, nb, st, us) = 4 * (most - st) + (pt1 h + pot K) := rfl
  rw [m0]
  split at hs
  · split at hs
    · cases hs
    · cases hs; unfold msr; dsimp only; omega
  split at hs
  · cases hs; unfold msr; dsimp only; omega
  split at hs
  · cases hs
    show 4 * (most - st) + (1 + pot K) + 1 ≤ 4 * (most - st) + (2 + pot K)
    omega
  split at hs
  · split at hs
    · cases hs
    · cases hs; unfold msr; dsimp only; omega
  · split at hs
    · cases hs
    · split at hs
      · cases hs
      · cases hs; unfold msr; dsimp only; omega
theorem st1_i (hw : wP c n nv nf) {most : Nat} {s s' : mCf} (hI : iCf c n most s) (hs : st1 c n most s = .inl s') : iCf c n most s' ∧ msr most s' + 1 ≤ msr most s := by
  obtain ⟨cu, K, v, nb, st, us⟩ := s
  cases cu with
  | some p =>
    obtain ⟨l, e⟩ := p
    rw [st1] at hs
    split at hs
    · cases hs
    · rename_i q
      cases hs
      have h3 := hI.2.2.1
      dsimp only at h3
      have := bg1_m (c := c) (n := n) (l := l) (e := e) (K := K) (v := v) (nb := nb) (st := st) (most := most) (us := us) (by omega)
      exact ⟨bg1_i hw hI q, by omega⟩
  | none =>
    cases K with
    | nil => rw [st1] at hs; cases hs
    | cons p K =>
      obtain ⟨l, e, h⟩ := p
      rw [st1] at hs
      exact ⟨hd1_i hw hI hs, hd1_m hs⟩
theorem cf0_i (hw : wP c n nv nf) {most : Nat} : iCf c n most cf0 := by
  refine ⟨trivial, Nat.le_refl _, Nat.zero_le _, (fun z => by cases z), fun l e z => ?_⟩
  cases z
  obtain ⟨h1, h2, h3, f, hf⟩ := hw
  exact ⟨[], ⟨f, n, -1, 0, nv, 0, nf, Nat.le_refl _, hf, fun x hx => by cases hx⟩, rfl⟩
/-- more fuel than is needed changes nothing -/
theorem rnF_more (hw : wP c n nv nf) {most : Nat} : ∀ (f g : Nat) (s : mCf), iCf c n most s → msr most s < f → f ≤ g → rnF c n most g s = rnF c n most f s := by
  intro f
  induction f with
  | zero => intro g s _ h; omega
  | succ f ih =>
    intro g s hI h hg
    obtain ⟨g, rfl⟩ : ∃ g', g = g' + 1 := ⟨g - 1, by omega⟩
    rw [rnF, rnF]
    cases hs : st1 c n most s with
    | inr o => rfl
    | inl s' =>
      obtain ⟨q1, q2⟩ := st1_i hw hI hs
      exact ih g s' q1 (by omega) (by omega)
/-- the fuel of rnP is enough -/
theorem rnP_eq (hw : wP c n nv nf) {most : Nat} (hm : 0 < most) {f : Nat} (hf : 4 * most ≤ f) : rnF c n most f cf0 = rnP c n most := by
  have g0 : st1 c n most cf0 = .inl (bg1 c n 0 .nil [] .nil 0 1 (fun _ => 0)) := by
    unfold cf0; rw [st1, if_neg (by omega)]
  have m0 : msr most (bg1 c n 0 .nil [] .nil 0 1 (fun _ => 0)) + 2 ≤ 4 * most := by
    have := bg1_m (c := c) (n := n) (l := 0) (e := .nil) (K := []) (v := .nil) (nb := 0) (st := 0) (most := most) (us := fun _ => 0) hm
    have e : msr most (some (0, .nil), [], .nil, 0, 0, fun _ => 0) = 4 * (most - 0) + 0 := rfl
    rw [show (0 : Nat) + 1 = 1 from rfl] at this
    omega
  have i0 := (st1_i hw (cf0_i hw) g0).1
  unfold rnP
  obtain ⟨f, rfl⟩ : ∃ f', f = f' + 1 := ⟨f - 1, by omega⟩
  obtain ⟨q, hq⟩ : ∃ q, 4 * most = q + 1 := ⟨4 * most - 1, by omega⟩
  rw [hq, rnF, rnF, g0]
  dsimp only
  exact rnF_more hw q f _ i0 (by omega) (by omega)
end CEK
