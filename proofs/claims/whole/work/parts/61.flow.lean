/-! FLOWS, as sets of functions in numbers -/
def sub (a b : Nat) : Prop := a ||| b = b
theorem sub_iff {a b : Nat} : sub a b ↔ ∀ t, a.testBit t = true → b.testBit t = true := by
  unfold sub
  constructor
  · intro h t ht
    have := congrArg (Nat.testBit · t) h
    simp only [Nat.testBit_or, ht, Bool.true_or] at this
    exact this.symm
  · intro h
    apply Nat.eq_of_testBit_eq
    intro t
    rw [Nat.testBit_or]
    cases ha : a.testBit t with
    | true => rw [h t ha]; rfl
    | false => rw [Bool.false_or]
theorem sub_refl {a : Nat} : sub a a := sub_iff.mpr fun _ h => h
theorem sub_or {a b c : Nat} (h : sub a c) (h2 : sub b c) : sub (a ||| b) c := sub_iff.mpr fun t ht => by
  rw [Nat.testBit_or, Bool.or_eq_true] at ht
  exact ht.elim (sub_iff.mp h t) (sub_iff.mp h2 t)
theorem sub_of_or {a b : Nat} (h : a ||| b = a) : sub b a := sub_iff.mpr fun t ht => by
  rw [← h, Nat.testBit_or, ht, Bool.or_true]
theorem sub_trans {a b c : Nat} (h : sub a b) (h2 : sub b c) : sub a c := sub_iff.mpr fun t ht => sub_iff.mp h2 t (sub_iff.mp h t ht)
theorem sub_anti {a b : Nat} (h : sub a b) (h2 : sub b a) : a = b := by
  apply Nat.eq_of_testBit_eq
  intro t
  cases ha : a.testBit t with
  | true => exact (sub_iff.mp h t ha).symm
  | false =>
    cases hb : b.testBit t with
    | true => rw [sub_iff.mp h2 t hb] at ha; cases ha
    | false => rfl
/-- the exprs' sets, the variables' sets, has one grown -/
abbrev fS : Type := (Nat → Nat) × (Nat → Nat) × Bool
def jE (s : fS) (l x : Nat) : fS := if s.1 l ||| x = s.1 l then s else (fun k => if k = l then s.1 l ||| x else s.1 k, s.2.1, true)
def jV (s : fS) (v x : Nat) : fS := if s.2.1 v ||| x = s.2.1 v then s else (s.1, fun k => if k = v then s.2.1 v ||| x else s.2.1 k, true)
/-- the label of function t -/
def lbN (c : Nat → Nat → Int) : Nat → Nat → Nat
  | 0, _ => 0
  | l + 1, t => if (c l 0 = 2 ∨ c l 0 = 3) ∧ fcn c l = t then l else lbN c l t
def fC1 (c : Nat → Nat → Int) (n l t : Nat) (s : fS) : fS := jE (jV s (c (lbN c n t) 1).toNat (s.1 (c l 4).toNat)) l ((jV s (c (lbN c n t) 1).toNat (s.1 (c l 4).toNat)).1 (c (lbN c n t) 3).toNat)
def fCl (c : Nat → Nat → Int) (n l all : Nat) : Nat → Nat → fS → fS
  | 0, _, s => s
  | k + 1, t, s => fCl c n l all k (t + 1) (if all.testBit t = true then fC1 c n l t s else s)
/-- what one expr asks for -/
def fl (c : Nat → Nat → Int) (n l : Nat) (s : fS) : fS :=
  if c l 0 = 0 then jE s l (s.2.1 (c l 1).toNat)
  else if c l 0 = 2 then jE s l (2 ^ fcn c l)
  else if c l 0 = 3 then jV (jE s l (2 ^ fcn c l)) (c l 2).toNat (2 ^ fcn c l)
  else if c l 0 = 4 then jE s l (s.1 (c l 4).toNat ||| s.1 (c l 5).toNat)
  else if c l 0 = 5 then jE (jV s (c l 1).toNat (s.1 (c l 3).toNat)) l ((jV s (c l 1).toNat (s.1 (c l 3).toNat)).1 (c l 4).toNat)
  else if c l 0 = 11 then fCl c n l (s.1 (c l 3).toNat) (fcn c n) 0 s
  else s
/-- the constraints of one expr -/
def con (c : Nat → Nat → Int) (n l : Nat) (F G : Nat → Nat) : Prop :=
  (c l 0 = 0 → sub (G (c l 1).toNat) (F l)) ∧ ((c l 0 = 2 ∨ c l 0 = 3) → sub (2 ^ fcn c l) (F l)) ∧ (c l 0 = 3 → sub (2 ^ fcn c l) (G (c l 2).toNat)) ∧
  (c l 0 = 4 → sub (F (c l 4).toNat) (F l) ∧ sub (F (c l 5).toNat) (F l)) ∧ (c l 0 = 5 → sub (F (c l 3).toNat) (G (c l 1).toNat) ∧ sub (F (c l 4).toNat) (F l)) ∧
  (c l 0 = 11 → ∀ t, t < fcn c n → (F (c l 3).toNat).testBit t = true → sub (F (c l 4).toNat) (G (c (lbN c n t) 1).toNat) ∧ sub (F (c (lbN c n t) 3).toNat) (F l))
def sol (c : Nat → Nat → Int) (n : Nat) (F G : Nat → Nat) : Prop := ∀ l, l < n → con c n l F G
/-- the least solution -/
def lst (c : Nat → Nat → Int) (n nv : Nat) (F G : Nat → Nat) : Prop := sol c n F G ∧ ∀ X Y, sol c n X Y → (∀ l, l < n → sub (F l) (X l)) ∧ ∀ v, v < nv → sub (G v) (Y v)
theorem lst_eq {c : Nat → Nat → Int} {n nv : Nat} {F G F2 G2 : Nat → Nat} (h : lst c n nv F G) (h2 : lst c n nv F2 G2) : (∀ l, l < n → F l = F2 l) ∧ ∀ v, v < nv → G v = G2 v :=
  ⟨fun l hl => sub_anti ((h.2 _ _ h2.1).1 l hl) ((h2.2 _ _ h.1).1 l hl), fun v hv => sub_anti ((h.2 _ _ h2.1).2 v hv) ((h2.2 _ _ h.1).2 v hv)⟩
/-! how much there is -/
def sm (f : Nat → Nat) : Nat → Nat
  | 0 => 0
  | k + 1 => sm f k + f k
def pc (a : Nat) : Nat := sm (fun t => if a.testBit t = true then 1 else 0) 50
def mu (s : fS) : Nat := sm (fun l => pc (s.1 l)) 200 + sm (fun v => pc (s.2.1 v)) 100
theorem sm_le {f g : Nat → Nat} {k : Nat} (h : ∀ i, i < k → f i ≤ g i) : sm f k ≤ sm g k := by
  induction k with
  | zero => exact Nat.le_refl _
  | succ k ih =>
    have h1 := ih (fun i hi => h i (by omega))
    have h2 := h k (by omega)
    rw [sm, sm]; omega
theorem sm_lt {f g : Nat → Nat} {k i : Nat} (h : ∀ i, i < k → f i ≤ g i) (hi : i < k) (hlt : f i < g i) : sm f k < sm g k := by
  induction k with
  | zero => omega
  | succ k ih =>
    have h2 := h k (by omega)
    rw [sm, sm]
    by_cases e : i = k
    · subst e
      have h1 := sm_le (f := f) (g := g) (k := i) (fun j hj => h j (by omega))
      omega
    · have h1 := ih (fun j hj => h j (by omega)) (by omega)
      omega
theorem sm_bd {f : Nat → Nat} {k m : Nat} (h : ∀ i, i < k → f i ≤ m) : sm f k ≤ k * m := by
  induction k with
  | zero => exact Nat.zero_le _
  | succ k ih =>
    have h1 := ih (fun i hi => h i (by omega))
    have h2 := h k (by omega)
    rw [sm, Nat.succ_mul]; omega
theorem pc_le {a : Nat} : pc a ≤ 50 := by
  have := sm_bd (f := fun t => if a.testBit t = true then 1 else 0) (k := 50) (m := 1) (fun i _ => by split <;> omega)
  unfold pc; omega
theorem mu_le {s : fS} : mu s ≤ 15000 := by
  have h1 := sm_bd (f := fun l => pc (s.1 l)) (k := 200) (m := 50) (fun i _ => pc_le)
  have h2 := sm_bd (f := fun v => pc (s.2.1 v)) (k := 100) (m := 50) (fun i _ => pc_le)
  unfold mu; omega
theorem pc_mono {a x : Nat} : pc a ≤ pc (a ||| x) := by
  unfold pc
  refine sm_le fun t _ => ?_
  rw [Nat.testBit_or]
  cases a.testBit t <;> cases x.testBit t <;> decide
theorem pc_lt {a x : Nat} (hx : x < 2 ^ 50) (h : ¬ a ||| x = a) : pc a < pc (a ||| x) := by
  have : ∃ t, t < 50 ∧ x.testBit t = true ∧ a.testBit t = false := by
    by_cases q : ∃ t, t < 50 ∧ x.testBit t = true ∧ a.testBit t = false
    · exact q
    · exfalso
      apply h
      apply Nat.eq_of_testBit_eq
      intro t
      rw [Nat.testBit_or]
      cases hxt : x.testBit t with
      | false => rw [Bool.or_false]
      | true =>
        cases hat : a.testBit t with
        | true => rfl
        | false =>
          exfalso
          apply q
          refine ⟨t, ?_, hxt, hat⟩
          by_cases z : t < 50
          · exact z
          · have : x < 2 ^ t := Nat.lt_of_lt_of_le hx (Nat.pow_le_pow_right (by decide) (by omega))
            rw [Nat.testBit_lt_two_pow this] at hxt; cases hxt
  obtain ⟨t, h1, h2, h3⟩ := this
  unfold pc
  refine sm_lt (i := t) (fun i _ => ?_) h1 ?_
  · rw [Nat.testBit_or]
    cases a.testBit i <;> cases x.testBit i <;> decide
  · rw [Nat.testBit_or, h2, h3]
    decide
/-- one step, or some -/
def bnd (s : fS) : Prop := (∀ l, s.1 l < 2 ^ 50) ∧ ∀ v, s.2.1 v < 2 ^ 50
def stp (s s' : fS) : Prop := bnd s' ∧ (s.2.2 = true → s'.2.2 = true) ∧ (s'.2.2 = false → s' = s) ∧ mu s ≤ mu s' ∧ (s.2.2 = false → s'.2.2 = true → mu s < mu s')
theorem stp.refl {s : fS} (h : bnd s) : stp s s := ⟨h, id, fun _ => rfl, Nat.le_refl _, fun a b => by rw [a] at b; cases b⟩
theorem stp.trans {s s' s'' : fS} (h : stp s s') (h2 : stp s' s'') : stp s s'' := by
  obtain ⟨a1, a2, a3, a4, a5⟩ := h
  obtain ⟨b1, b2, b3, b4, b5⟩ := h2
  refine ⟨b1, fun z => b2 (a2 z), fun z => ?_, by omega, fun z1 z2 => ?_⟩
  · have e := b3 z
    rw [e] at z
    rw [e]; exact a3 z
  · cases hm : s'.2.2 with
    | true => have := a5 z1 hm; omega
    | false =>
      have e := a3 hm
      have := b5 hm z2
      rw [e] at this
      rw [e] at b4
      exact this
theorem stp.no {s s' : fS} (h : stp s s') (h2 : s'.2.2 = false) : s.2.2 = false := by
  cases hm : s.2.2 with
  | false => rfl
  | true => rw [h.2.1 hm] at h2; cases h2
theorem jE_stp {s : fS} {l x : Nat} (h : bnd s) (hl : l < 200) (hx : x < 2 ^ 50) : stp s (jE s l x) := by
  unfold jE
  split
  · exact stp.refl h
  · rename_i hne
    have hpt : ∀ i, i < 200 → pc (s.1 i) ≤ pc (if i = l then s.1 l ||| x else s.1 i) := by
      intro i _
      split
      · rename_i e; rw [e]; exact pc_mono
      · exact Nat.le_refl _
    have hlt : mu s < mu (fun k => if k = l then s.1 l ||| x else s.1 k, s.2.1, true) := by
      unfold mu
      have := sm_lt (f := fun l => pc (s.1 l)) (g := fun i => pc (if i = l then s.1 l ||| x else s.1 i)) (k := 200) (i := l) hpt hl (by rw [if_pos rfl]; exact pc_lt hx hne)
      dsimp only at this ⊢
      omega
    refine ⟨⟨fun i => ?_, h.2⟩, fun _ => rfl, (fun z => by cases z), Nat.le_of_lt hlt, fun _ _ => hlt⟩
    dsimp only
    split
    · exact Nat.or_lt_two_pow (h.1 l) hx
    · exact h.1 i
theorem jV_stp {s : fS} {l x : Nat} (h : bnd s) (hl : l < 100) (hx : x < 2 ^ 50) : stp s (jV s l x) := by
  unfold jV
  split
  · exact stp.refl h
  · rename_i hne
    have hpt : ∀ i, i < 100 → pc (s.2.1 i) ≤ pc (if i = l then s.2.1 l ||| x else s.2.1 i) := by
      intro i _
      split
      · rename_i e; rw [e]; exact pc_mono
      · exact Nat.le_refl _
    have hlt : mu s < mu (s.1, fun k => if k = l then s.2.1 l ||| x else s.2.1 k, true) := by
      unfold mu
      have := sm_lt (f := fun l => pc (s.2.1 l)) (g := fun i => pc (if i = l then s.2.1 l ||| x else s.2.1 i)) (k := 100) (i := l) hpt hl (by rw [if_pos rfl]; exact pc_lt hx hne)
      dsimp only at this ⊢
      omega
    refine ⟨⟨h.1, fun i => ?_⟩, fun _ => rfl, (fun z => by cases z), Nat.le_of_lt hlt, fun _ _ => hlt⟩
    dsimp only
    split
    · exact Nat.or_lt_two_pow (h.2 l) hx
    · exact h.2 i
theorem jE_no {s : fS} {l x : Nat} (h : (jE s l x).2.2 = false) : jE s l x = s ∧ sub x (s.1 l) := by
  unfold jE at h ⊢
  split
  · rename_i e; exact ⟨rfl, sub_of_or e⟩
  · rename_i e; rw [if_neg e] at h; cases h
theorem jV_no {s : fS} {l x : Nat} (h : (jV s l x).2.2 = false) : jV s l x = s ∧ sub x (s.2.1 l) := by
  unfold jV at h ⊢
  split
  · rename_i e; exact ⟨rfl, sub_of_or e⟩
  · rename_i e; rw [if_neg e] at h; cases h
/-- below a solution -/
def und (s : fS) (X Y : Nat → Nat) (n nv : Nat) : Prop := (∀ l, l < n → sub (s.1 l) (X l)) ∧ ∀ v, v < nv → sub (s.2.1 v) (Y v)
theorem jE_und {s : fS} {l x n nv : Nat} {X Y : Nat → Nat} (h : und s X Y n nv) (hx : sub x (X l)) : und (jE s l x) X Y n nv := by
  unfold jE
  split
  · exact h
  · refine ⟨fun i hi => ?_, h.2⟩
    dsimp only
    split
    · rename_i e; rw [e] at hi ⊢; exact sub_or (h.1 l hi) hx
    · exact h.1 i hi
theorem jV_und {s : fS} {l x n nv : Nat} {X Y : Nat → Nat} (h : und s X Y n nv) (hx : sub x (Y l)) : und (jV s l x) X Y n nv := by
  unfold jV
  split
  · exact h
  · refine ⟨h.1, fun i hi => ?_⟩
    dsimp only
    split
    · rename_i e; rw [e] at hi ⊢; exact sub_or (h.2 l hi) hx
    · exact h.2 i hi
