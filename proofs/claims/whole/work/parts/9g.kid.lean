/-! only calls are used -/
theorem rnF_us {c : Nat → Nat → Int} {n most : Nat} : ∀ (f : Nat) (s : mCf), (∀ l, c l 0 ≠ 11 → s.2.2.2.2.2 l = 0) → ∀ l, c l 0 ≠ 11 → (rnF c n most f s).2.2.2 l = 0 := by
  intro f
  induction f with
  | zero => intro s _ l _; rfl
  | succ f ih =>
    intro s hs l hl
    have st : (∀ s', st1 c n most s = .inl s' → ∀ l, c l 0 ≠ 11 → s'.2.2.2.2.2 l = 0) ∧ (∀ o, st1 c n most s = .inr o → ∀ l, c l 0 ≠ 11 → o.2.2.2 l = 0) := by
      obtain ⟨h, K, v, nb, st, us⟩ := s
      dsimp only at hs
      cases h with
      | some h =>
        obtain ⟨k, e⟩ := h
        rw [st1]
        split
        · exact ⟨fun _ z => (by cases z), fun o z => (by cases z; exact hs)⟩
        · refine ⟨fun s' z => ?_, fun _ z => (by cases z)⟩
          cases z
          unfold bg1
          split
          · exact hs
          split
          · exact hs
          split
          · exact hs
          · exact hs
      | none =>
        cases K with
        | nil =>
          rw [st1]
          refine ⟨fun _ z => (by cases z), fun o z => ?_⟩
          cases z
          split <;> exact hs
        | cons F K =>
          obtain ⟨k, e, h⟩ := F
          rw [st1]
          unfold hd1 stk
          split
          · split
            · exact ⟨fun _ z => (by cases z), fun o z => (by cases z; exact hs)⟩
            · exact ⟨fun _ z => (by cases z; exact hs), fun o z => (by cases z)⟩
          split
          · exact ⟨fun _ z => (by cases z; exact hs), fun o z => (by cases z)⟩
          split
          · exact ⟨fun _ z => (by cases z; exact hs), fun o z => (by cases z)⟩
          split
          · rename_i hk
            split
            · exact ⟨fun _ z => (by cases z), fun o z => (by cases z; exact hs)⟩
            · refine ⟨fun _ z => ?_, fun o z => (by cases z)⟩
              cases z
              intro l hl
              show uSet us k _ l = 0
              unfold uSet
              rw [if_neg (fun e => hl (by rw [e]; exact hk))]
              exact hs l hl
          split
          · exact ⟨fun _ z => (by cases z), fun o z => (by cases z; exact hs)⟩
          split
          · exact ⟨fun _ z => (by cases z), fun o z => (by cases z; exact hs)⟩
          · exact ⟨fun _ z => (by cases z; exact hs), fun o z => (by cases z)⟩
    rw [rnF]
    split
    · rename_i s' e; exact ih s' (st.1 s' e) l hl
    · rename_i o e; exact st.2 o e l hl
theorem okA_run {A : aSt} {w : Int} (h : okA A) : okA (A.1, A.2.1, A.2.2.1, (aRunA A.2.2.1 A.2.2.2 w).2) := by
  obtain ⟨u, m, po, rn⟩ := A
  cases po with
  | none => exact h
  | some x =>
    unfold okA aRunA at *
    dsimp only at *
    split
    · intro l hl hk
      exact rnF_us _ _ (fun l _ => rfl) l hk
    · exact h
theorem okA_new {u : Nat → Nat} {m : Nat} {x : aPg} : okA (u, m, some x, rn0) := fun _ _ _ => rfl
/-! PARTS: how many, where -/
def np (k : Int) : Nat := if k < 2 then 0 else if k < 4 then 1 else if k = 4 then 3 else 2
section KID
variable {c : Nat → Nat → Int} {n nv nf : Nat}
/-- a part of l -/
def isPt (c : Nat → Nat → Int) (n l j m : Nat) : Prop := c l (3 + j) = (m : Int) ∧ l < m ∧ m < n ∧ c m 6 = (l : Int)
theorem kid (hw : wP c n nv nf) {l : Nat} (hl : l < n) : (0 ≤ c l 0 ∧ c l 0 ≤ 11) ∧ l < en c l ∧ en c l ≤ n ∧ (
    (c l 0 < 2 ∧ c l 3 = -1 ∧ c l 4 = -1 ∧ c l 5 = -1 ∧ en c l = l + 1) ∨
    ((c l 0 = 2 ∨ c l 0 = 3) ∧ isPt c n l 0 (l + 1) ∧ c l 4 = -1 ∧ c l 5 = -1 ∧ en c (l + 1) = en c l) ∨
    (c l 0 = 4 ∧ ∃ m m2, isPt c n l 0 (l + 1) ∧ isPt c n l 1 m ∧ isPt c n l 2 m2 ∧ en c (l + 1) = m ∧ en c m = m2 ∧ en c m2 = en c l ∧ l + 1 < m ∧ m < m2 ∧ m2 < en c l) ∨
    (5 ≤ c l 0 ∧ ∃ m, isPt c n l 0 (l + 1) ∧ isPt c n l 1 m ∧ c l 5 = -1 ∧ en c (l + 1) = m ∧ en c m = en c l ∧ l + 1 < m ∧ m < en c l)) := by
  obtain ⟨f, vs, h, hn, _⟩ := hw.at2 hl
  have hlt := (wf_lt _ _ _ _ _ _ _ _ _ h).1
  have h200 := hw.1
  have up : ∀ {f l e : Nat} {u : Int} {vs : List Nat} {v0 v1 f0 f1 : Nat}, wf c f l e u vs v0 v1 f0 f1 → c l 6 = u := by
    intro f l e u vs v0 v1 f0 f1 h
    cases f with
    | zero => exact h.elim
    | succ f => exact h.1
  have ee : ∀ {f l e : Nat} {u : Int} {vs : List Nat} {v0 v1 f0 f1 : Nat}, e ≤ 200 → wf c f l e u vs v0 v1 f0 f1 → en c l = e := fun he h => wf_en _ _ _ _ _ _ _ _ _ h 200 (by omega)
  cases f with
  | zero => exact h.elim
  | succ f =>
    obtain ⟨_, h⟩ := h
    rcases h with h | h | h | h | h | h | h
    · exact ⟨by omega, hlt, hn, Or.inl ⟨by omega, h.2.2.2.1, h.2.2.2.2.1, h.2.2.2.2.2.1, h.2.2.2.2.2.2.1⟩⟩
    · exact ⟨by omega, hlt, hn, Or.inl ⟨by omega, h.2.2.2.1, h.2.2.2.2.1, h.2.2.2.2.2.1, h.2.2.2.2.2.2.1⟩⟩
    · obtain ⟨k0, k1, k2, k3, k4, k5, h1⟩ := h
      have w := (wf_lt _ _ _ _ _ _ _ _ _ h1).1
      exact ⟨by omega, hlt, hn, Or.inr (Or.inl ⟨by omega, ⟨k3, by omega, by omega, up h1⟩, k4, k5, ee (by omega) h1⟩)⟩
    · obtain ⟨k0, k1, k2, k3, k4, k5, h1⟩ := h
      have w := (wf_lt _ _ _ _ _ _ _ _ _ h1).1
      exact ⟨by omega, hlt, hn, Or.inr (Or.inl ⟨by omega, ⟨k3, by omega, by omega, up h1⟩, k4, k5, ee (by omega) h1⟩)⟩
    · obtain ⟨k0, k1, k2, k3, k5, m, v, g, k4, h1, h2⟩ := h
      have w := (wf_lt _ _ _ _ _ _ _ _ _ h1).1
      have w2 := (wf_lt _ _ _ _ _ _ _ _ _ h2).1
      exact ⟨by omega, hlt, hn, Or.inr (Or.inr (Or.inr ⟨by omega, m, ⟨k3, by omega, by omega, up h1⟩, ⟨k4, by omega, by omega, up h2⟩, k5, ee (by omega) h1, ee (by omega) h2, w, w2⟩))⟩
    · obtain ⟨k0, k1, k2, k3, m, v, g, m2, v2, g2, k4, k5, h1, h2, h3⟩ := h
      have w := (wf_lt _ _ _ _ _ _ _ _ _ h1).1
      have w2 := (wf_lt _ _ _ _ _ _ _ _ _ h2).1
      have w3 := (wf_lt _ _ _ _ _ _ _ _ _ h3).1
      exact ⟨by omega, hlt, hn, Or.inr (Or.inr (Or.inl ⟨k0, m, m2, ⟨k3, by omega, by omega, up h1⟩, ⟨k4, by omega, by omega, up h2⟩, ⟨k5, by omega, by omega, up h3⟩, ee (by omega) h1, ee (by omega) h2, ee (by omega) h3, w, w2, w3⟩))⟩
    · obtain ⟨k0, k1, k2, k3, k5, m, v, g, k4, h1, h2⟩ := h
      have w := (wf_lt _ _ _ _ _ _ _ _ _ h1).1
      have w2 := (wf_lt _ _ _ _ _ _ _ _ _ h2).1
      exact ⟨by omega, hlt, hn, Or.inr (Or.inr (Or.inr ⟨by omega, m, ⟨k3, by omega, by omega, up h1⟩, ⟨k4, by omega, by omega, up h2⟩, k5, ee (by omega) h1, ee (by omega) h2, w, w2⟩))⟩
/-- what a label's last words are: where it begins, which variables and functions are bound there -/
theorem own (hw : wP c n nv nf) {l : Nat} (hl : l < n) : (c l 0 = 2 → c l 1 = (vcn c l : Int)) ∧ (c l 0 = 3 → c l 1 = (vcn c l : Int) + 1 ∧ c l 2 = (vcn c l : Int)) ∧ (c l 0 = 5 → c l 1 = (vcn c l : Int)) ∧ (c l 0 = 0 → ∃ x, x < vcn c l ∧ c l 1 = (x : Int)) := by
  obtain ⟨f, vs, h, hn, hv⟩ := hw.at2 hl
  obtain ⟨h1, h2, h3, h4⟩ := wf_hd h
  refine ⟨h1, h2, h3, fun z => ?_⟩
  obtain ⟨x, hx, e⟩ := h4 z
  exact ⟨x, hv x hx, e⟩
/-- every label but the first is a part -/
theorem par_aux (hw : wP c n nv nf) : ∀ (d l k : Nat), l < n → l < k → k < en c l → en c l ≤ d + l → ∃ p j, j < 3 ∧ isPt c n p j k := by
  intro d
  induction d with
  | zero => intro l k hl h1 h2 h3; omega
  | succ d ih =>
    intro l k hl h1 h2 h3
    obtain ⟨_, ha, hb, h⟩ := kid hw hl
    rcases h with h | h | h | h
    · omega
    · obtain ⟨_, p0, _, _, e⟩ := h
      by_cases z : k = l + 1
      · exact ⟨l, 0, by omega, by rw [z]; exact p0⟩
      · exact ih (l + 1) k p0.2.2.1 (by omega) (by omega) (by omega)
    · obtain ⟨_, m, m2, p0, p1, p2, e0, e1, e2, i0, i1, i2⟩ := h
      by_cases z : k = l + 1
      · exact ⟨l, 0, by omega, by rw [z]; exact p0⟩
      by_cases z1 : k = m
      · exact ⟨l, 1, by omega, by rw [z1]; exact p1⟩
      by_cases z2 : k = m2
      · exact ⟨l, 2, by omega, by rw [z2]; exact p2⟩
      by_cases y : k < m
      · exact ih (l + 1) k p0.2.2.1 (by omega) (by omega) (by omega)
      by_cases y : k < m2
      · exact ih m k p1.2.2.1 (by omega) (by omega) (by omega)
      · exact ih m2 k p2.2.2.1 (by omega) (by omega) (by omega)
    · obtain ⟨_, m, p0, p1, _, e0, e1, i0, i1⟩ := h
      by_cases z : k = l + 1
      · exact ⟨l, 0, by omega, by rw [z]; exact p0⟩
      by_cases z1 : k = m
      · exact ⟨l, 1, by omega, by rw [z1]; exact p1⟩
      by_cases y : k < m
      · exact ih (l + 1) k p0.2.2.1 (by omega) (by omega) (by omega)
      · exact ih m k p1.2.2.1 (by omega) (by omega) (by omega)
theorem en_0 (hw : wP c n nv nf) : en c 0 = n := by
  obtain ⟨h1, h2, h3, F, hF⟩ := hw
  exact wf_en _ _ _ _ _ _ _ _ _ hF 200 (by omega)
theorem par (hw : wP c n nv nf) {k : Nat} (hk : k < n) (h0 : 0 < k) : ∃ p j, j < 3 ∧ isPt c n p j k ∧ c k 6 = (p : Int) := by
  have e := en_0 hw
  obtain ⟨p, j, hj, h⟩ := par_aux hw n 0 k (by omega) h0 (by omega) (by omega)
  exact ⟨p, j, hj, h, h.2.2.2⟩
/-- how many parts of l are below i -/
def cnt (c : Nat → Nat → Int) (l i : Nat) : Nat := b1 (0 ≤ c l 3 ∧ c l 3 < (i : Int)) + b1 (0 ≤ c l 4 ∧ c l 4 < (i : Int)) + b1 (0 ≤ c l 5 ∧ c l 5 < (i : Int))
theorem b1_p {p : Prop} [Decidable p] (h : p) : b1 p = 1 := by unfold b1; rw [if_pos h]
theorem b1_n {p : Prop} [Decidable p] (h : ¬ p) : b1 p = 0 := by unfold b1; rw [if_neg h]
/-- a label comes: it is its parent's next part -/
theorem cnt_nx (hw : wP c n nv nf) {p j i : Nat} (hj : j < 3) (hp : p < n) (h : isPt c n p j i) : cnt c p i = j ∧ cnt c p (i + 1) = j + 1 := by
  obtain ⟨_, ha, hb, hk⟩ := kid hw hp
  obtain ⟨h1, h2, h3, h4⟩ := h
  unfold cnt
  have hj3 : j = 0 ∨ j = 1 ∨ j = 2 := by omega
  rcases hk with hk | hk | hk | hk
  · rcases hj3 with rfl | rfl | rfl
    · have : c p 3 = (i : Int) := h1; omega
    · have : c p 4 = (i : Int) := h1; omega
    · have : c p 5 = (i : Int) := h1; omega
  · obtain ⟨_, p0, k4, k5, e⟩ := hk
    have p3 : c p 3 = ((p + 1 : Nat) : Int) := p0.1
    rcases hj3 with rfl | rfl | rfl
    · have : c p 3 = (i : Int) := h1
      rw [b1_n (by omega), b1_n (by omega), b1_n (by omega), b1_p (by omega), b1_n (by omega), b1_n (by omega)]; omega
    · have : c p 4 = (i : Int) := h1; omega
    · have : c p 5 = (i : Int) := h1; omega
  · obtain ⟨_, m, m2, p0, p1, p2, e0, e1, e2, i0, i1, i2⟩ := hk
    have p3 : c p 3 = ((p + 1 : Nat) : Int) := p0.1
    have p4 : c p 4 = (m : Int) := p1.1
    have p5 : c p 5 = (m2 : Int) := p2.1
    rcases hj3 with rfl | rfl | rfl
    · have : c p 3 = (i : Int) := h1
      rw [b1_n (by omega), b1_n (by omega), b1_n (by omega), b1_p (by omega), b1_n (by omega), b1_n (by omega)]; omega
    · have : c p 4 = (i : Int) := h1
      rw [b1_p (by omega), b1_n (by omega), b1_n (by omega), b1_p (by omega), b1_p (by omega), b1_n (by omega)]; omega
    · have : c p 5 = (i : Int) := h1
      rw [b1_p (by omega), b1_p (by omega), b1_n (by omega), b1_p (by omega), b1_p (by omega), b1_p (by omega)]; omega
  · obtain ⟨_, m, p0, p1, k5, e0, e1, i0, i1⟩ := hk
    have p3 : c p 3 = ((p + 1 : Nat) : Int) := p0.1
    have p4 : c p 4 = (m : Int) := p1.1
    rcases hj3 with rfl | rfl | rfl
    · have : c p 3 = (i : Int) := h1
      rw [b1_n (by omega), b1_n (by omega), b1_n (by omega), b1_p (by omega), b1_n (by omega), b1_n (by omega)]; omega
    · have : c p 4 = (i : Int) := h1
      rw [b1_p (by omega), b1_n (by omega), b1_n (by omega), b1_p (by omega), b1_p (by omega), b1_n (by omega)]; omega
    · have : c p 5 = (i : Int) := h1; omega
/-- others have no part there -/
theorem cnt_ot (hw : wP c n nv nf) {l i : Nat} (hl : l < n) (h : c i 6 ≠ (l : Int)) : cnt c l (i + 1) = cnt c l i ∧ ∀ j, j < 3 → c l (3 + j) ≠ (i : Int) := by
  obtain ⟨_, ha, hb, hk⟩ := kid hw hl
  have ne : ∀ j, j < 3 → c l (3 + j) ≠ (i : Int) := by
    intro j hj e
    have y : ∀ m, isPt c n l j m → False := fun m hm => h (by have := hm.1; have e2 : m = i := by omega
                                                              rw [← e2]; exact hm.2.2.2)
    have hj3 : j = 0 ∨ j = 1 ∨ j = 2 := by omega
    rcases hk with hk | hk | hk | hk
    · rcases hj3 with rfl | rfl | rfl
      · have : c l 3 = (i : Int) := e; omega
      · have : c l 4 = (i : Int) := e; omega
      · have : c l 5 = (i : Int) := e; omega
    · obtain ⟨_, p0, k4, k5, _⟩ := hk
      rcases hj3 with rfl | rfl | rfl
      · exact y _ p0
      · have : c l 4 = (i : Int) := e; omega
      · have : c l 5 = (i : Int) := e; omega
    · obtain ⟨_, m, m2, p0, p1, p2, _⟩ := hk
      rcases hj3 with rfl | rfl | rfl
      · exact y _ p0
      · exact y _ p1
      · exact y _ p2
    · obtain ⟨_, m, p0, p1, k5, _⟩ := hk
      rcases hj3 with rfl | rfl | rfl
      · exact y _ p0
      · exact y _ p1
      · have : c l 5 = (i : Int) := e; omega
  refine ⟨?_, ne⟩
  have n0 := ne 0 (by omega)
  have n1 := ne 1 (by omega)
  have n2 := ne 2 (by omega)
  rw [show 3 + 0 = 3 from rfl] at n0
  rw [show 3 + 1 = 4 from rfl] at n1
  rw [show 3 + 2 = 5 from rfl] at n2
  have q : ∀ x : Int, x ≠ (i : Int) → b1 (0 ≤ x ∧ x < ((i + 1 : Nat) : Int)) = b1 (0 ≤ x ∧ x < (i : Int)) := by
    intro x hx
    by_cases z : 0 ≤ x ∧ x < (i : Int)
    · rw [b1_p z, b1_p (by omega)]
    · rw [b1_n z, b1_n (by omega)]
  unfold cnt
  rw [q _ n0, q _ n1, q _ n2]
/-- nothing of a label is below it -/
theorem cnt_new (hw : wP c n nv nf) {i : Nat} (hi : i < n) : cnt c i (i + 1) = 0 ∧ ∀ j, j < 3 → c i (3 + j) = -1 ∨ (i : Int) < c i (3 + j) := by
  obtain ⟨_, ha, hb, hk⟩ := kid hw hi
  have no : ∀ j, j < 3 → c i (3 + j) = -1 ∨ (i : Int) < c i (3 + j) := by
    intro j hj
    have hj3 : j = 0 ∨ j = 1 ∨ j = 2 := by omega
    have y : ∀ m, isPt c n i j m → c i (3 + j) = -1 ∨ (i : Int) < c i (3 + j) := fun m hm => Or.inr (by have := hm.1; have := hm.2.1; omega)
    rcases hk with hk | hk | hk | hk
    · rcases hj3 with rfl | rfl | rfl
      · exact Or.inl hk.2.1
      · exact Or.inl hk.2.2.1
      · exact Or.inl hk.2.2.2.1
    · obtain ⟨_, p0, k4, k5, _⟩ := hk
      rcases hj3 with rfl | rfl | rfl
      · exact y _ p0
      · exact Or.inl k4
      · exact Or.inl k5
    · obtain ⟨_, m, m2, p0, p1, p2, _⟩ := hk
      rcases hj3 with rfl | rfl | rfl
      · exact y _ p0
      · exact y _ p1
      · exact y _ p2
    · obtain ⟨_, m, p0, p1, k5, _⟩ := hk
      rcases hj3 with rfl | rfl | rfl
      · exact y _ p0
      · exact y _ p1
      · exact Or.inl k5
  refine ⟨?_, no⟩
  have n0 : c i 3 = -1 ∨ (i : Int) < c i 3 := no 0 (by omega)
  have n1 : c i 4 = -1 ∨ (i : Int) < c i 4 := no 1 (by omega)
  have n2 : c i 5 = -1 ∨ (i : Int) < c i 5 := no 2 (by omega)
  unfold cnt
  rw [b1_n (by omega), b1_n (by omega), b1_n (by omega)]
/-- a part ends: all of it has come, or the next part comes -/
theorem cnt_end (hw : wP c n nv nf) {p j k i : Nat} (hj : j < 3) (hp : p < n) (h : isPt c n p j k) (he : en c k = i + 1) : cnt c p (i + 1) = j + 1 ∧ ((j + 1 = np (c p 0) ∧ en c p = i + 1) ∨ (j + 1 < np (c p 0) ∧ i + 1 < en c p ∧ i + 1 < n ∧ c (i + 1) 6 = (p : Int))) := by
  obtain ⟨_, ha, hb, hk⟩ := kid hw hp
  obtain ⟨_, hka, hkb, _⟩ := kid hw h.2.2.1
  obtain ⟨h1, h2, h3, h4⟩ := h
  unfold cnt np
  have hj3 : j = 0 ∨ j = 1 ∨ j = 2 := by omega
  rcases hk with hk | hk | hk | hk
  · rcases hj3 with rfl | rfl | rfl
    · have : c p 3 = (k : Int) := h1; omega
    · have : c p 4 = (k : Int) := h1; omega
    · have : c p 5 = (k : Int) := h1; omega
  · obtain ⟨_, p0, k4, k5, e⟩ := hk
    have p3 : c p 3 = ((p + 1 : Nat) : Int) := p0.1
    rcases hj3 with rfl | rfl | rfl
    · have : c p 3 = (k : Int) := h1
      obtain rfl : k = p + 1 := by omega
      rw [b1_p (by omega), b1_n (by omega), b1_n (by omega), if_neg (by omega), if_pos (by omega)]
      exact ⟨rfl, Or.inl ⟨rfl, by omega⟩⟩
    · have : c p 4 = (k : Int) := h1; omega
    · have : c p 5 = (k : Int) := h1; omega
  · obtain ⟨_, m, m2, p0, p1, p2, e0, e1, e2, i0, i1, i2⟩ := hk
    have p3 : c p 3 = ((p + 1 : Nat) : Int) := p0.1
    have p4 : c p 4 = (m : Int) := p1.1
    have p5 : c p 5 = (m2 : Int) := p2.1
    rw [if_neg (by omega), if_neg (by omega), if_pos (by omega)]
    rcases hj3 with rfl | rfl | rfl
    · have : c p 3 = (k : Int) := h1
      obtain rfl : k = p + 1 := by omega
      obtain rfl : m = i + 1 := by omega
      rw [b1_p (by omega), b1_n (by omega), b1_n (by omega)]
      exact ⟨rfl, Or.inr ⟨by omega, by omega, by omega, p1.2.2.2⟩⟩
    · have : c p 4 = (k : Int) := h1
      obtain rfl : k = m := by omega
      obtain rfl : m2 = i + 1 := by omega
      rw [b1_p (by omega), b1_p (by omega), b1_n (by omega)]
      exact ⟨rfl, Or.inr ⟨by omega, by omega, by omega, p2.2.2.2⟩⟩
    · have : c p 5 = (k : Int) := h1
      obtain rfl : k = m2 := by omega
      rw [b1_p (by omega), b1_p (by omega), b1_p (by omega)]
      exact ⟨rfl, Or.inl ⟨rfl, by omega⟩⟩
  · obtain ⟨_, m, p0, p1, k5, e0, e1, i0, i1⟩ := hk
    have p3 : c p 3 = ((p + 1 : Nat) : Int) := p0.1
    have p4 : c p 4 = (m : Int) := p1.1
    rw [if_neg (by omega), if_neg (by omega), if_neg (by omega)]
    rcases hj3 with rfl | rfl | rfl
    · have : c p 3 = (k : Int) := h1
      obtain rfl : k = p + 1 := by omega
      obtain rfl : m = i + 1 := by omega
      rw [b1_p (by omega), b1_n (by omega), b1_n (by omega)]
      exact ⟨rfl, Or.inr ⟨by omega, by omega, by omega, p1.2.2.2⟩⟩
    · have : c p 4 = (k : Int) := h1
      obtain rfl : k = m := by omega
      rw [b1_p (by omega), b1_p (by omega), b1_n (by omega)]
      exact ⟨rfl, Or.inl ⟨rfl, by omega⟩⟩
    · have : c p 5 = (k : Int) := h1; omega
/-- where a variable is bound -/
theorem bdN_at (hw : wP c n nv nf) {v : Nat} : ∀ i, i ≤ n → v < vcn c i → bdN c i v < i ∧ vcn c (bdN c i v) ≤ v ∧ v < vcn c (bdN c i v + 1) := by
  intro i
  induction i with
  | zero => intro _ h; exact absurd h (Nat.not_lt_zero _)
  | succ i ih =>
    intro hi hv
    obtain ⟨o1, o2, o3, o4⟩ := own hw (show i < n by omega)
    rw [bdN]
    by_cases z : (c i 0 = 2 ∨ c i 0 = 3 ∨ c i 0 = 5) ∧ (c i 1 = (v : Int) ∨ c i 2 = (v : Int))
    · rw [if_pos z]
      rw [vcn] at hv ⊢
      refine ⟨by omega, ?_, hv⟩
      obtain ⟨z1, z2⟩ := z
      obtain ⟨f, vs, h, _⟩ := hw.at2 (show i < n by omega)
      have y2 : c i 0 ≠ 3 → c i 2 = -1 := fun y => by
        cases f with
        | zero => exact h.elim
        | succ f =>
          obtain ⟨_, h⟩ := h
          rcases h with h | h | h | h | h | h | h <;> omega
      rcases z1 with z1 | z1 | z1
      · have := o1 z1; have := y2 (by omega); omega
      · have := o2 z1; omega
      · have := o3 z1; have := y2 (by omega); omega
    · rw [if_neg z]
      have : v < vcn c i := by
        rw [vcn] at hv
        by_cases y : v < vcn c i
        · exact y
        · exfalso
          apply z
          by_cases k3 : c i 0 = 3
          · rw [if_pos k3] at hv
            have := o2 k3
            exact ⟨by omega, by omega⟩
          · rw [if_neg k3] at hv
            by_cases k2 : c i 0 = 2 ∨ c i 0 = 5
            · rw [if_pos k2] at hv
              refine ⟨by omega, Or.inl ?_⟩
              rcases k2 with k2 | k2
              · have := o1 k2; omega
              · have := o3 k2; omega
            · rw [if_neg k2] at hv; omega
      have := ih (by omega) this
      omega
theorem bdN_un (hw : wP c n nv nf) {v i : Nat} (hi : i ≤ n) (hv : v < vcn c i) : bdN c n v = bdN c i v := by
  have h1 := bdN_at hw i hi hv
  have h2 := bdN_at hw n (Nat.le_refl _) (Nat.lt_of_lt_of_le hv (vcn_mono hi))
  have a : ∀ x y, x < y → vcn c y ≤ v → v < vcn c (x + 1) → False := fun x y hxy p1 p2 => by
    have := vcn_mono (c := c) (show x + 1 ≤ y by omega); omega
  by_cases z : bdN c n v < bdN c i v
  · exact (a _ _ z h1.2.1 h2.2.2).elim
  by_cases z2 : bdN c i v < bdN c n v
  · exact (a _ _ z2 h2.2.1 h1.2.2).elim
  omega
theorem bdN_lt (hw : wP c n nv nf) {v i : Nat} (hi : i ≤ n) (hv : v < vcn c n) : bdN c n v < i ↔ v < vcn c i := by
  have h2 := bdN_at hw n (Nat.le_refl _) hv
  constructor
  · intro h
    exact Nat.lt_of_lt_of_le h2.2.2 (vcn_mono h)
  · intro h
    by_cases z : bdN c n v < i
    · exact z
    · have := vcn_mono (c := c) (show i ≤ bdN c n v by omega); omega
end KID
