/-! FLOWS: one expr's step -/
theorem lbN_ok {c : Nat → Nat → Int} {n t : Nat} (h : t < fcn c n) : lbN c n t < n ∧ isFn c (lbN c n t) ∧ fcn c (lbN c n t) = t := by
  induction n with
  | zero => rw [fcn] at h; omega
  | succ n ih =>
    rw [lbN]
    split
    · rename_i e; exact ⟨by omega, e.1, e.2⟩
    · rename_i e
      rw [fcn] at h
      by_cases q : c n 0 = 2 ∨ c n 0 = 3
      · rw [if_pos q] at h
        have : t < fcn c n := by
          by_cases z : fcn c n = t
          · exact absurd ⟨q, z⟩ e
          · omega
        obtain ⟨a1, a2, a3⟩ := ih this
        exact ⟨by omega, a2, a3⟩
      · rw [if_neg q] at h
        obtain ⟨a1, a2, a3⟩ := ih h
        exact ⟨by omega, a2, a3⟩
theorem lbN_fcn {c : Nat → Nat → Int} {n l : Nat} (hl : l < n) (hf : isFn c l) : lbN c n (fcn c l) = l := by
  have h1 : fcn c (l + 1) ≤ fcn c n := fcn_mono hl
  rw [fcn, if_pos hf] at h1
  obtain ⟨a1, a2, a3⟩ := lbN_ok (c := c) (n := n) (t := fcn c l) (by omega)
  by_cases q : lbN c n (fcn c l) < l
  · have h2 : fcn c (lbN c n (fcn c l) + 1) ≤ fcn c l := fcn_mono q
    rw [fcn, if_pos a2, a3] at h2; omega
  · by_cases q2 : l < lbN c n (fcn c l)
    · have h2 : fcn c (l + 1) ≤ fcn c (lbN c n (fcn c l)) := fcn_mono q2
      rw [fcn, if_pos hf, a3] at h2; omega
    · omega
section FL
variable {c : Nat → Nat → Int} {n nv nf l : Nat} {s : fS} {X Y : Nat → Nat}
theorem two_lt {t : Nat} (h : t < 50) : 2 ^ t < 2 ^ 50 := Nat.pow_lt_pow_right (by decide) h
theorem fC1_stp (hw : wP c n nv nf) (hl : l < n) (h : bnd s) {t : Nat} (ht : t < fcn c n) : stp s (fC1 c n l t s) := by
  obtain ⟨g1, g2, g3, g4⟩ := hw.flat
  have hn := hw.1
  have hnv := hw.2.1
  obtain ⟨a1, a2, a3⟩ := lbN_ok ht
  have q := (g4 _ a1).1.2.1 (by rcases a2 with z | z; exact Or.inr (Or.inl z); exact Or.inr (Or.inr (Or.inl z)))
  have s1 := jV_stp (l := (c (lbN c n t) 1).toNat) h (by omega) (h.1 (c l 4).toNat)
  exact s1.trans (jE_stp s1.1 (by omega) (s1.1.1 _))
theorem fCl_stp (hw : wP c n nv nf) (hl : l < n) {all : Nat} : ∀ (k t : Nat) (s : fS), bnd s → k + t = fcn c n → stp s (fCl c n l all k t s) := by
  intro k
  induction k with
  | zero => intro t s h _; exact stp.refl h
  | succ k ih =>
    intro t s h hk
    rw [fCl]
    split
    · have s1 := fC1_stp hw hl h (t := t) (by omega)
      exact s1.trans (ih (t + 1) _ s1.1 (by omega))
    · exact ih (t + 1) s h (by omega)
theorem fcn_50 (hw : wP c n nv nf) (hl : l < n) (hf : isFn c l) : fcn c l < 50 := by
  obtain ⟨g1, g2, g3, g4⟩ := hw.flat
  have h1 : fcn c (l + 1) ≤ fcn c n := fcn_mono hl
  rw [fcn, if_pos hf] at h1
  have := hw.2.2.1
  omega
theorem fl_stp (hw : wP c n nv nf) (hl : l < n) (h : bnd s) : stp s (fl c n l s) := by
  obtain ⟨g1, g2, g3, g4⟩ := hw.flat
  have hn := hw.1
  have hnv := hw.2.1
  obtain ⟨q, _⟩ := g4 l hl
  unfold fl
  split
  · exact jE_stp h (by omega) (h.2 _)
  split
  · rename_i k; exact jE_stp h (by omega) (two_lt (fcn_50 hw hl (Or.inl k)))
  split
  · rename_i k
    have := q.2.2.1 k
    have s1 := jE_stp (l := l) h (by omega) (two_lt (fcn_50 hw hl (Or.inr k)))
    exact s1.trans (jV_stp s1.1 (by omega) (two_lt (fcn_50 hw hl (Or.inr k))))
  split
  · exact jE_stp h (by omega) (Nat.or_lt_two_pow (h.1 _) (h.1 _))
  split
  · rename_i k
    have := q.2.1 (by omega)
    have s1 := jV_stp (l := (c l 1).toNat) h (by omega) (h.1 (c l 3).toNat)
    exact s1.trans (jE_stp s1.1 (by omega) (s1.1.1 _))
  split
  · exact fCl_stp hw hl _ 0 s h (by omega)
  · exact stp.refl h
theorem fC1_no (hw : wP c n nv nf) (hl : l < n) (h : bnd s) {t : Nat} (ht : t < fcn c n) (hm : (fC1 c n l t s).2.2 = false) : fC1 c n l t s = s ∧ sub (s.1 (c l 4).toNat) (s.2.1 (c (lbN c n t) 1).toNat) ∧ sub (s.1 (c (lbN c n t) 3).toNat) (s.1 l) := by
  obtain ⟨g1, g2, g3, g4⟩ := hw.flat
  have hn := hw.1
  have hnv := hw.2.1
  obtain ⟨a1, a2, a3⟩ := lbN_ok ht
  have q := (g4 _ a1).1.2.1 (by rcases a2 with z | z; exact Or.inr (Or.inl z); exact Or.inr (Or.inr (Or.inl z)))
  have s1 := jV_stp (l := (c (lbN c n t) 1).toNat) h (by omega) (h.1 (c l 4).toNat)
  have s2 := jE_stp (l := l) (x := (jV s (c (lbN c n t) 1).toNat (s.1 (c l 4).toNat)).1 (c (lbN c n t) 3).toNat) s1.1 (by omega) (s1.1.1 _)
  unfold fC1 at hm ⊢
  obtain ⟨e1, e2⟩ := jV_no (s2.no hm)
  obtain ⟨e3, e4⟩ := jE_no hm
  rw [e1] at e4 e3 ⊢
  exact ⟨e3, e2, e4⟩
theorem fCl_no (hw : wP c n nv nf) (hl : l < n) {all : Nat} : ∀ (k t : Nat) (s : fS), bnd s → k + t = fcn c n → (fCl c n l all k t s).2.2 = false → fCl c n l all k t s = s ∧ ∀ j, t ≤ j → j < fcn c n → all.testBit j = true → sub (s.1 (c l 4).toNat) (s.2.1 (c (lbN c n j) 1).toNat) ∧ sub (s.1 (c (lbN c n j) 3).toNat) (s.1 l) := by
  intro k
  induction k with
  | zero => intro t s h hk _; exact ⟨rfl, fun j h1 h2 => by omega⟩
  | succ k ih =>
    intro t s h hk hm
    rw [fCl] at hm ⊢
    by_cases hb : all.testBit t = true
    · rw [if_pos hb] at hm ⊢
      have s1 := fC1_stp hw hl h (t := t) (by omega)
      have s2 := fCl_stp hw hl (all := all) k (t + 1) _ s1.1 (by omega)
      obtain ⟨e1, e2, e3⟩ := fC1_no hw hl h (t := t) (by omega) (s2.no hm)
      rw [e1] at hm ⊢
      obtain ⟨e4, e5⟩ := ih (t + 1) s h (by omega) hm
      refine ⟨e4, fun j h1 h2 h3 => ?_⟩
      by_cases e : j = t
      · rw [e]; exact ⟨e2, e3⟩
      · exact e5 j (by omega) h2 h3
    · rw [if_neg hb] at hm ⊢
      obtain ⟨e4, e5⟩ := ih (t + 1) s h (by omega) hm
      refine ⟨e4, fun j h1 h2 h3 => ?_⟩
      by_cases e : j = t
      · rw [e] at h3; exact absurd h3 hb
      · exact e5 j (by omega) h2 h3
theorem fl_no (hw : wP c n nv nf) (hl : l < n) (h : bnd s) (hm : (fl c n l s).2.2 = false) : fl c n l s = s ∧ con c n l s.1 s.2.1 := by
  obtain ⟨g1, g2, g3, g4⟩ := hw.flat
  have hn := hw.1
  have hnv := hw.2.1
  obtain ⟨q, _⟩ := g4 l hl
  unfold fl at hm ⊢
  unfold con
  by_cases k0 : c l 0 = 0
  · rw [if_pos k0] at hm ⊢
    obtain ⟨e1, e2⟩ := jE_no hm
    exact ⟨e1, fun _ => e2, by omega, by omega, by omega, by omega, by omega⟩
  rw [if_neg k0] at hm ⊢
  by_cases k2 : c l 0 = 2
  · rw [if_pos k2] at hm ⊢
    obtain ⟨e1, e2⟩ := jE_no hm
    exact ⟨e1, by omega, fun _ => e2, by omega, by omega, by omega, by omega⟩
  rw [if_neg k2] at hm ⊢
  by_cases k3 : c l 0 = 3
  · rw [if_pos k3] at hm ⊢
    have h2 := q.2.2.1 k3
    have s1 := jE_stp (l := l) h (by omega) (two_lt (fcn_50 hw hl (Or.inr k3)))
    have s2 := jV_stp (l := (c l 2).toNat) s1.1 (by omega) (two_lt (fcn_50 hw hl (Or.inr k3)))
    obtain ⟨e1, e2⟩ := jE_no (s2.no hm)
    obtain ⟨e3, e4⟩ := jV_no hm
    rw [e1] at e3 e4 ⊢
    exact ⟨e3, by omega, fun _ => e2, fun _ => e4, by omega, by omega, by omega⟩
  rw [if_neg k3] at hm ⊢
  by_cases k4 : c l 0 = 4
  · rw [if_pos k4] at hm ⊢
    obtain ⟨e1, e2⟩ := jE_no hm
    refine ⟨e1, by omega, by omega, by omega, fun _ => ⟨sub_trans ?_ e2, sub_trans ?_ e2⟩, by omega, by omega⟩
    · exact sub_iff.mpr fun t ht => by rw [Nat.testBit_or, ht, Bool.true_or]
    · exact sub_iff.mpr fun t ht => by rw [Nat.testBit_or, ht, Bool.or_true]
  rw [if_neg k4] at hm ⊢
  by_cases k5 : c l 0 = 5
  · rw [if_pos k5] at hm ⊢
    have h2 := q.2.1 (by omega)
    have s1 := jV_stp (l := (c l 1).toNat) h (by omega) (h.1 (c l 3).toNat)
    have s2 := jE_stp (l := l) (x := (jV s (c l 1).toNat (s.1 (c l 3).toNat)).1 (c l 4).toNat) s1.1 (by omega) (s1.1.1 _)
    obtain ⟨e1, e2⟩ := jV_no (s2.no hm)
    obtain ⟨e3, e4⟩ := jE_no hm
    rw [e1] at e3 e4 ⊢
    exact ⟨e3, by omega, by omega, by omega, by omega, fun _ => ⟨e2, e4⟩, by omega⟩
  rw [if_neg k5] at hm ⊢
  by_cases k11 : c l 0 = 11
  · rw [if_pos k11] at hm ⊢
    obtain ⟨e1, e2⟩ := fCl_no hw hl _ 0 s h (by omega) hm
    exact ⟨e1, by omega, by omega, by omega, by omega, by omega, fun _ t ht hb => e2 t (by omega) ht hb⟩
  rw [if_neg k11] at hm ⊢
  exact ⟨rfl, by omega, by omega, by omega, by omega, by omega, by omega⟩
theorem fCl_und (hw : wP c n nv nf) (hl : l < n) (hk : c l 0 = 11) (hX : con c n l X Y) {all : Nat} (ha : sub all (X (c l 3).toNat)) : ∀ (k t : Nat) (s : fS), und s X Y n nv → k + t = fcn c n → und (fCl c n l all k t s) X Y n nv := by
  obtain ⟨g1, g2, g3, g4⟩ := hw.flat
  obtain ⟨q, _⟩ := g4 l hl
  have hp4 := q.2.2.2.2.1 (by omega)
  intro k
  induction k with
  | zero => intro t s h _; exact h
  | succ k ih =>
    intro t s h hk2
    rw [fCl]
    split
    · rename_i hb
      obtain ⟨a1, a2, a3⟩ := lbN_ok (c := c) (n := n) (t := t) (by omega)
      have q3 := (g4 _ a1).1.2.2.2.1 (by rcases a2 with z | z <;> omega)
      obtain ⟨x1, x2⟩ := hX.2.2.2.2.2 hk t (by omega) (sub_iff.mp ha t hb)
      have u1 := jV_und (l := (c (lbN c n t) 1).toNat) (x := s.1 (c l 4).toNat) h (sub_trans (h.1 _ (by omega)) x1)
      exact ih (t + 1) _ (jE_und u1 (sub_trans (u1.1 _ (by omega)) x2)) (by omega)
    · exact ih (t + 1) s h (by omega)
theorem fl_und (hw : wP c n nv nf) (hl : l < n) (hX : con c n l X Y) (h : und s X Y n nv) : und (fl c n l s) X Y n nv := by
  obtain ⟨g1, g2, g3, g4⟩ := hw.flat
  obtain ⟨q, _⟩ := g4 l hl
  unfold fl
  split
  · rename_i k
    have := q.2.1 (Or.inl k)
    exact jE_und h (sub_trans (h.2 _ (by omega)) (hX.1 k))
  split
  · rename_i k; exact jE_und h (hX.2.1 (Or.inl k))
  split
  · rename_i k; exact jV_und (jE_und h (hX.2.1 (Or.inr k))) (hX.2.2.1 k)
  split
  · rename_i k
    have h4 := q.2.2.2.2.1 (by omega)
    have h5 := q.2.2.2.2.2.1 k
    have := hX.2.2.2.1 k
    exact jE_und h (sub_or (sub_trans (h.1 _ (by omega)) this.1) (sub_trans (h.1 _ (by omega)) this.2))
  split
  · rename_i k
    have h3 := q.2.2.2.1 (by omega)
    have h4 := q.2.2.2.2.1 (by omega)
    have := hX.2.2.2.2.1 k
    have u1 := jV_und (l := (c l 1).toNat) (x := s.1 (c l 3).toNat) h (sub_trans (h.1 _ (by omega)) this.1)
    exact jE_und u1 (sub_trans (u1.1 _ (by omega)) this.2)
  split
  · rename_i k
    have h3 := q.2.2.2.1 (by omega)
    exact fCl_und hw hl k hX (h.1 _ (by omega)) _ 0 s h (by omega)
  · exact h
end FL
