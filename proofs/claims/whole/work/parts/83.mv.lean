/-! EXPRS MOVED: a stretch of labels put elsewhere -/
/-- variables bound below a label -/
def vcn (c : Nat → Nat → Int) : Nat → Nat
  | 0 => 0
  | l + 1 => vcn c l + if c l 0 = 3 then 2 else if c l 0 = 2 ∨ c l 0 = 5 then 1 else 0
theorem wf_cnt {c : Nat → Nat → Int} : ∀ (f l e : Nat) (up : Int) (vs : List Nat) (v0 v1 f0 f1 : Nat), wf c f l e up vs v0 v1 f0 f1 → vcn c e + v0 = vcn c l + v1 ∧ fcn c e + f0 = fcn c l + f1 := by
  intro f
  induction f with
  | zero => intro l e up vs v0 v1 f0 f1 h; exact h.elim
  | succ f ih =>
    intro l e up vs v0 v1 f0 f1 h
    obtain ⟨_, h⟩ := h
    have hv : vcn c (l + 1) = vcn c l + (if c l 0 = 3 then 2 else if c l 0 = 2 ∨ c l 0 = 5 then 1 else 0) := rfl
    have hf : fcn c (l + 1) = fcn c l + (if c l 0 = 2 ∨ c l 0 = 3 then 1 else 0) := rfl
    rcases h with h | h | h | h | h | h | h
    · obtain ⟨k, _, _, _, _, _, h1, h2, h3⟩ := h
      rw [if_neg (by omega), if_neg (by omega)] at hv; rw [if_neg (by omega)] at hf
      rw [h1, hv, hf]; omega
    · obtain ⟨k, _, _, _, _, _, h1, h2, h3⟩ := h
      rw [if_neg (by omega), if_neg (by omega)] at hv; rw [if_neg (by omega)] at hf
      rw [h1, hv, hf]; omega
    · obtain ⟨k, _, _, _, _, _, h1⟩ := h
      have := ih _ _ _ _ _ _ _ _ h1
      rw [if_neg (by omega), if_pos (by omega)] at hv; rw [if_pos (by omega)] at hf
      omega
    · obtain ⟨k, _, _, _, _, _, h1⟩ := h
      have := ih _ _ _ _ _ _ _ _ h1
      rw [if_pos (by omega)] at hv; rw [if_pos (by omega)] at hf
      omega
    · obtain ⟨k, _, _, _, _, m, v, g, _, h1, h2⟩ := h
      have := ih _ _ _ _ _ _ _ _ h1
      have := ih _ _ _ _ _ _ _ _ h2
      rw [if_neg (by omega), if_pos (by omega)] at hv; rw [if_neg (by omega)] at hf
      omega
    · obtain ⟨k, _, _, _, m, v, g, m2, v2, g2, _, _, h1, h2, h3⟩ := h
      have := ih _ _ _ _ _ _ _ _ h1
      have := ih _ _ _ _ _ _ _ _ h2
      have := ih _ _ _ _ _ _ _ _ h3
      rw [if_neg (by omega), if_neg (by omega)] at hv; rw [if_neg (by omega)] at hf
      omega
    · obtain ⟨k, _, _, _, _, m, v, g, _, h1, h2⟩ := h
      have := ih _ _ _ _ _ _ _ _ h1
      have := ih _ _ _ _ _ _ _ _ h2
      rw [if_neg (by omega), if_neg (by omega)] at hv; rw [if_neg (by omega)] at hf
      omega
/-- label j has gone to j + B - A, its own variables v to v + Bv - Av, others y to R y -/
def mv1 (c c' : Nat → Nat → Int) (A B Av Bv : Nat) (R : Nat → Nat) (j : Nat) : Prop :=
  c' (j + B - A) 0 = c j 0 ∧ (c j 0 = 1 → c' (j + B - A) 1 = c j 1) ∧ (c j 0 = 0 → c' (j + B - A) 1 = (R (c j 1).toNat : Int)) ∧ ((c j 0 = 2 ∨ c j 0 = 3 ∨ c j 0 = 5) → c' (j + B - A) 1 = c j 1 + Bv - Av) ∧ ((c j 0 = 4 ∨ 6 ≤ c j 0) → c' (j + B - A) 1 = -1) ∧
  (c j 0 = 3 → c' (j + B - A) 2 = c j 2 + Bv - Av) ∧ (c j 0 ≠ 3 → c' (j + B - A) 2 = -1) ∧ ∀ w, 3 ≤ w → w ≤ 5 → c' (j + B - A) w = if c j w = -1 then -1 else c j w + B - A
/-- named in a stretch -/
def metI (c : Nat → Nat → Int) (l e y : Nat) : Prop := ∃ k, l ≤ k ∧ k < e ∧ c k 0 = 0 ∧ c k 1 = (y : Int)
theorem wf_mv {c c' : Nat → Nat → Int} {A B Av Bv : Nat} {R : Nat → Nat} : ∀ (f l e : Nat) (up up' : Int) (vs vs' : List Nat) (v0 v1 f0 f1 g0 : Nat), wf c f l e up vs v0 v1 f0 f1 → A ≤ l → Av ≤ v0 → (∀ j, l ≤ j → j < e → mv1 c c' A B Av Bv R j ∧ (j ≠ l → c' (j + B - A) 6 = c j 6 + B - A)) → c' (l + B - A) 6 = up' →
    (∀ y, y ∈ vs → metI c l e y → R y ∈ vs') → (∀ y, v0 ≤ y → y < v1 → R y = y + Bv - Av) → wf c' f (l + B - A) (e + B - A) up' vs' (v0 + Bv - Av) (v1 + Bv - Av) g0 (g0 + f1 - f0) := by
  intro f
  induction f with
  | zero => intro l e up up' vs vs' v0 v1 f0 f1 g0 h; exact h.elim
  | succ f ih =>
    intro l e up up' vs vs' v0 v1 f0 f1 g0 h hA hAv hm hup hR hO
    have hlt := wf_lt _ _ _ _ _ _ _ _ _ h
    obtain ⟨hc6, h⟩ := h
    obtain ⟨⟨m0, m1, m2, m3, m4, m5, m6, m7⟩, _⟩ := hm l (Nat.le_refl _) hlt.1
    have w3 := m7 3 (by omega) (by omega)
    have w4 := m7 4 (by omega) (by omega)
    have w5 := m7 5 (by omega) (by omega)
    -- a part of it
    have part : ∀ (m m2 : Nat) (us us' : List Nat) (w0 w1 x0 x1 y0 : Nat), wf c f m m2 (l : Int) us w0 w1 x0 x1 → l < m → m2 ≤ e → Av ≤ w0 → v0 ≤ w0 → w1 ≤ v1 → c m 6 = (l : Int) → (∀ y, y ∈ us → metI c m m2 y → R y ∈ us') → wf c' f (m + B - A) (m2 + B - A) ((l + B - A : Nat) : Int) us' (w0 + Bv - Av) (w1 + Bv - Av) y0 (y0 + x1 - x0) := by
      intro m m2 us us' w0 w1 x0 x1 y0 hw h1 h2 h3 h4 h5 h6 h7
      refine ih m m2 _ _ us us' w0 w1 x0 x1 y0 hw (by omega) h3 (fun j j1 j2 => ⟨(hm j (by omega) (by omega)).1, fun z => (hm j (by omega) (by omega)).2 (by omega)⟩) ?_ h7 (fun y y1 y2 => hO y (by omega) (by omega))
      have := wf_lt _ _ _ _ _ _ _ _ _ hw
      rw [(hm m (by omega) (by omega)).2 (by omega), h6]; omega
    have c6 : ∀ (m m2 : Nat) (us : List Nat) (w0 w1 x0 x1 : Nat), wf c f m m2 (l : Int) us w0 w1 x0 x1 → c m 6 = (l : Int) := by
      intro m m2 us w0 w1 x0 x1 hw
      cases f with
      | zero => exact hw.elim
      | succ f => exact hw.1
    have nx : l + 1 + B - A = l + B - A + 1 := by omega
    rcases h with h | h | h | h | h | h | h
    · obtain ⟨k, ⟨x, x1, x2⟩, k2, k3, k4, k5, h1, h2, h3⟩ := h
      rw [if_pos k3] at w3; rw [if_pos k4] at w4; rw [if_pos k5] at w5
      refine ⟨hup, Or.inl ⟨by omega, ⟨R x, hR x x1 ⟨l, Nat.le_refl _, hlt.1, k, x2⟩, ?_⟩, m6 (by omega), w3, w4, w5, by omega, by omega, by omega⟩⟩
      rw [m2 k, x2, Int.toNat_natCast]
    · obtain ⟨k, k1, k2, k3, k4, k5, h1, h2, h3⟩ := h
      rw [if_pos k3] at w3; rw [if_pos k4] at w4; rw [if_pos k5] at w5
      exact ⟨hup, Or.inr (Or.inl ⟨by omega, by rw [m1 k]; exact k1, m6 (by omega), w3, w4, w5, by omega, by omega, by omega⟩)⟩
    · obtain ⟨k, k1, k2, k3, k4, k5, h1⟩ := h
      have a1 := wf_lt _ _ _ _ _ _ _ _ _ h1
      rw [if_neg (by omega)] at w3; rw [if_pos k4] at w4; rw [if_pos k5] at w5
      refine ⟨hup, Or.inr (Or.inr (Or.inl ⟨by omega, by rw [m3 (Or.inl k)]; omega, m6 (by omega), by omega, w4, w5, ?_⟩))⟩
      have := part (l + 1) e _ ((v0 + Bv - Av) :: vs') _ _ _ _ (g0 + 1) h1 (by omega) (Nat.le_refl _) (by omega) (by omega) (Nat.le_refl _) (c6 _ _ _ _ _ _ _ h1) (fun y y1 y2 => ?_)
      · rw [nx, show v0 + 1 + Bv - Av = v0 + Bv - Av + 1 by omega, show g0 + 1 + f1 - (f0 + 1) = g0 + f1 - f0 by omega] at this
        exact this
      · rcases List.mem_cons.mp y1 with z | z
        · rw [z, hO v0 (Nat.le_refl _) (by omega)]; exact List.mem_cons_self
        · obtain ⟨q, q1, q2, q3⟩ := y2
          exact List.mem_cons_of_mem _ (hR y z ⟨q, by omega, by omega, q3⟩)
    · obtain ⟨k, k1, k2, k3, k4, k5, h1⟩ := h
      have a1 := wf_lt _ _ _ _ _ _ _ _ _ h1
      rw [if_neg (by omega)] at w3; rw [if_pos k4] at w4; rw [if_pos k5] at w5
      refine ⟨hup, Or.inr (Or.inr (Or.inr (Or.inl ⟨by omega, by rw [m3 (Or.inr (Or.inl k))]; omega, by rw [m5 k]; omega, by omega, w4, w5, ?_⟩)))⟩
      have := part (l + 1) e _ ((v0 + Bv - Av + 1) :: (v0 + Bv - Av) :: vs') _ _ _ _ (g0 + 1) h1 (by omega) (Nat.le_refl _) (by omega) (by omega) (Nat.le_refl _) (c6 _ _ _ _ _ _ _ h1) (fun y y1 y2 => ?_)
      · rw [nx, show v0 + 2 + Bv - Av = v0 + Bv - Av + 2 by omega, show g0 + 1 + f1 - (f0 + 1) = g0 + f1 - f0 by omega] at this
        exact this
      · rcases List.mem_cons.mp y1 with z | z
        · rw [z, hO (v0 + 1) (by omega) (by omega), show v0 + 1 + Bv - Av = v0 + Bv - Av + 1 by omega]; exact List.mem_cons_self
        · rcases List.mem_cons.mp z with z | z
          · rw [z, hO v0 (by omega) (by omega)]; exact List.mem_cons_of_mem _ List.mem_cons_self
          · obtain ⟨q, q1, q2, q3⟩ := y2
            exact List.mem_cons_of_mem _ (List.mem_cons_of_mem _ (hR y z ⟨q, by omega, by omega, q3⟩))
    · obtain ⟨k, k1, k2, k3, k5, m, v, g, k4, h1, h2⟩ := h
      have a1 := wf_lt _ _ _ _ _ _ _ _ _ h1
      have a2 := wf_lt _ _ _ _ _ _ _ _ _ h2
      rw [if_neg (by omega)] at w3; rw [if_neg (by omega)] at w4; rw [if_pos k5] at w5
      refine ⟨hup, Or.inr (Or.inr (Or.inr (Or.inr (Or.inl ⟨by omega, by rw [m3 (Or.inr (Or.inr k))]; omega, m6 (by omega), by omega, w5, m + B - A, v + Bv - Av, g0 + g - f0, by omega, ?_, ?_⟩))))⟩
      · have := part (l + 1) m _ vs' _ _ _ _ g0 h1 (by omega) (by omega) (by omega) (by omega) (by omega) (c6 _ _ _ _ _ _ _ h1) (fun y y1 ⟨q, q1, q2, q3⟩ => hR y y1 ⟨q, by omega, by omega, q3⟩)
        rw [nx, show v0 + 1 + Bv - Av = v0 + Bv - Av + 1 by omega] at this
        exact this
      · have := part m e _ ((v0 + Bv - Av) :: vs') _ _ _ _ (g0 + g - f0) h2 (by omega) (by omega) (by omega) (by omega) (by omega) (c6 _ _ _ _ _ _ _ h2) (fun y y1 y2 => ?_)
        · rw [show g0 + g - f0 + f1 - g = g0 + f1 - f0 by omega] at this
          exact this
        · rcases List.mem_cons.mp y1 with z | z
          · rw [z, hO v0 (Nat.le_refl _) (by omega)]; exact List.mem_cons_self
          · obtain ⟨q, q1, q2, q3⟩ := y2
            exact List.mem_cons_of_mem _ (hR y z ⟨q, by omega, by omega, q3⟩)
    · obtain ⟨k, k1, k2, k3, m, v, g, m2', v2, g2, k4, k5, h1, h2, h3⟩ := h
      have a1 := wf_lt _ _ _ _ _ _ _ _ _ h1
      have a2 := wf_lt _ _ _ _ _ _ _ _ _ h2
      have a3 := wf_lt _ _ _ _ _ _ _ _ _ h3
      rw [if_neg (by omega)] at w3; rw [if_neg (by omega)] at w4; rw [if_neg (by omega)] at w5
      refine ⟨hup, Or.inr (Or.inr (Or.inr (Or.inr (Or.inr (Or.inl ⟨by omega, m4 (Or.inl k), m6 (by omega), by omega, m + B - A, v + Bv - Av, g0 + g - f0, m2' + B - A, v2 + Bv - Av, g0 + g2 - f0, by omega, by omega, ?_, ?_, ?_⟩)))))⟩
      · have := part (l + 1) m _ vs' _ _ _ _ g0 h1 (by omega) (by omega) (by omega) (by omega) (by omega) (c6 _ _ _ _ _ _ _ h1) (fun y y1 ⟨q, q1, q2, q3⟩ => hR y y1 ⟨q, by omega, by omega, q3⟩)
        rw [nx] at this
        exact this
      · have := part m m2' _ vs' _ _ _ _ (g0 + g - f0) h2 (by omega) (by omega) (by omega) (by omega) (by omega) (c6 _ _ _ _ _ _ _ h2) (fun y y1 ⟨q, q1, q2, q3⟩ => hR y y1 ⟨q, by omega, by omega, q3⟩)
        rw [show g0 + g - f0 + g2 - g = g0 + g2 - f0 by omega] at this
        exact this
      · have := part m2' e _ vs' _ _ _ _ (g0 + g2 - f0) h3 (by omega) (by omega) (by omega) (by omega) (by omega) (c6 _ _ _ _ _ _ _ h3) (fun y y1 ⟨q, q1, q2, q3⟩ => hR y y1 ⟨q, by omega, by omega, q3⟩)
        rw [show g0 + g2 - f0 + f1 - g2 = g0 + f1 - f0 by omega] at this
        exact this
    · obtain ⟨k, k1, k2, k3, k5, m, v, g, k4, h1, h2⟩ := h
      have a1 := wf_lt _ _ _ _ _ _ _ _ _ h1
      have a2 := wf_lt _ _ _ _ _ _ _ _ _ h2
      rw [if_neg (by omega)] at w3; rw [if_neg (by omega)] at w4; rw [if_pos k5] at w5
      refine ⟨hup, Or.inr (Or.inr (Or.inr (Or.inr (Or.inr (Or.inr ⟨by omega, m4 (Or.inr k.1), m6 (by omega), by omega, w5, m + B - A, v + Bv - Av, g0 + g - f0, by omega, ?_, ?_⟩)))))⟩
      · have := part (l + 1) m _ vs' _ _ _ _ g0 h1 (by omega) (by omega) (by omega) (by omega) (by omega) (c6 _ _ _ _ _ _ _ h1) (fun y y1 ⟨q, q1, q2, q3⟩ => hR y y1 ⟨q, by omega, by omega, q3⟩)
        rw [nx] at this
        exact this
      · have := part m e _ vs' _ _ _ _ (g0 + g - f0) h2 (by omega) (by omega) (by omega) (by omega) (by omega) (c6 _ _ _ _ _ _ _ h2) (fun y y1 ⟨q, q1, q2, q3⟩ => hR y y1 ⟨q, by omega, by omega, q3⟩)
        rw [show g0 + g - f0 + f1 - g = g0 + f1 - f0 by omega] at this
        exact this
