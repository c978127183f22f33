/-! THE TREE OF A PROGRAM -/
/-- where an expr ends -/
def enF (c : Nat → Nat → Int) : Nat → Nat → Nat
  | 0, l => l + 1
  | f + 1, l => if c l 0 < 2 then l + 1 else if c l 0 < 4 then enF c f (l + 1) else if c l 0 = 4 then enF c f (c l 5).toNat else enF c f (c l 4).toNat
def en (c : Nat → Nat → Int) (l : Nat) : Nat := enF c 200 l
/-- k binds x -/
def bdr (c : Nat → Nat → Int) (k x : Nat) : Prop := ((c k 0 = 2 ∨ c k 0 = 3 ∨ c k 0 = 5) ∧ c k 1 = (x : Int)) ∨ (c k 0 = 3 ∧ c k 2 = (x : Int))
theorem wf_lt {c : Nat → Nat → Int} : ∀ (f l e : Nat) (up : Int) (vs : List Nat) (v0 v1 f0 f1 : Nat), wf c f l e up vs v0 v1 f0 f1 → l < e ∧ v0 ≤ v1 ∧ f0 ≤ f1 := by
  intro f
  induction f with
  | zero => intro l e up vs v0 v1 f0 f1 h; exact h.elim
  | succ f ih =>
    intro l e up vs v0 v1 f0 f1 h
    obtain ⟨_, h⟩ := h
    rcases h with h | h | h | h | h | h | h
    · obtain ⟨_, _, _, _, _, _, h1, h2, h3⟩ := h; omega
    · obtain ⟨_, _, _, _, _, _, h1, h2, h3⟩ := h; omega
    · obtain ⟨_, _, _, _, _, _, h1⟩ := h; have := ih _ _ _ _ _ _ _ _ h1; omega
    · obtain ⟨_, _, _, _, _, _, h1⟩ := h; have := ih _ _ _ _ _ _ _ _ h1; omega
    · obtain ⟨_, _, _, _, _, m, v, g, _, h1, h2⟩ := h; have := ih _ _ _ _ _ _ _ _ h1; have := ih _ _ _ _ _ _ _ _ h2; omega
    · obtain ⟨_, _, _, _, m, v, g, m2, v2, g2, _, _, h1, h2, h3⟩ := h; have := ih _ _ _ _ _ _ _ _ h1; have := ih _ _ _ _ _ _ _ _ h2; have := ih _ _ _ _ _ _ _ _ h3; omega
    · obtain ⟨_, _, _, _, _, m, v, g, _, h1, h2⟩ := h; have := ih _ _ _ _ _ _ _ _ h1; have := ih _ _ _ _ _ _ _ _ h2; omega
theorem wf_en {c : Nat → Nat → Int} : ∀ (f l e : Nat) (up : Int) (vs : List Nat) (v0 v1 f0 f1 : Nat), wf c f l e up vs v0 v1 f0 f1 → ∀ g, e ≤ g + l → enF c g l = e := by
  intro f
  induction f with
  | zero => intro l e up vs v0 v1 f0 f1 h; exact h.elim
  | succ f ih =>
    intro l e up vs v0 v1 f0 f1 h g hg
    have hlt := (wf_lt _ _ _ _ _ _ _ _ _ h).1
    obtain ⟨g, rfl⟩ : ∃ g', g = g' + 1 := ⟨g - 1, by omega⟩
    obtain ⟨_, h⟩ := h
    rw [enF]
    rcases h with h | h | h | h | h | h | h
    · obtain ⟨k, _, _, _, _, _, h1, h2, h3⟩ := h; rw [if_pos (by omega)]; exact h1.symm
    · obtain ⟨k, _, _, _, _, _, h1, h2, h3⟩ := h; rw [if_pos (by omega)]; exact h1.symm
    · obtain ⟨k, _, _, _, _, _, h1⟩ := h; rw [if_neg (by omega), if_pos (by omega)]; exact ih _ _ _ _ _ _ _ _ h1 g (by omega)
    · obtain ⟨k, _, _, _, _, _, h1⟩ := h; rw [if_neg (by omega), if_pos (by omega)]; exact ih _ _ _ _ _ _ _ _ h1 g (by omega)
    · obtain ⟨k, _, _, _, _, m, v, g9, k4, h1, h2⟩ := h; have := (wf_lt _ _ _ _ _ _ _ _ _ h1).1; rw [if_neg (by omega), if_neg (by omega), if_neg (by omega), k4, Int.toNat_natCast]; exact ih _ _ _ _ _ _ _ _ h2 g (by omega)
    · obtain ⟨k, _, _, _, m, v, g9, m2, v2, g2, k4, k5, h1, h2, h3⟩ := h; have := (wf_lt _ _ _ _ _ _ _ _ _ h1).1; have := (wf_lt _ _ _ _ _ _ _ _ _ h2).1; rw [if_neg (by omega), if_neg (by omega), if_pos (by omega), k5, Int.toNat_natCast]; exact ih _ _ _ _ _ _ _ _ h3 g (by omega)
    · obtain ⟨k, _, _, _, _, m, v, g9, k4, h1, h2⟩ := h; have := (wf_lt _ _ _ _ _ _ _ _ _ h1).1; rw [if_neg (by omega), if_neg (by omega), if_neg (by omega), k4, Int.toNat_natCast]; exact ih _ _ _ _ _ _ _ _ h2 g (by omega)
/-- what stands at k inside l .. e -/
def tr (c : Nat → Nat → Int) (F l e : Nat) (up : Int) (vs : List Nat) (v0 v1 f0 f1 : Nat) (k : Nat) : Prop :=
  ∃ f' e' up' vs' v0' v1' f0' f1', f' ≤ F ∧ wf c f' k e' up' vs' v0' v1' f0' f1' ∧ e' ≤ e ∧ v0 ≤ v0' ∧ v1' ≤ v1 ∧ f0 ≤ f0' ∧ f1' ≤ f1 ∧
    (k = l → f' = F ∧ e' = e ∧ up' = up ∧ vs' = vs ∧ v0' = v0 ∧ v1' = v1 ∧ f0' = f0 ∧ f1' = f1) ∧
    (k ≠ l → ∃ p : Nat, up' = (p : Int) ∧ l ≤ p ∧ p < k ∧ e' ≤ en c p ∧ v0 ≤ v0') ∧
    ∀ x, x ∈ vs' → x ∈ vs ∨ (v0 ≤ x ∧ x < v1 ∧ x < v0' ∧ ∃ j, l ≤ j ∧ j < k ∧ k < en c j ∧ bdr c j x)
theorem tr_up {c : Nat → Nat → Int} {f F l e : Nat} {up : Int} {vs : List Nat} {v0 v1 f0 f1 k : Nat} {l2 e2 : Nat} {vs2 : List Nat} {w0 w1 g0 g1 : Nat} (h : tr c f l2 e2 (l : Int) vs2 w0 w1 g0 g1 k) (hk : l2 ≤ k)
    (hF : f ≤ F) (hl : l < l2) (he : e2 ≤ e) (hen : en c l = e) (hk2 : k < e2) (hv0 : v0 ≤ w0) (hv1 : w1 ≤ v1) (hf0 : f0 ≤ g0) (hf1 : g1 ≤ f1) (hvs : ∀ x, x ∈ vs2 → x ∈ vs ∨ (v0 ≤ x ∧ x < w0 ∧ x < v1 ∧ bdr c l x)) : tr c F l e up vs v0 v1 f0 f1 k := by
  obtain ⟨f', e', up', vs', v0', v1', f0', f1', a1, a2, a3, a4, a5, a6, a7, a8, a9, a10⟩ := h
  refine ⟨f', e', up', vs', v0', v1', f0', f1', by omega, a2, by omega, by omega, by omega, by omega, by omega, fun z => by omega, fun _ => ?_, fun x hx => ?_⟩
  · by_cases q : k = l2
    · obtain ⟨_, b2, b3, _⟩ := a8 q
      exact ⟨l, b3, Nat.le_refl _, by omega, by omega, by omega⟩
    · obtain ⟨p, b1, b2, b3, b4, b5⟩ := a9 q
      exact ⟨p, b1, by omega, b3, b4, by omega⟩
  · rcases a10 x hx with q | ⟨q1, q2, q3, j, q4, q5, q6, q7⟩
    · rcases hvs x q with q | ⟨q1, q2, q4, q3⟩
      · exact Or.inl q
      · exact Or.inr ⟨q1, q4, by omega, l, Nat.le_refl _, by omega, by omega, q3⟩
    · exact Or.inr ⟨by omega, by omega, q3, j, by omega, q5, q6, q7⟩
theorem wf_tr {c : Nat → Nat → Int} : ∀ (f l e : Nat) (up : Int) (vs : List Nat) (v0 v1 f0 f1 : Nat), e ≤ 200 → wf c f l e up vs v0 v1 f0 f1 → ∀ k, l ≤ k → k < e → tr c f l e up vs v0 v1 f0 f1 k := by
  intro f
  induction f with
  | zero => intro l e up vs v0 v1 f0 f1 _ h; exact h.elim
  | succ f ih =>
    intro l e up vs v0 v1 f0 f1 he200 h k hk hke
    have hen : en c l = e := wf_en _ _ _ _ _ _ _ _ _ h 200 (by omega)
    by_cases q : k = l
    · subst q
      exact ⟨f + 1, e, up, vs, v0, v1, f0, f1, Nat.le_refl _, h, Nat.le_refl _, Nat.le_refl _, Nat.le_refl _, Nat.le_refl _, Nat.le_refl _, fun _ => ⟨rfl, rfl, rfl, rfl, rfl, rfl, rfl, rfl⟩, fun z => absurd rfl z, fun x hx => Or.inl hx⟩
    obtain ⟨_, h⟩ := h
    rcases h with h | h | h | h | h | h | h
    · obtain ⟨_, _, _, _, _, _, h1, h2, h3⟩ := h; omega
    · obtain ⟨_, _, _, _, _, _, h1, h2, h3⟩ := h; omega
    · obtain ⟨k0, k1, _, _, _, _, h1⟩ := h
      have w := wf_lt _ _ _ _ _ _ _ _ _ h1
      refine tr_up (ih _ _ _ _ _ _ _ _ he200 h1 k (by omega) hke) (by omega) (by omega) (by omega) (Nat.le_refl _) hen hke (by omega) (Nat.le_refl _) (by omega) (Nat.le_refl _) (fun x hx => ?_)
      rcases List.mem_cons.mp hx with z | z
      · exact Or.inr ⟨by omega, by omega, by omega, Or.inl ⟨Or.inl k0, by rw [k1, z]⟩⟩
      · exact Or.inl z
    · obtain ⟨k0, k1, k2, _, _, _, h1⟩ := h
      have w := wf_lt _ _ _ _ _ _ _ _ _ h1
      refine tr_up (ih _ _ _ _ _ _ _ _ he200 h1 k (by omega) hke) (by omega) (by omega) (by omega) (Nat.le_refl _) hen hke (by omega) (Nat.le_refl _) (by omega) (Nat.le_refl _) (fun x hx => ?_)
      rcases List.mem_cons.mp hx with z | z
      · exact Or.inr ⟨by omega, by omega, by omega, Or.inl ⟨Or.inr (Or.inl k0), by rw [k1, z]⟩⟩
      · rcases List.mem_cons.mp z with z | z
        · exact Or.inr ⟨by omega, by omega, by omega, Or.inr ⟨k0, by rw [k2, z]⟩⟩
        · exact Or.inl z
    · obtain ⟨k0, k1, _, _, _, m, v, g, _, h1, h2⟩ := h
      have w1 := wf_lt _ _ _ _ _ _ _ _ _ h1
      have w2 := wf_lt _ _ _ _ _ _ _ _ _ h2
      by_cases z : k < m
      · exact tr_up (ih _ _ _ _ _ _ _ _ (by omega) h1 k (by omega) z) (by omega) (by omega) (by omega) (by omega) hen z (by omega) (by omega) (by omega) (by omega) (fun x hx => Or.inl hx)
      · refine tr_up (ih _ _ _ _ _ _ _ _ (by omega) h2 k (by omega) hke) (by omega) (by omega) (by omega) (by omega) hen hke (by omega) (by omega) (by omega) (by omega) (fun x hx => ?_)
        rcases List.mem_cons.mp hx with z | z
        · exact Or.inr ⟨by omega, by omega, by omega, Or.inl ⟨Or.inr (Or.inr k0), by rw [k1, z]⟩⟩
        · exact Or.inl z
    · obtain ⟨_, _, _, _, m, v, g, m2, v2, g2, _, _, h1, h2, h3⟩ := h
      have w1 := wf_lt _ _ _ _ _ _ _ _ _ h1
      have w2 := wf_lt _ _ _ _ _ _ _ _ _ h2
      have w3 := wf_lt _ _ _ _ _ _ _ _ _ h3
      by_cases z : k < m
      · exact tr_up (ih _ _ _ _ _ _ _ _ (by omega) h1 k (by omega) z) (by omega) (by omega) (by omega) (by omega) hen z (by omega) (by omega) (by omega) (by omega) (fun x hx => Or.inl hx)
      by_cases z2 : k < m2
      · exact tr_up (ih _ _ _ _ _ _ _ _ (by omega) h2 k (by omega) z2) (by omega) (by omega) (by omega) (by omega) hen z2 (by omega) (by omega) (by omega) (by omega) (fun x hx => Or.inl hx)
      · exact tr_up (ih _ _ _ _ _ _ _ _ (by omega) h3 k (by omega) hke) (by omega) (by omega) (by omega) (by omega) hen hke (by omega) (by omega) (by omega) (by omega) (fun x hx => Or.inl hx)
    · obtain ⟨_, _, _, _, _, m, v, g, _, h1, h2⟩ := h
      have w1 := wf_lt _ _ _ _ _ _ _ _ _ h1
      have w2 := wf_lt _ _ _ _ _ _ _ _ _ h2
      by_cases z : k < m
      · exact tr_up (ih _ _ _ _ _ _ _ _ (by omega) h1 k (by omega) z) (by omega) (by omega) (by omega) (by omega) hen z (by omega) (by omega) (by omega) (by omega) (fun x hx => Or.inl hx)
      · exact tr_up (ih _ _ _ _ _ _ _ _ (by omega) h2 k (by omega) hke) (by omega) (by omega) (by omega) (by omega) hen hke (by omega) (by omega) (by omega) (by omega) (fun x hx => Or.inl hx)
section TR
variable {c : Nat → Nat → Int} {n nv nf : Nat}
/-- any label of a program -/
theorem wP.at (hw : wP c n nv nf) {k : Nat} (hk : k < n) : ∃ f vs v0 v1 f0 f1, wf c f k (en c k) (c k 6) vs v0 v1 f0 f1 ∧ k < en c k ∧ en c k ≤ n ∧ v1 ≤ nv ∧ f1 ≤ nf ∧ (∀ x, x ∈ vs → x < v0 ∧ ∃ j, j < k ∧ k < en c j ∧ bdr c j x) ∧ (k ≠ 0 → ∃ p : Nat, c k 6 = (p : Int) ∧ p < k ∧ en c k ≤ en c p) := by
  obtain ⟨h1, h2, h3, F, hF⟩ := hw
  obtain ⟨f', e', up', vs', v0', v1', f0', f1', a1, a2, a3, a4, a5, a6, a7, a8, a9, a10⟩ := wf_tr _ _ _ _ _ _ _ _ _ h1 hF k (Nat.zero_le _) hk
  have he : en c k = e' := wf_en _ _ _ _ _ _ _ _ _ a2 200 (by omega)
  have hu : c k 6 = up' := by
    cases f' with
    | zero => exact a2.elim
    | succ f' => exact a2.1
  rw [he, hu]
  refine ⟨f', vs', v0', v1', f0', f1', a2, (wf_lt _ _ _ _ _ _ _ _ _ a2).1, a3, a5, a7, fun x hx => ?_, fun z => ?_⟩
  · rcases a10 x hx with q | ⟨q1, q2, q3, j, q4, q5, q6, q7⟩
    · cases q
    · exact ⟨q3, j, q5, q6, q7⟩
  · obtain ⟨p, b1, b2, b3, b4, _⟩ := a9 z
    exact ⟨p, b1, b3, b4⟩
/-- what is inside an expr ends inside it -/
theorem wP.nest (hw : wP c n nv nf) {l k : Nat} (hl : l < n) (hk : l ≤ k) (hk2 : k < en c l) : en c k ≤ en c l ∧ (k ≠ l → ∃ p : Nat, c k 6 = (p : Int) ∧ l ≤ p ∧ p < k) := by
  obtain ⟨f, vs, v0, v1, f0, f1, h, h2, h3, _⟩ := hw.at hl
  have hn := hw.1
  obtain ⟨f', e', up', vs', v0', v1', f0', f1', a1, a2, a3, a4, a5, a6, a7, a8, a9, a10⟩ := wf_tr _ _ _ _ _ _ _ _ _ (by omega) h k hk hk2
  have he : en c k = e' := wf_en _ _ _ _ _ _ _ _ _ a2 200 (by omega)
  have hu : c k 6 = up' := by
    cases f' with
    | zero => exact a2.elim
    | succ f' => exact a2.1
  rw [he, hu]
  refine ⟨a3, fun z => ?_⟩
  obtain ⟨p, b1, b2, b3, b4, _⟩ := a9 z
  exact ⟨p, b1, b2, b3⟩
end TR
