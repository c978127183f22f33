/-! THE CLASS RUNS -/
section UB
variable {c : Nat → Nat → Int} {n nv nf : Nat}
theorem bdr_rg (hw : wP c n nv nf) {g v : Nat} (hg : g < n) (h : bdr c g v) : vcn c g ≤ v ∧ v < vcn c (g + 1) := by
  obtain ⟨f, vs, hwf, _, _⟩ := hw.at2 hg
  obtain ⟨q1, q2, q3, q4⟩ := wf_hd hwf
  have hv' : vcn c (g + 1) = vcn c g + (if c g 0 = 3 then 2 else if c g 0 = 2 ∨ c g 0 = 5 then 1 else 0) := rfl
  rcases h with ⟨k, z⟩ | ⟨k, z⟩
  · rcases k with k | k | k
    · rw [if_neg (by omega), if_pos (Or.inl k)] at hv'; have := q1 k; omega
    · rw [if_pos k] at hv'; have := q2 k; omega
    · rw [if_neg (by omega), if_pos (Or.inr k)] at hv'; have := q3 k; omega
  · rw [if_pos k] at hv'; have := q2 k; omega
theorem bdr_un (hw : wP c n nv nf) {g1 g2 v : Nat} (h1 : g1 < n) (h2 : g2 < n) (b1 : bdr c g1 v) (b2 : bdr c g2 v) : g1 = g2 := by
  have r1 := bdr_rg hw h1 b1
  have r2 := bdr_rg hw h2 b2
  by_cases z : g1 < g2
  · have := vcn_mono (c := c) (show g1 + 1 ≤ g2 by omega); omega
  · by_cases z2 : g2 < g1
    · have := vcn_mono (c := c) (show g2 + 1 ≤ g1 by omega); omega
    · omega
theorem bdN_ok (hw : wP c n nv nf) {g v : Nat} (hg : g < n) (h : bdr c g v) : bdN c n v = g := by
  have key : ∀ m, m ≤ n → g < m → bdN c m v = g := by
    intro m
    induction m with
    | zero => intro _ h; omega
    | succ m ih =>
      intro hm hgm
      rw [bdN]
      by_cases q : (c m 0 = 2 ∨ c m 0 = 3 ∨ c m 0 = 5) ∧ (c m 1 = (v : Int) ∨ c m 2 = (v : Int))
      · rw [if_pos q]
        refine bdr_un hw (by omega) hg ?_ h
        obtain ⟨q1, q2⟩ := q
        rcases q2 with q2 | q2
        · exact Or.inl ⟨q1, q2⟩
        · by_cases k : c m 0 = 3
          · exact Or.inr ⟨k, q2⟩
          · have := (hw.flat.2.2.2 m (by omega)).1.2.2.2.2.2.2.2.2.2.1 k
            omega
      · rw [if_neg q]
        by_cases e : g = m
        · subst e
          exfalso; apply q
          rcases h with ⟨k, z⟩ | ⟨k, z⟩
          · exact ⟨k, Or.inl z⟩
          · exact ⟨Or.inr (Or.inl k), Or.inr z⟩
        · exact ih (by omega) (by omega)
  exact key n (Nat.le_refl _) hg
end UB
/-- what stands in its bindings: a value (function, number), or what is bound from r on -/
def cX (T : gT) (N : Nat) : eT → Int → Int64 → Int → Prop
  | .nil, _, _, r => r = -1
  | .nest z _, k, x, _ => k = -1 ∧ x = Int64.ofInt z
  | .tag t e, k, x, _ => k = (t : Int) ∧ ∃ r : Int, (-1 ≤ r ∧ r < (N : Int)) ∧ x = (zI r).toInt64 ∧ cX T N e 0 0 r
  | .append (.tag v w) (.nest _ e), _, _, r => ∃ q : Nat, r = (q : Int) ∧ q < N ∧ vI T 54 q = (v : Int) ∧ cX T N w (vI T 55 q) (T.2.1 56 q) 0 ∧ (-1 ≤ vI T 57 q ∧ vI T 57 q < (q : Int)) ∧ cX T N e 0 0 (vI T 57 q)
  | .append (.tag v w) (.tag _ e), _, _, r => ∃ q : Nat, r = (q : Int) ∧ q < N ∧ vI T 54 q = (v : Int) ∧ cX T N w (vI T 55 q) (T.2.1 56 q) 0 ∧ (-1 ≤ vI T 57 q ∧ vI T 57 q < (q : Int)) ∧ cX T N e 0 0 (vI T 57 q)
  | _, _, _, _ => False
def bhS (T : gT) (N : Nat) (T' : gT) (N' : Nat) : Prop := N ≤ N' ∧ ∀ q, q < N → vI T' 54 q = vI T 54 q ∧ vI T' 55 q = vI T 55 q ∧ T'.2.1 56 q = T.2.1 56 q ∧ vI T' 57 q = vI T 57 q
theorem cX.of {T T' : gT} {N N' : Nat} (hc : bhS T N T' N') : ∀ (e : eT) (k : Int) (x : Int64) (r : Int), cX T N e k x r → cX T' N' e k x r
  | .nil, k, x, r, h => by rw [cX] at h ⊢; exact h
  | .nest z e, k, x, r, h => by rw [cX] at h ⊢; exact h
  | .tag t e, k, x, r, h => by
    rw [cX] at h ⊢
    obtain ⟨h1, r', h2, h3, h4⟩ := h
    have := hc.1
    exact ⟨h1, r', by omega, h3, cX.of hc e _ _ _ h4⟩
  | .append (.tag v w) (.nest z e), k, x, r, h => by
    rw [cX] at h ⊢
    obtain ⟨q, h1, h2, h3, h4, h5, h6⟩ := h
    obtain ⟨e1, e2, e3, e4⟩ := hc.2 q h2
    refine ⟨q, h1, Nat.lt_of_lt_of_le h2 hc.1, e1.trans h3, ?_, by rw [e4]; exact h5, ?_⟩
    · rw [e2, e3]; exact cX.of hc w _ _ _ h4
    · rw [e4]; exact cX.of hc e _ _ _ h6
  | .append (.tag v w) (.tag t e), k, x, r, h => by
    rw [cX] at h ⊢
    obtain ⟨q, h1, h2, h3, h4, h5, h6⟩ := h
    obtain ⟨e1, e2, e3, e4⟩ := hc.2 q h2
    refine ⟨q, h1, Nat.lt_of_lt_of_le h2 hc.1, e1.trans h3, ?_, by rw [e4]; exact h5, ?_⟩
    · rw [e2, e3]; exact cX.of hc w _ _ _ h4
    · rw [e4]; exact cX.of hc e _ _ _ h6
  | .append .nil _, k, x, r, h => by unfold cX at h; exact h.elim
  | .append .line _, k, x, r, h => by unfold cX at h; exact h.elim
  | .append (.align _) _, k, x, r, h => by unfold cX at h; exact h.elim
  | .append (.text _) _, k, x, r, h => by unfold cX at h; exact h.elim
  | .append (.nest _ _) _, k, x, r, h => by unfold cX at h; exact h.elim
  | .append (.append _ _) _, k, x, r, h => by unfold cX at h; exact h.elim
  | .append (.group _ _) _, k, x, r, h => by unfold cX at h; exact h.elim
  | .append (.tag _ _) .nil, k, x, r, h => by unfold cX at h; exact h.elim
  | .append (.tag _ _) .line, k, x, r, h => by unfold cX at h; exact h.elim
  | .append (.tag _ _) (.align _), k, x, r, h => by unfold cX at h; exact h.elim
  | .append (.tag _ _) (.text _), k, x, r, h => by unfold cX at h; exact h.elim
  | .append (.tag _ _) (.append _ _), k, x, r, h => by unfold cX at h; exact h.elim
  | .append (.tag _ _) (.group _ _), k, x, r, h => by unfold cX at h; exact h.elim
  | .line, k, x, r, h => by unfold cX at h; exact h.elim
  | .align _, k, x, r, h => by unfold cX at h; exact h.elim
  | .text _, k, x, r, h => by unfold cX at h; exact h.elim
  | .group _ _, k, x, r, h => by unfold cX at h; exact h.elim
theorem cX.ix {T : gT} {c : Nat → Nat → Int} {n N : Nat} : ∀ {e : eT} {vs : List Nat} {k : Int} {x : Int64} {r : Int}, fit c n e (some vs) → cX T N e k x r → -1 ≤ r ∧ r < (N : Int)
  | .nil, vs, k, x, r, _, h => by rw [cX] at h; omega
  | .append (.tag v w) (.nest z e), vs, k, x, r, _, h => by rw [cX] at h; obtain ⟨q, h1, h2, _⟩ := h; omega
  | .append (.tag v w) (.tag t e), vs, k, x, r, _, h => by rw [cX] at h; obtain ⟨q, h1, h2, _⟩ := h; omega
section CL
variable {sa : Nat → Nat} {b : Nat} {E : Nat × mH} {d : Nat} {T : gT} {q N : Nat} {c : Nat → Nat → Int} {n nv nf : Nat}
/-- a variable that is bound itself -/
theorem find_x (hw : wP c n nv nf) {x : Nat} (hN : vI T 53 4 = (N : Int)) (hN2 : N ≤ 1000) {l2 : Int} {φ : Int → gT → Prop} {w : eT} {g : Nat} (hg : g < n) (hgx : (c g 0 = 2 ∨ c g 0 = 3 ∨ c g 0 = 5) ∧ c g 1 = (x : Int)) (k : ∀ p : Nat, p < N → cX T N (lkE c n x w) (vI T 55 p) (T.2.1 56 p) 0 → φ (p : Int) T) :
    ∀ (e : eT) (vs : List Nat) (r : Int) (l4 : Nat), fit c n e (some vs) → x ∈ vs → cX T N e 0 0 r → r + 1 + l4 ≤ 1000 → lkE c n x e = lkE c n x w → gW (tP sa) lD b E d mX0_find 5 [some (.ref (b + 53)), some (.int (zI (x : Int))), some (.int (zI l2)), some (.int (zI r)), some (.int (zI (l4 : Int)))] [] T (fun r T' => pI r (fun v => φ v T'))
  | .nil, vs, r, l4, hf, hv, _, _, _ => by
    rw [fit] at hf
    rw [hf] at hv; cases hv
  | .append (.tag v u) (.nest z e), vs, r, l4, hf, hv, hX, hr, he => by
    have hv100 := bdr_rg hw hg (Or.inl hgx)
    rw [fit] at hf
    obtain ⟨f2, vs', f3, f4, f5⟩ := hf
    rw [cX] at hX
    obtain ⟨p, h1, h2, h3, h4, h5, h6⟩ := hX
    subst h1
    rw [lkE] at he
    have hxn : x < 2147483648 := by have := vcn_mono (c := c) (show g + 1 ≤ n by omega); have h9 := hw.can; obtain ⟨_, _, e1, _⟩ := h9; have := hw.2.1; omega
    refine w_X0_find_5 ?_
    unfold f_X0_find_5
    rw [Int.toNat_natCast, h3, hN]
    refine ⟨by omega, fun z => by omega, fun _ => ⟨by omega, fun z => by omega, fun _ => ⟨fun z => by omega, fun _ => ⟨by omega, by omega, by omega, fun z => ?_, fun z => ⟨_, rfl, ?_⟩⟩⟩⟩⟩
    · rw [if_neg (by omega)] at he
      rw [show (l4 : Int) + 1 = ((l4 + 1 : Nat) : Int) by omega]
      refine find_x hw hN hN2 hg hgx k e vs' _ (l4 + 1) f4 ?_ h6 (by omega) he
      rw [f3] at hv
      rcases List.mem_cons.mp hv with y | y
      · exact absurd (by rw [y]) z
      · exact y
    · rw [if_pos (by omega)] at he
      rw [he] at h4
      exact k p h2 h4
  | .append (.tag v u) (.tag t e), vs, r, l4, hf, hv, hX, hr, he => by
    have hv100 := bdr_rg hw hg (Or.inl hgx)
    rw [fit] at hf
    obtain ⟨f2, f3, f4, f5, vs', y, f6, f7, f8, f9⟩ := hf
    rw [cX] at hX
    obtain ⟨p, h1, h2, h3, h4, h5, h6⟩ := hX
    subst h1
    rw [lkE] at he
    have hxn : x < 2147483648 := by have := vcn_mono (c := c) (show g + 1 ≤ n by omega); have h9 := hw.can; obtain ⟨_, _, e1, _⟩ := h9; have := hw.2.1; omega
    obtain ⟨a1, a2, a3⟩ := lbN_ok f3
    refine w_X0_find_5 ?_
    unfold f_X0_find_5
    rw [Int.toNat_natCast, h3, hN]
    refine ⟨by omega, fun z => by omega, fun _ => ⟨by omega, fun z => by omega, fun _ => ⟨fun z => by omega, fun _ => ⟨by omega, by omega, by omega, fun z => ?_, fun z => ⟨_, rfl, ?_⟩⟩⟩⟩⟩
    · rw [if_neg (by omega)] at he
      -- x is no f
      have nf2 : ¬ c (lbN c n t) 2 = (x : Int) := by
        intro y2
        have e1 := bdr_un hw a1 hg (Or.inr ⟨f4, y2⟩) (Or.inl hgx)
        have := hgx.2
        rw [← e1, f5] at this
        exact z this
      rw [if_neg nf2] at he
      rw [show (l4 : Int) + 1 = ((l4 + 1 : Nat) : Int) by omega]
      refine find_x hw hN hN2 hg hgx k e vs' _ (l4 + 1) f9 ?_ h6 (by omega) he
      rw [f7] at hv
      rcases List.mem_cons.mp hv with y' | y'
      · exact absurd (by rw [y']) z
      · rcases List.mem_cons.mp y' with y' | y'
        · exact absurd (by rw [f6, y']) nf2
        · exact y'
    · rw [if_pos (by omega)] at he
      rw [he] at h4
      exact k p h2 h4
/-- the f of a fix: where its x is bound -/
theorem find_f (hw : wP c n nv nf) {x y : Nat} (hN : vI T 53 4 = (N : Int)) (hN2 : N ≤ 1000) {l2 : Int} {φ : Int → gT → Prop} {w : eT} {g : Nat} (hg : g < n) (hg3 : c g 0 = 3) (hgx : c g 1 = (x : Int)) (hgy : c g 2 = (y : Int)) (k : ∀ p : Nat, p < N → cX T N (lkE c n y w) (fcn c g : Int) ((zI (vI T 57 p)).toInt64) 0 → φ (p : Int) T) :
    ∀ (e : eT) (vs : List Nat) (r : Int) (l4 : Nat), fit c n e (some vs) → y ∈ vs → cX T N e 0 0 r → r + 1 + l4 ≤ 1000 → lkE c n y e = lkE c n y w → gW (tP sa) lD b E d mX0_find 5 [some (.ref (b + 53)), some (.int (zI (x : Int))), some (.int (zI l2)), some (.int (zI r)), some (.int (zI (l4 : Int)))] [] T (fun r T' => pI r (fun v => φ v T'))
  | .nil, vs, r, l4, hf, hv, _, _, _ => by
    rw [fit] at hf
    rw [hf] at hv; cases hv
  | .append (.tag v u) (.nest z e), vs, r, l4, hf, hv, hX, hr, he => by
    have hv100 := bdr_rg hw hg (Or.inl ⟨Or.inr (Or.inl hg3), hgx⟩)
    rw [fit] at hf
    obtain ⟨f2, vs', f3, f4, g', g1, g2, g3⟩ := hf
    rw [cX] at hX
    obtain ⟨p, h1, h2, h3, h4, h5, h6⟩ := hX
    subst h1
    rw [lkE] at he
    have hxn : x < 2147483648 := by have := vcn_mono (c := c) (show g + 1 ≤ n by omega); have h9 := hw.can; obtain ⟨_, _, e1, _⟩ := h9; have := hw.2.1; omega
    have nx : ¬ v = x := by
      intro e1
      rw [e1] at g3
      have := bdr_un hw g1 hg (Or.inl ⟨by omega, g3⟩) (Or.inl ⟨Or.inr (Or.inl hg3), hgx⟩)
      rw [this] at g2; omega
    have ny : ¬ v = y := by
      intro e1
      rw [e1] at g3
      have := bdr_un hw g1 hg (Or.inl ⟨by omega, g3⟩) (Or.inr ⟨hg3, hgy⟩)
      rw [this] at g2; omega
    refine w_X0_find_5 ?_
    unfold f_X0_find_5
    rw [Int.toNat_natCast, h3, hN]
    refine ⟨by omega, fun z => by omega, fun _ => ⟨by omega, fun z => by omega, fun _ => ⟨fun z => by omega, fun _ => ⟨by omega, by omega, by omega, fun z => ?_, fun z => by omega⟩⟩⟩⟩
    rw [if_neg ny] at he
    rw [show (l4 : Int) + 1 = ((l4 + 1 : Nat) : Int) by omega]
    refine find_f hw hN hN2 hg hg3 hgx hgy k e vs' _ (l4 + 1) f4 ?_ h6 (by omega) he
    rw [f3] at hv
    rcases List.mem_cons.mp hv with y' | y'
    · exact absurd y'.symm ny
    · exact y'
  | .append (.tag v u) (.tag t e), vs, r, l4, hf, hv, hX, hr, he => by
    have hv100 := bdr_rg hw hg (Or.inl ⟨Or.inr (Or.inl hg3), hgx⟩)
    rw [fit] at hf
    obtain ⟨f2, f3, f4, f5, vs', y2, f6, f7, f8, f9⟩ := hf
    rw [cX] at hX
    obtain ⟨p, h1, h2, h3, h4, h5, h6⟩ := hX
    subst h1
    rw [lkE] at he
    have hxn : x < 2147483648 := by have := vcn_mono (c := c) (show g + 1 ≤ n by omega); have h9 := hw.can; obtain ⟨_, _, e1, _⟩ := h9; have := hw.2.1; omega
    obtain ⟨a1, a2, a3⟩ := lbN_ok f3
    have ny : ¬ v = y := by
      intro e1
      rw [e1] at f5
      have := bdr_un hw a1 hg (Or.inl ⟨Or.inr (Or.inl f4), f5⟩) (Or.inr ⟨hg3, hgy⟩)
      rw [this, hgx] at f5
      have r1 := wf_hd (Classical.choose_spec (Classical.choose_spec (hw.at2 hg))).1
      have := r1.2.1 hg3
      omega
    rw [if_neg ny] at he
    refine w_X0_find_5 ?_
    unfold f_X0_find_5
    rw [Int.toNat_natCast, h3, hN]
    refine ⟨by omega, fun z => by omega, fun _ => ⟨by omega, fun z => by omega, fun _ => ⟨fun z => by omega, fun _ => ⟨by omega, by omega, by omega, fun z => ?_, fun z => ⟨_, rfl, ?_⟩⟩⟩⟩⟩
    · have nf2 : ¬ c (lbN c n t) 2 = (y : Int) := by
        intro z2
        have e1 := bdr_un hw a1 hg (Or.inr ⟨f4, z2⟩) (Or.inr ⟨hg3, hgy⟩)
        rw [e1, hgx] at f5
        exact z f5.symm
      rw [if_neg nf2] at he
      rw [show (l4 : Int) + 1 = ((l4 + 1 : Nat) : Int) by omega]
      refine find_f hw hN hN2 hg hg3 hgx hgy k e vs' _ (l4 + 1) f9 ?_ h6 (by omega) he
      rw [f7] at hv
      rcases List.mem_cons.mp hv with y' | y'
      · exact absurd y'.symm ny
      · rcases List.mem_cons.mp y' with y' | y'
        · exact absurd (by rw [f6, y']) nf2
        · exact y'
    · have e1 : lbN c n t = g := by
        refine bdr_un hw a1 hg (Or.inl ⟨Or.inr (Or.inl f4), f5⟩) (Or.inl ⟨Or.inr (Or.inl hg3), ?_⟩)
        rw [hgx, z]
      rw [if_pos (by rw [e1]; exact hgy)] at he
      refine k p h2 ?_
      rw [← he, cX]
      refine ⟨?_, vI T 57 p, by omega, rfl, h6⟩
      rw [← e1, a3]
end CL
