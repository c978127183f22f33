/-! THE REFERENCE RUNS -/
/-- what stands in its chains: a value (kind, number, back), or what is bound from r on -/
def rX (T : gT) (c : Nat → Nat → Int) (n N : Nat) : eT → Int → Int64 → Int → Prop
  | .nil, _, _, r => r = -1
  | .nest z _, k, x, _ => k = 0 ∧ x = Int64.ofInt z
  | .tag t e, k, x, r => k = 1 ∧ x = (zI (t : Int)).toInt64 ∧ rX T c n N e 0 0 r
  | .append (.tag v w) (.nest _ e), _, _, r => ∃ q : Nat, r = (q : Int) ∧ q < N ∧ vI T 22 q = (v : Int) ∧ rX T c n N w (vI T 23 q) (T.2.1 24 q) (vI T 25 q) ∧ rX T c n N e 0 0 (vI T 26 q)
  | .append (.tag v w) (.tag t e), _, _, r => ∃ q s : Nat, r = (q : Int) ∧ q < N ∧ vI T 22 q = (v : Int) ∧ rX T c n N w (vI T 23 q) (T.2.1 24 q) (vI T 25 q) ∧ vI T 26 q = (s : Int) ∧ s < N ∧ vI T 22 s = c (lbN c n t) 2 ∧ vI T 23 s = 1 ∧ T.2.1 24 s = (zI (t : Int)).toInt64 ∧ vI T 25 s = vI T 26 s ∧ rX T c n N e 0 0 (vI T 26 s)
  | _, _, _, _ => False
/-- the chains below N stay -/
def chS (T : gT) (N : Nat) (T' : gT) (N' : Nat) : Prop := N ≤ N' ∧ ∀ q, q < N → vI T' 22 q = vI T 22 q ∧ vI T' 23 q = vI T 23 q ∧ T'.2.1 24 q = T.2.1 24 q ∧ vI T' 25 q = vI T 25 q ∧ vI T' 26 q = vI T 26 q
theorem rX.of {T T' : gT} {c : Nat → Nat → Int} {n N N' : Nat} (hc : chS T N T' N') : ∀ (e : eT) (k : Int) (x : Int64) (r : Int), rX T c n N e k x r → rX T' c n N' e k x r
  | .nil, k, x, r, h => by rw [rX] at h ⊢; exact h
  | .nest z e, k, x, r, h => by rw [rX] at h ⊢; exact h
  | .tag t e, k, x, r, h => by
    rw [rX] at h ⊢
    exact ⟨h.1, h.2.1, rX.of hc e _ _ _ h.2.2⟩
  | .append (.tag v w) (.nest z e), k, x, r, h => by
    rw [rX] at h ⊢
    obtain ⟨q, h1, h2, h3, h4, h5⟩ := h
    obtain ⟨e1, e2, e3, e4, e5⟩ := hc.2 q h2
    refine ⟨q, h1, Nat.lt_of_lt_of_le h2 hc.1, e1.trans h3, ?_, ?_⟩
    · rw [e2, e3, e4]; exact rX.of hc w _ _ _ h4
    · rw [e5]; exact rX.of hc e _ _ _ h5
  | .append (.tag v w) (.tag t e), k, x, r, h => by
    rw [rX] at h ⊢
    obtain ⟨q, s, h1, h2, h3, h4, h5, h6, h7, h8, h9, h10, h11⟩ := h
    obtain ⟨e1, e2, e3, e4, e5⟩ := hc.2 q h2
    obtain ⟨f1, f2, f3, f4, f5⟩ := hc.2 s h6
    refine ⟨q, s, h1, Nat.lt_of_lt_of_le h2 hc.1, e1.trans h3, ?_, e5.trans h5, Nat.lt_of_lt_of_le h6 hc.1, f1.trans h7, f2.trans h8, f3.trans h9, by rw [f4, f5]; exact h10, ?_⟩
    · rw [e2, e3, e4]; exact rX.of hc w _ _ _ h4
    · rw [f5]; exact rX.of hc e _ _ _ h11
  | .append .nil _, k, x, r, h => by unfold rX at h; exact h.elim
  | .append .line _, k, x, r, h => by unfold rX at h; exact h.elim
  | .append (.align _) _, k, x, r, h => by unfold rX at h; exact h.elim
  | .append (.text _) _, k, x, r, h => by unfold rX at h; exact h.elim
  | .append (.nest _ _) _, k, x, r, h => by unfold rX at h; exact h.elim
  | .append (.append _ _) _, k, x, r, h => by unfold rX at h; exact h.elim
  | .append (.group _ _) _, k, x, r, h => by unfold rX at h; exact h.elim
  | .append (.tag _ _) .nil, k, x, r, h => by unfold rX at h; exact h.elim
  | .append (.tag _ _) .line, k, x, r, h => by unfold rX at h; exact h.elim
  | .append (.tag _ _) (.align _), k, x, r, h => by unfold rX at h; exact h.elim
  | .append (.tag _ _) (.text _), k, x, r, h => by unfold rX at h; exact h.elim
  | .append (.tag _ _) (.append _ _), k, x, r, h => by unfold rX at h; exact h.elim
  | .append (.tag _ _) (.group _ _), k, x, r, h => by unfold rX at h; exact h.elim
  | .line, k, x, r, h => by unfold rX at h; exact h.elim
  | .align _, k, x, r, h => by unfold rX at h; exact h.elim
  | .text _, k, x, r, h => by unfold rX at h; exact h.elim
  | .group _ _, k, x, r, h => by unfold rX at h; exact h.elim
theorem rX.ix {T : gT} {c : Nat → Nat → Int} {n N : Nat} : ∀ {e : eT} {vs : List Nat} {k : Int} {x : Int64} {r : Int}, fit c n e (some vs) → rX T c n N e k x r → -1 ≤ r ∧ r < (N : Int)
  | .nil, vs, k, x, r, _, h => by rw [rX] at h; omega
  | .append (.tag v w) (.nest z e), vs, k, x, r, _, h => by rw [rX] at h; obtain ⟨q, h1, h2, _⟩ := h; omega
  | .append (.tag v w) (.tag t e), vs, k, x, r, _, h => by rw [rX] at h; obtain ⟨q, s, h1, h2, _⟩ := h; omega
/-- a waiting expr -/
def rFr (T : gT) (c : Nat → Nat → Int) (n N i : Nat) (p : mFr) : Prop := vI T 16 i = (p.1 : Int) ∧ rX T c n N p.2.1 0 0 (vI T 17 i) ∧ (match p.2.2 with
  | none => vI T 18 i = 1
  | some w => vI T 18 i = 2 ∧ rX T c n N w (vI T 19 i) (T.2.1 20 i) (vI T 21 i))
def rKs (T : gT) (c : Nat → Nat → Int) (n N : Nat) : List mFr → Prop
  | [] => True
  | p :: K => rFr T c n N K.length p ∧ rKs T c n N K
def rCu (T : gT) (c : Nat → Nat → Int) (n N : Nat) (K : List mFr) (v : eT) : Option (Nat × eT) → Prop
  | some p => vI T 0 36 = (K.length : Int) + 1 ∧ vI T 16 K.length = (p.1 : Int) ∧ rX T c n N p.2 0 0 (vI T 17 K.length) ∧ vI T 18 K.length = 0
  | none => vI T 0 36 = (K.length : Int) ∧ rX T c n N v (vI T 0 43) (T.2.1 0 44) (vI T 0 45)
/-- what a run may change -/
def Wr (k i : Nat) : Prop := (k = 0 ∧ (i = 16 ∨ i = 17 ∨ 36 ≤ i)) ∨ 16 ≤ k
def Vr (k i : Nat) : Prop := (k = 0 ∧ (i = 18 ∨ i = 44)) ∨ k = 12 ∨ k = 20 ∨ k = 24
/-- a state of a run, in the reference -/
def rCf (T0 T : gT) (c : Nat → Nat → Int) (n : Nat) (s : mCf) : Prop := ∃ N : Nat, fG Wr Vr T0 T ∧ vI T 0 42 = (N : Int) ∧ N ≤ 2 * s.2.2.2.1 ∧ rKs T c n N s.2.1 ∧ rCu T c n N s.2.1 s.2.2.1 s.1 ∧ vI T 0 17 = (s.2.2.2.2.1 : Int) ∧ (∀ l, l < 200 → T.2.1 12 l = s.2.2.2.2.2 l) ∧ vI T 0 46 = -1 ∧ vI T 0 16 = 1 ∧ T.2.1 0 18 = 0
