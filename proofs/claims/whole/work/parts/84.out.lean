/-! ONE EXPR CHANGED INSIDE A PROGRAM -/
theorem vcn_mono {c : Nat → Nat → Int} {a b : Nat} (h : a ≤ b) : vcn c a ≤ vcn c b := by
  induction b with
  | zero => rw [show a = 0 by omega]; exact Nat.le_refl _
  | succ b ih =>
    by_cases e : a = b + 1
    · rw [e]; exact Nat.le_refl _
    · have := ih (by omega)
      rw [vcn]; omega
theorem wf_fuel {c : Nat → Nat → Int} : ∀ (f g l e : Nat) (up : Int) (vs : List Nat) (v0 v1 f0 f1 : Nat), f ≤ g → wf c f l e up vs v0 v1 f0 f1 → wf c g l e up vs v0 v1 f0 f1 := by
  intro f
  induction f with
  | zero => intro g l e up vs v0 v1 f0 f1 _ h; exact h.elim
  | succ f ih =>
    intro g l e up vs v0 v1 f0 f1 hg h
    obtain ⟨g, rfl⟩ : ∃ g', g = g' + 1 := ⟨g - 1, by omega⟩
    have hg' : f ≤ g := by omega
    obtain ⟨h0, h⟩ := h
    refine ⟨h0, ?_⟩
    rcases h with h | h | h | h | h | h | h
    · exact Or.inl h
    · exact Or.inr (Or.inl h)
    · obtain ⟨a1, a2, a3, a4, a5, a6, a7⟩ := h
      exact Or.inr (Or.inr (Or.inl ⟨a1, a2, a3, a4, a5, a6, ih _ _ _ _ _ _ _ _ _ hg' a7⟩))
    · obtain ⟨a1, a2, a3, a4, a5, a6, a7⟩ := h
      exact Or.inr (Or.inr (Or.inr (Or.inl ⟨a1, a2, a3, a4, a5, a6, ih _ _ _ _ _ _ _ _ _ hg' a7⟩)))
    · obtain ⟨a1, a2, a3, a4, a5, m, v, k, a6, a7, a8⟩ := h
      exact Or.inr (Or.inr (Or.inr (Or.inr (Or.inl ⟨a1, a2, a3, a4, a5, m, v, k, a6, ih _ _ _ _ _ _ _ _ _ hg' a7, ih _ _ _ _ _ _ _ _ _ hg' a8⟩))))
    · obtain ⟨a1, a2, a3, a4, m, v, k, m2, v2, k2, a5, a6, a7, a8, a9⟩ := h
      exact Or.inr (Or.inr (Or.inr (Or.inr (Or.inr (Or.inl ⟨a1, a2, a3, a4, m, v, k, m2, v2, k2, a5, a6, ih _ _ _ _ _ _ _ _ _ hg' a7, ih _ _ _ _ _ _ _ _ _ hg' a8, ih _ _ _ _ _ _ _ _ _ hg' a9⟩)))))
    · obtain ⟨a1, a2, a3, a4, a5, m, v, k, a6, a7, a8⟩ := h
      exact Or.inr (Or.inr (Or.inr (Or.inr (Or.inr (Or.inr ⟨a1, a2, a3, a4, a5, m, v, k, a6, ih _ _ _ _ _ _ _ _ _ hg' a7, ih _ _ _ _ _ _ _ _ _ hg' a8⟩)))))
/-- labels: the expr at L, up to eL, becomes one up to E' -/
def laM (L eL E' : Nat) (x : Int) : Int := if x ≤ (L : Int) then x else x + E' - eL
def laN (L eL E' j : Nat) : Nat := if j ≤ L then j else j + E' - eL
/-- variables -/
def muM (vL vE V' v : Nat) : Nat := if v < vL then v else v + V' - vE
/-- what a label outside becomes -/
def mo1 (c c' : Nat → Nat → Int) (L eL E' vL vE V' : Nat) (j : Nat) : Prop :=
  c' (laN L eL E' j) 0 = c j 0 ∧ (c j 0 = 1 → c' (laN L eL E' j) 1 = c j 1) ∧ ((c j 0 = 0 ∨ c j 0 = 2 ∨ c j 0 = 3 ∨ c j 0 = 5) → c' (laN L eL E' j) 1 = (muM vL vE V' (c j 1).toNat : Int)) ∧ ((c j 0 = 4 ∨ 6 ≤ c j 0) → c' (laN L eL E' j) 1 = -1) ∧
  (c j 0 = 3 → c' (laN L eL E' j) 2 = (muM vL vE V' (c j 2).toNat : Int)) ∧ (c j 0 ≠ 3 → c' (laN L eL E' j) 2 = -1) ∧ ∀ w, 3 ≤ w → w ≤ 6 → c' (laN L eL E' j) w = laM L eL E' (c j w)
section OUT
variable {c c' : Nat → Nat → Int} {L eL E' V' F' G : Nat}
/-- a stretch before it stays -/
theorem out_bef {f m m2 : Nat} {up : Int} {vs : List Nat} {v0 v1 f0 f1 : Nat} (h : wf c f m m2 up vs v0 v1 f0 f1) (hm : m2 ≤ L) (hup : up ≤ (L : Int)) (hvs : ∀ x, x ∈ vs → x < v0) (hv1 : v1 ≤ vcn c L)
    (hc : ∀ j, m ≤ j → j < m2 → mo1 c c' L eL E' (vcn c L) (vcn c eL) V' j) : wf c' f m m2 up vs v0 v1 f0 f1 := by
  have hlt := wf_lt _ _ _ _ _ _ _ _ _ h
  have hl : ∀ j, j < m2 → laN L eL E' j = j := fun j hj => by unfold laN; rw [if_pos (by omega)]
  have fl := wf_flat _ _ _ _ _ _ _ _ _ h hvs
  have c6 : c m 6 = up := fl.2.2.2.1
  have vm : ∀ x : Int, 0 ≤ x → x < (vcn c L : Int) → (muM (vcn c L) (vcn c eL) V' x.toNat : Int) = x := fun x h0 hx => by unfold muM; rw [if_pos (by omega)]; omega
  have lm : ∀ x : Int, x ≤ L → laM L eL E' x = x := fun x hx => by unfold laM; rw [if_pos hx]
  have key := wf_mv (c := c) (c' := c') (A := 0) (B := 0) (Av := 0) (Bv := 0) (R := fun y => y) f m m2 up (c' m 6) vs vs v0 v1 f0 f1 f0 h (Nat.zero_le _) (Nat.zero_le _) (fun j j1 j2 => ?_) rfl (fun y hy _ => hy) (fun y _ _ => by omega)
  · have e6 : c' m 6 = up := by
      have := (hc m (Nat.le_refl _) hlt.1).2.2.2.2.2.2 6 (by omega) (by omega)
      rw [hl m hlt.1] at this
      rw [this, c6]
      exact lm _ hup
    simp only [Nat.add_zero, Nat.sub_zero] at key
    rw [show f0 + f1 - f0 = f1 by omega, e6] at key
    exact key
  · obtain ⟨q0, q1, q2, q3, q4, q5, q6⟩ := hc j j1 j2
    rw [hl j j2] at q0 q1 q2 q3 q4 q5 q6
    obtain ⟨⟨u0, u1, u2, u3, u4, u5, u6, u7, u8, u9⟩, up6⟩ := fl.2.2.2.2 j j1 j2
    refine ⟨⟨q0, q1, fun z => ?_, fun z => ?_, q3, fun z => ?_, q5, fun w w1 w2 => ?_⟩, fun z => ?_⟩
    · have := u1 (Or.inl z)
      dsimp only
      rw [show j + 0 - 0 = j from rfl, q2 (Or.inl z), vm _ this.1 (by omega)]; omega
    · have := u1 (Or.inr z)
      rw [show j + 0 - 0 = j from rfl, q2 (Or.inr z), vm _ this.1 (by omega)]; omega
    · have := u2 z
      rw [show j + 0 - 0 = j from rfl, q4 z, vm _ this.1 (by omega)]; omega
    · rw [show j + 0 - 0 = j from rfl, q6 w w1 (by omega)]
      have hb : c j w ≤ (L : Int) := by
        have : w = 3 ∨ w = 4 ∨ w = 5 := by omega
        rcases this with e | e | e
        · subst e
          by_cases z : 2 ≤ c j 0
          · have := u3 z; omega
          · have := u8 (by omega); omega
        · subst e
          by_cases z : 4 ≤ c j 0
          · have := u4 z; omega
          · have := u6 (by omega); omega
        · subst e
          by_cases z : c j 0 = 4
          · have := u5 z; omega
          · have := u7 z; omega
      rw [lm _ hb]
      split <;> omega
    · have := up6 (by omega)
      rw [show j + 0 - 0 = j from rfl, q6 6 (by omega) (by omega), lm _ (by omega)]; omega
/-- a stretch behind it goes with it -/
theorem out_aft {f m m2 : Nat} {up : Int} {vs : List Nat} {v0 v1 f0 f1 g0 : Nat} (h : wf c f m m2 up vs v0 v1 f0 f1) (hLe : L < eL) (hm : eL ≤ m) (hup : up ≤ (L : Int)) (hvs : ∀ x, x ∈ vs → x < vcn c L) (hv0 : vcn c eL ≤ v0) (hvL : vcn c L ≤ vcn c eL) (hn : m2 ≤ 200)
    (hc : ∀ j, m ≤ j → j < m2 → mo1 c c' L eL E' (vcn c L) (vcn c eL) V' j) : wf c' f (m + E' - eL) (m2 + E' - eL) up vs (v0 + V' - vcn c eL) (v1 + V' - vcn c eL) g0 (g0 + f1 - f0) := by
  have hlt := wf_lt _ _ _ _ _ _ _ _ _ h
  have hl : ∀ j, m ≤ j → laN L eL E' j = j + E' - eL := fun j hj => by unfold laN; rw [if_neg (by omega)]
  have fl := wf_flat _ _ _ _ _ _ _ _ _ h (fun x hx => by have := hvs x hx; omega)
  have c6 : c m 6 = up := fl.2.2.2.1
  have lm : ∀ x : Int, x ≤ L → laM L eL E' x = x := fun x hx => by unfold laM; rw [if_pos hx]
  have lp : ∀ x : Int, (eL : Int) ≤ x → laM L eL E' x = x + E' - eL := fun x hx => by unfold laM; rw [if_neg (by omega)]
  have vm : ∀ x : Int, (vcn c eL : Int) ≤ x → (muM (vcn c L) (vcn c eL) V' x.toNat : Int) = x + V' - vcn c eL := fun x hx => by unfold muM; rw [if_neg (by omega)]; omega
  refine wf_mv (c := c) (c' := c') (A := eL) (B := E') (Av := vcn c eL) (Bv := V') (R := muM (vcn c L) (vcn c eL) V') f m m2 up up vs vs v0 v1 f0 f1 g0 h hm hv0 (fun j j1 j2 => ?_) ?_ (fun y hy _ => ?_) (fun y y1 y2 => ?_)
  · obtain ⟨q0, q1, q2, q3, q4, q5, q6⟩ := hc j j1 j2
    rw [hl j j1] at q0 q1 q2 q3 q4 q5 q6
    obtain ⟨⟨u0, u1, u2, u3, u4, u5, u6, u7, u8, u9⟩, up6⟩ := fl.2.2.2.2 j j1 j2
    obtain ⟨f', e', up', vs', v0', v1', f0', f1', a1, a2, a3, a4, _⟩ := wf_tr _ _ _ _ _ _ _ _ _ hn h j j1 j2
    obtain ⟨x1, x2, x3, _⟩ := wf_hd a2
    refine ⟨⟨q0, q1, fun z => q2 (Or.inl z), fun z => ?_, q3, fun z => ?_, q5, fun w w1 w2 => ?_⟩, fun z => ?_⟩
    · rw [q2 (Or.inr z), vm]
      rcases z with z | z | z
      · have := x1 z; omega
      · have := x2 z; omega
      · have := x3 z; omega
    · rw [q4 z, vm]
      have := x2 z; omega
    · rw [q6 w w1 (by omega)]
      have hb : c j w = -1 ∨ (eL : Int) ≤ c j w := by
        have : w = 3 ∨ w = 4 ∨ w = 5 := by omega
        rcases this with e | e | e
        · subst e
          by_cases z : 2 ≤ c j 0
          · have := u3 z; omega
          · have := u8 (by omega); omega
        · subst e
          by_cases z : 4 ≤ c j 0
          · have := u4 z; omega
          · have := u6 (by omega); omega
        · subst e
          by_cases z : c j 0 = 4
          · have := u4 (by omega); have := u5 z; omega
          · have := u7 z; omega
      rcases hb with z | z
      · rw [if_pos z, z, lm _ (by omega)]
      · rw [if_neg (by omega), lp _ z]
    · have := up6 (by omega)
      rw [q6 6 (by omega) (by omega), lp _ (by omega)]
  · have := (hc m (Nat.le_refl _) hlt.1).2.2.2.2.2.2 6 (by omega) (by omega)
    rw [hl m (Nat.le_refl _)] at this
    rw [this, c6]; exact lm _ hup
  · unfold muM; rw [if_pos (hvs y hy)]; exact hy
  · unfold muM; rw [if_neg (by omega)]
def posL (L eL E' x : Nat) : Nat := if x ≤ L then x else x + E' - eL
def posV (c : Nat → Nat → Int) (L eL V' x : Nat) : Nat := if x ≤ L then vcn c x else vcn c x + V' - vcn c eL
def posF (c : Nat → Nat → Int) (L eL F' x : Nat) : Nat := if x ≤ L then fcn c x else fcn c x + F' - fcn c eL
/-- a part of an expr that has L in it -/
theorem out_part {f m m2 l : Nat} {us : List Nat} (hLe : L < eL) (h : wf c f m m2 (l : Int) us (vcn c m) (vcn c m2) (fcn c m) (fcn c m2)) (hl : l < L) (hm2 : m2 ≤ 200) (b1 : m ≤ L ∨ eL ≤ m) (b2 : m2 ≤ L ∨ eL ≤ m2) (hus : ∀ x, x ∈ us → x < vcn c m ∧ x < vcn c L)
    (hc : ∀ j, m ≤ j → j < m2 → (j < L ∨ eL ≤ j) → mo1 c c' L eL E' (vcn c L) (vcn c eL) V' j)
    (ih : m ≤ L → L < m2 → wf c' (f + G) m (m2 + E' - eL) (l : Int) us (vcn c m) (vcn c m2 + V' - vcn c eL) (fcn c m) (fcn c m2 + F' - fcn c eL)) :
    wf c' (f + G) (posL L eL E' m) (posL L eL E' m2) (l : Int) us (posV c L eL V' m) (posV c L eL V' m2) (posF c L eL F' m) (posF c L eL F' m2) := by
  have a1 := wf_lt _ _ _ _ _ _ _ _ _ h
  have hmv : vcn c L ≤ vcn c eL := vcn_mono (by omega)
  unfold posL posV posF
  by_cases z : m ≤ L
  · by_cases z2 : m2 ≤ L
    · have d2 := vcn_mono (c := c) z2
      rw [if_pos z, if_pos z2, if_pos z, if_pos z2, if_pos z, if_pos z2]
      exact wf_fuel _ _ _ _ _ _ _ _ _ _ (Nat.le_add_right _ _) (out_bef (c := c) (c' := c') (L := L) (eL := eL) (E' := E') (V' := V') h z2 (by omega) (fun x hx => (hus x hx).1) d2 (fun j j1 j2 => hc j j1 j2 (by omega)))
    · rw [if_pos z, if_neg z2, if_pos z, if_neg z2, if_pos z, if_neg z2]
      exact ih z (by omega)
  · have c2 := vcn_mono (c := c) (show eL ≤ m by omega)
    have c3 := fcn_mono (c := c) (show eL ≤ m by omega)
    have c4 := fcn_mono (c := c) (show m ≤ m2 by omega)
    rw [if_neg z, if_neg (by omega), if_neg z, if_neg (by omega), if_neg z, if_neg (by omega)]
    have := out_aft (c := c) (c' := c') (L := L) (eL := eL) (E' := E') (V' := V') (g0 := fcn c m + F' - fcn c eL) h hLe (by omega) (by omega) (fun x hx => (hus x hx).2) c2 hmv hm2 (fun j j1 j2 => hc j j1 j2 (by omega))
    rw [show fcn c m + F' - fcn c eL + fcn c m2 - fcn c m = fcn c m2 + F' - fcn c eL by clear hc hus ih this h; omega] at this
    exact wf_fuel _ _ _ _ _ _ _ _ _ _ (Nat.le_add_right _ _) this
/-- the whole, the expr at L changed -/
theorem wf_out (hLe : L < eL) (hn : eL ≤ 200) : ∀ (f l e : Nat) (up : Int) (vs : List Nat), wf c f l e up vs (vcn c l) (vcn c e) (fcn c l) (fcn c e) → (∀ x, x ∈ vs → x < vcn c l) → up < (l : Int) → e ≤ 200 → l ≤ L → L < e →
    (∀ f9 vs9, wf c f9 L eL (c L 6) vs9 (vcn c L) (vcn c eL) (fcn c L) (fcn c eL) → (∀ x, x ∈ vs9 → x < vcn c L) → wf c' (f9 + G) L E' (c L 6) vs9 (vcn c L) V' (fcn c L) F') → en c L = eL →
    (∀ j, l ≤ j → j < e → (j < L ∨ eL ≤ j) → mo1 c c' L eL E' (vcn c L) (vcn c eL) V' j) → wf c' (f + G) l (e + E' - eL) up vs (vcn c l) (vcn c e + V' - vcn c eL) (fcn c l) (fcn c e + F' - fcn c eL) := by
  intro f
  induction f with
  | zero => intro l e up vs h; exact h.elim
  | succ f ih =>
    intro l e up vs h hvs hup he hlL hLe2 hseg hen hc
    have hlt := wf_lt _ _ _ _ _ _ _ _ _ h
    have hen2 : en c l = e := wf_en _ _ _ _ _ _ _ _ _ h 200 (by omega)
    by_cases q : l = L
    · subst q
      obtain rfl : e = eL := by omega
      have h6 : c l 6 = up := h.1
      have := hseg (f + 1) vs (by rw [h6]; exact h) hvs
      rw [h6] at this
      rw [show e + E' - e = E' by omega, show vcn c e + V' - vcn c e = V' by omega, show fcn c e + F' - fcn c e = F' by omega]
      exact this
    have hl1 : l + 1 ≤ L := by omega
    have hlL' : l < L := by omega
    have hll : (l : Int) ≤ (L : Int) := by omega
    -- a part with L in it ends behind eL
    have inn : ∀ (m m2 : Nat) (us : List Nat) (w0 w1 x0 x1 : Nat), wf c f m m2 (l : Int) us w0 w1 x0 x1 → m ≤ L → L < m2 → m2 ≤ 200 → eL ≤ m2 := by
      intro m m2 us w0 w1 x0 x1 hw h1 h2 h3
      obtain ⟨f', e', up', vs', v0', v1', f0', f1', a1, a2, a3, a4, _⟩ := wf_tr _ _ _ _ _ _ _ _ _ h3 hw L h1 h2
      have : en c L = e' := wf_en _ _ _ _ _ _ _ _ _ a2 200 (by omega)
      omega
    have vL1 : vcn c (l + 1) ≤ vcn c L := vcn_mono hl1
    have eE : eL ≤ e := by
      obtain ⟨f', e', up', vs', v0', v1', f0', f1', a1, a2, a3, a4, _⟩ := wf_tr _ _ _ _ _ _ _ _ _ he h L hlL hLe2
      have : en c L = e' := wf_en _ _ _ _ _ _ _ _ _ a2 200 (by omega)
      omega
    obtain ⟨q0, q1, q2, q3, q4, q5, q6⟩ := hc l (Nat.le_refl _) hlt.1 (Or.inl hlL')
    have hla : laN L eL E' l = l := by unfold laN; rw [if_pos hlL]
    rw [hla] at q0 q1 q2 q3 q4 q5 q6
    have lm : ∀ x : Int, x ≤ L → laM L eL E' x = x := fun x hx => by unfold laM; rw [if_pos hx]
    have lb : ∀ x : Nat, laM L eL E' (x : Int) = (posL L eL E' x : Int) ∨ (L < x ∧ x < eL) := fun x => by
      unfold laM posL
      by_cases z : x ≤ L
      · left; rw [if_pos (by omega), if_pos z]
      · by_cases z2 : eL ≤ x
        · left; rw [if_neg (by omega), if_neg z]; omega
        · right; omega
    have vm : ∀ x : Nat, x < vcn c L → muM (vcn c L) (vcn c eL) V' x = x := fun x hx => by unfold muM; rw [if_pos hx]
    have p1 : posL L eL E' (l + 1) = l + 1 ∧ posV c L eL V' (l + 1) = vcn c (l + 1) ∧ posF c L eL F' (l + 1) = fcn c (l + 1) := by unfold posL posV posF; rw [if_pos hl1, if_pos hl1, if_pos hl1]; exact ⟨rfl, rfl, rfl⟩
    have pe : posL L eL E' e = e + E' - eL ∧ posV c L eL V' e = vcn c e + V' - vcn c eL ∧ posF c L eL F' e = fcn c e + F' - fcn c eL := by unfold posL posV posF; rw [if_neg (by omega), if_neg (by omega), if_neg (by omega)]; exact ⟨rfl, rfl, rfl⟩
    obtain ⟨hc6, h⟩ := h
    have e6 : c' l 6 = up := by rw [q6 6 (by decide) (by decide), hc6]; exact lm _ (by omega)
    have w3 := q6 3 (by decide) (by decide)
    have w4 := q6 4 (by decide) (by decide)
    have w5 := q6 5 (by decide) (by decide)
    have hv' : vcn c (l + 1) = vcn c l + (if c l 0 = 3 then 2 else if c l 0 = 2 ∨ c l 0 = 5 then 1 else 0) := rfl
    have hf' : fcn c (l + 1) = fcn c l + (if c l 0 = 2 ∨ c l 0 = 3 then 1 else 0) := rfl
    have part : ∀ (m m2 : Nat) (us : List Nat), wf c f m m2 (l : Int) us (vcn c m) (vcn c m2) (fcn c m) (fcn c m2) → l < m → m2 ≤ e → (m ≤ L ∨ eL ≤ m) → (m2 ≤ L ∨ eL ≤ m2) → (∀ x, x ∈ us → x < vcn c m ∧ x < vcn c L) → wf c' (f + G) (posL L eL E' m) (posL L eL E' m2) (l : Int) us (posV c L eL V' m) (posV c L eL V' m2) (posF c L eL F' m) (posF c L eL F' m2) := by
      intro m m2 us hw h1 h2 b1 b2 hus
      exact out_part hLe hw hlL' (by omega) b1 b2 hus (fun j j1 j2 => hc j (by omega) (by omega)) (fun z z2 => ih m m2 _ us hw (fun x hx => (hus x hx).1) (by omega) (by omega) z z2 hseg hen (fun j j1 j2 => hc j (by omega) (by omega)))
    rw [show f + 1 + G = f + G + 1 by omega]
    refine ⟨e6, ?_⟩
    clear hc ih hseg e6 hup hc6
    have m1 : (-1 : Int) ≤ (L : Int) := by omega
    have u1 : ∀ x, x ∈ vs → x < vcn c (l + 1) ∧ x < vcn c L := fun x hx => by have := hvs x hx; omega
    rcases h with h | h | h | h | h | h | h
    · obtain ⟨k, _, _, _, _, _, h1, _⟩ := h; omega
    · obtain ⟨k, _, _, _, _, _, h1, _⟩ := h; omega
    · obtain ⟨k, k1, k2, k3, k4, k5, h1⟩ := h
      rw [if_neg (by omega), if_pos (Or.inl k)] at hv'; rw [if_pos (Or.inl k)] at hf'
      have hp := part (l + 1) e _ (by rw [hv', hf']; exact h1) (by omega) (Nat.le_refl _) (Or.inl hl1) (Or.inr eE) (fun x hx => by
        rcases List.mem_cons.mp hx with z | z
        · omega
        · exact u1 x z)
      rw [p1.1, p1.2.1, p1.2.2, pe.1, pe.2.1, pe.2.2, hv', hf'] at hp
      refine Or.inr (Or.inr (Or.inl ⟨by rw [q0]; exact k, ?_, q5 (by omega), by rw [w3, k3, lm _ (by omega)], by rw [w4, k4, lm _ m1], by rw [w5, k5, lm _ m1], hp⟩))
      rw [q2 (by omega), k1, Int.toNat_natCast, vm _ (by omega)]
    · obtain ⟨k, k1, k2, k3, k4, k5, h1⟩ := h
      rw [if_pos k] at hv'; rw [if_pos (Or.inr k)] at hf'
      have hp := part (l + 1) e _ (by rw [hv', hf']; exact h1) (by omega) (Nat.le_refl _) (Or.inl hl1) (Or.inr eE) (fun x hx => by
        rcases List.mem_cons.mp hx with z | z
        · omega
        · rcases List.mem_cons.mp z with z | z
          · omega
          · exact u1 x z)
      rw [p1.1, p1.2.1, p1.2.2, pe.1, pe.2.1, pe.2.2, hv', hf'] at hp
      refine Or.inr (Or.inr (Or.inr (Or.inl ⟨by rw [q0]; exact k, ?_, ?_, by rw [w3, k3, lm _ (by omega)], by rw [w4, k4, lm _ m1], by rw [w5, k5, lm _ m1], hp⟩)))
      · rw [q2 (by omega), k1, Int.toNat_natCast, vm _ (by omega)]
      · rw [q4 k, k2, Int.toNat_natCast, vm _ (by omega)]
    · obtain ⟨k, k1, k2, k3, k5, m, v, g, k4, h1, h2⟩ := h
      rw [if_neg (by omega), if_pos (Or.inr k)] at hv'; rw [if_neg (by omega)] at hf'
      have a1 := wf_lt _ _ _ _ _ _ _ _ _ h1
      have a2 := wf_lt _ _ _ _ _ _ _ _ _ h2
      have b1 := wf_cnt _ _ _ _ _ _ _ _ _ h1
      obtain rfl : v = vcn c m := by omega
      obtain rfl : g = fcn c m := by omega
      have bm : m ≤ L ∨ eL ≤ m := by
        by_cases z : L < m
        · exact Or.inr (inn _ _ _ _ _ _ _ h1 hl1 z (by omega))
        · omega
      have hp := part (l + 1) m _ (by rw [hv', hf']; exact h1) (by omega) (by omega) (Or.inl hl1) bm u1
      have hp2 := part m e _ h2 (by omega) (Nat.le_refl _) bm (Or.inr eE) (fun x hx => by
        have := vcn_mono (c := c) (show l + 1 ≤ m by omega)
        rcases List.mem_cons.mp hx with z | z
        · omega
        · have := u1 x z; omega)
      rw [p1.1, p1.2.1, p1.2.2, hv', hf'] at hp
      rw [pe.1, pe.2.1, pe.2.2] at hp2
      refine Or.inr (Or.inr (Or.inr (Or.inr (Or.inl ⟨by rw [q0]; exact k, ?_, q5 (by omega), by rw [w3, k3, lm _ (by omega)], by rw [w5, k5, lm _ m1], _, _, _, ?_, hp, hp2⟩))))
      · rw [q2 (by omega), k1, Int.toNat_natCast, vm _ (by omega)]
      · rw [w4, k4]
        rcases lb m with z | z
        · exact z
        · omega
    · obtain ⟨k, k1, k2, k3, m, v, g, m2, v2, g2, k4, k5, h1, h2, h3⟩ := h
      rw [if_neg (by omega), if_neg (by omega)] at hv'; rw [if_neg (by omega)] at hf'
      have a1 := wf_lt _ _ _ _ _ _ _ _ _ h1
      have a2 := wf_lt _ _ _ _ _ _ _ _ _ h2
      have a3 := wf_lt _ _ _ _ _ _ _ _ _ h3
      have b1 := wf_cnt _ _ _ _ _ _ _ _ _ h1
      have b1' := wf_cnt _ _ _ _ _ _ _ _ _ h2
      obtain rfl : v = vcn c m := by omega
      obtain rfl : g = fcn c m := by omega
      obtain rfl : v2 = vcn c m2 := by omega
      obtain rfl : g2 = fcn c m2 := by omega
      have bm : m ≤ L ∨ eL ≤ m := by
        by_cases z : L < m
        · exact Or.inr (inn _ _ _ _ _ _ _ h1 hl1 z (by omega))
        · omega
      have bm2 : m2 ≤ L ∨ eL ≤ m2 := by
        by_cases z : L < m2
        · by_cases z2 : L < m
          · have := inn _ _ _ _ _ _ _ h1 hl1 z2 (by omega); omega
          · exact Or.inr (inn _ _ _ _ _ _ _ h2 (by omega) z (by omega))
        · omega
      have x1 := vcn_mono (c := c) (show l + 1 ≤ m by omega)
      have x2 := vcn_mono (c := c) (show m ≤ m2 by omega)
      have hp := part (l + 1) m _ (by rw [hv', hf']; exact h1) (by omega) (by omega) (Or.inl hl1) bm u1
      have hp2 := part m m2 _ h2 (by omega) (by omega) bm bm2 (fun x hx => by have := u1 x hx; omega)
      have hp3 := part m2 e _ h3 (by omega) (Nat.le_refl _) bm2 (Or.inr eE) (fun x hx => by have := u1 x hx; omega)
      rw [p1.1, p1.2.1, p1.2.2, hv', hf'] at hp
      rw [pe.1, pe.2.1, pe.2.2] at hp3
      refine Or.inr (Or.inr (Or.inr (Or.inr (Or.inr (Or.inl ⟨by rw [q0]; exact k, q3 (Or.inl k), q5 (by omega), by rw [w3, k3, lm _ (by omega)], _, _, _, _, _, _, ?_, ?_, hp, hp2, hp3⟩)))))
      · rw [w4, k4]
        rcases lb m with z | z
        · exact z
        · omega
      · rw [w5, k5]
        rcases lb m2 with z | z
        · exact z
        · omega
    · obtain ⟨k, k1, k2, k3, k5, m, v, g, k4, h1, h2⟩ := h
      rw [if_neg (by omega), if_neg (by omega)] at hv'; rw [if_neg (by omega)] at hf'
      have a1 := wf_lt _ _ _ _ _ _ _ _ _ h1
      have a2 := wf_lt _ _ _ _ _ _ _ _ _ h2
      have b1 := wf_cnt _ _ _ _ _ _ _ _ _ h1
      obtain rfl : v = vcn c m := by omega
      obtain rfl : g = fcn c m := by omega
      have bm : m ≤ L ∨ eL ≤ m := by
        by_cases z : L < m
        · exact Or.inr (inn _ _ _ _ _ _ _ h1 hl1 z (by omega))
        · omega
      have x1 := vcn_mono (c := c) (show l + 1 ≤ m by omega)
      have hp := part (l + 1) m _ (by rw [hv', hf']; exact h1) (by omega) (by omega) (Or.inl hl1) bm u1
      have hp2 := part m e _ h2 (by omega) (Nat.le_refl _) bm (Or.inr eE) (fun x hx => by have := u1 x hx; omega)
      rw [p1.1, p1.2.1, p1.2.2, hv', hf'] at hp
      rw [pe.1, pe.2.1, pe.2.2] at hp2
      refine Or.inr (Or.inr (Or.inr (Or.inr (Or.inr (Or.inr ⟨by rw [q0]; exact k, q3 (Or.inr k.1), q5 (by omega), by rw [w3, k3, lm _ (by omega)], by rw [w5, k5, lm _ m1], _, _, _, ?_, hp, hp2⟩)))))
      rw [w4, k4]
      rcases lb m with z | z
      · exact z
      · omega
end OUT
