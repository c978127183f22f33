section C7
variable {sa : Nat → Nat} {b : Nat} {E : Nat × mH} {d : Nat} {T0 T T' : gT} {a p : Nat} {c C : Nat → Nat → Int} {n nv nf : Nat} {L eL E' V' F' G : Nat}
abbrev Rm (c : Nat → Nat → Int) (L eL V' : Nat) : Nat → Nat := muM (vcn c L) (vcn c eL) V'
/-- a part of an expr that has L in it -/
theorem cp_part (hp : rPa T0 a c n nv nf) (hpa : p + a = 1) {f m m2 l : Nat} {us : List Nat} (hLe : L < eL) (h : wf c f m m2 (l : Int) us (vcn c m) (vcn c m2) (fcn c m) (fcn c m2)) (hl : l < L) (hLn : L < n) (hm2 : m2 ≤ n) (b1 : m ≤ L ∨ eL ≤ m) (b2 : m2 ≤ L ∨ eL ≤ m2) (hus : ∀ x, x ∈ us → x < vcn c m ∧ x < vcn c L)
    (hC : ∀ j w, m ≤ j → j < m2 → (j < L ∨ eL ≤ j) → w < 7 → C (laN L eL E' j) w = moC c L eL E' (vcn c L) (vcn c eL) V' j w)
    (ih : m ≤ L → L < m2 → cpX sa b E (d + 2 * f + 4 + G) T0 p C (Rm c L eL V') (L : Int) m us (fun _ => True) m (vcn c m) (fcn c m) (m2 + E' - eL) (vcn c m2 + V' - vcn c eL) (fcn c m2 + F' - fcn c eL)) :
    cpX sa b E (d + 2 * f + 4 + G) T0 p C (Rm c L eL V') (L : Int) m us (fun _ => True) (posL L eL E' m) (posV c L eL V' m) (posF c L eL F' m) (posL L eL E' m2) (posV c L eL V' m2) (posF c L eL F' m2) := by
  have hn := hp.1.1
  have a1 := wf_lt _ _ _ _ _ _ _ _ _ h
  have hmv : vcn c L ≤ vcn c eL := vcn_mono (by omega)
  unfold posL posV posF
  by_cases z : m ≤ L
  · by_cases z2 : m2 ≤ L
    · have d2 := vcn_mono (c := c) z2
      have mm := fcn_mono (c := c) (show m ≤ m2 by omega)
      rw [if_pos z, if_pos z2, if_pos z, if_pos z2, if_pos z, if_pos z2]
      have g := cp_plain (sa := sa) (b := b) (E := E) (d := d) (A := 0) (B := 0) (Av := 0) (Bv := 0) (R := Rm c L eL V') hp hpa f m m2 _ us _ _ _ _ (L : Int) h (fun x hx => (hus x hx).1) hm2 (Nat.zero_le _) (Nat.zero_le _) (by unfold okI; omega) (by omega) (fun y y1 y2 => by show muM _ _ _ y = _; unfold muM; rw [if_pos (by omega)]; omega)
      have hla : ∀ j, j < m2 → laN L eL E' j = j := fun j hj => by unfold laN; rw [if_pos (by omega)]
      have c6 : C m 6 = (l : Int) := by
        have := hC m 6 (Nat.le_refl _) a1.1 (by omega) (by decide)
        rw [hla m a1.1, moC_w (by decide), wf_c6 h, laM_lo (by omega)] at this
        exact this
      refine (g.toX (q := fcn c m) (Nat.zero_le _) (show m + 0 - 0 = m from rfl) (show vcn c m + 0 - 0 = vcn c m from rfl) (show m2 + 0 - 0 = m2 from rfl) (show vcn c m2 + 0 - 0 = vcn c m2 from rfl) (by omega) (fun j w j1 j2 hw => ?_) (by rw [c6]; omega)).mono (by omega)
      have := hC j w j1 j2 (by omega) hw
      rw [hla j j2] at this
      rw [show j + 0 - 0 = j from rfl, this, c6]
      exact mo_bef h z2 (fun x hx => (hus x hx).1) d2 (by omega) j1 j2 hw
    · rw [if_pos z, if_neg z2, if_pos z, if_neg z2, if_pos z, if_neg z2]
      exact ih z (by omega)
  · have c2 := vcn_mono (c := c) (show eL ≤ m by omega)
    have c3 := fcn_mono (c := c) (show eL ≤ m by omega)
    have c4 := fcn_mono (c := c) (show m ≤ m2 by omega)
    have c5 := vcn_mono (c := c) (show m ≤ m2 by omega)
    have z2 : ¬ m2 ≤ L := by omega
    rw [if_neg z, if_neg z2, if_neg z, if_neg z2, if_neg z, if_neg z2]
    have g := cp_plain (sa := sa) (b := b) (E := E) (d := d) (A := eL) (B := E') (Av := vcn c eL) (Bv := V') (R := Rm c L eL V') hp hpa f m m2 _ us _ _ _ _ (L : Int) h (fun x hx => (hus x hx).1) hm2 (by omega) c2 (by unfold okI; omega) (by omega) (fun y y1 y2 => by show muM _ _ _ y = _; unfold muM; rw [if_neg (by omega)])
    have hla : ∀ j, m ≤ j → laN L eL E' j = j + E' - eL := fun j hj => by unfold laN; rw [if_neg (by omega)]
    have c6 : C (m + E' - eL) 6 = (l : Int) := by
      have := hC m 6 (Nat.le_refl _) a1.1 (by omega) (by decide)
      rw [hla m (Nat.le_refl _), moC_w (by decide), wf_c6 h, laM_lo (by omega)] at this
      exact this
    refine (g.toX (q := fcn c m + F' - fcn c eL) (by omega) rfl rfl rfl rfl (by clear hC hus ih g h; omega) (fun j w j1 j2 hw => ?_) (by rw [c6]; omega)).mono (by omega)
    have := hC j w j1 j2 (by omega) hw
    rw [hla j j1] at this
    rw [this, c6]
    exact mo_aft h hLe (by omega) (fun x hx => (hus x hx).2) c2 hmv (by omega) (by omega) j1 j2 hw
/-- the node's own cells, as C has them -/
theorem node7 {t : Nat → Int} {l : Nat} (hlL : l < L) (hC : ∀ w, w < 7 → C (laN L eL E' l) w = moC c L eL E' (vcn c L) (vcn c eL) V' l w) (h0 : t 0 = c l 0) (h1 : t 1 = moC c L eL E' (vcn c L) (vcn c eL) V' l 1) (h2 : t 2 = moC c L eL E' (vcn c L) (vcn c eL) V' l 2) (h3 : ∀ w, 3 ≤ w → w ≤ 6 → t w = laM L eL E' (c l w)) : ∀ w, w < 7 → t w = C l w := by
  intro w hw
  have hla : laN L eL E' l = l := by unfold laN; rw [if_pos (by omega)]
  have := hC w hw
  rw [hla] at this
  rw [this]
  by_cases z : 3 ≤ w
  · rw [moC_w z]; exact h3 w z (by omega)
  · have : w = 0 ∨ w = 1 ∨ w = 2 := by omega
    rcases this with e | e | e <;> subst e
    · exact h0
    · exact h1
    · exact h2
theorem cp_path (hp : rPa T0 a c n nv nf) (hpa : p + a = 1) (hLe : L < eL) (hLn : L < n) (hen0 : en c L = eL) (hVL : vcn c L ≤ V') (hFL : fcn c L ≤ F') (hEL : L < E') (hseg : ∀ us f9, wf c f9 L eL (c L 6) us (vcn c L) (vcn c eL) (fcn c L) (fcn c eL) → (∀ x, x ∈ us → x < vcn c L) → cpX sa b E (d + 4 + G) T0 p C (Rm c L eL V') (L : Int) L us (fun _ => True) L (vcn c L) (fcn c L) E' V' F') (hCL : C L 6 = c L 6) :
    ∀ (f l e : Nat) (up : Int) (us : List Nat), wf c f l e up us (vcn c l) (vcn c e) (fcn c l) (fcn c e) → (∀ x, x ∈ us → x < vcn c l) → up < (l : Int) → -1 ≤ up → e ≤ n → l ≤ L → L < e →
    (∀ j w, l ≤ j → j < e → (j < L ∨ eL ≤ j) → w < 7 → C (laN L eL E' j) w = moC c L eL E' (vcn c L) (vcn c eL) V' j w) →
    cpX sa b E (d + 2 * f + 4 + G) T0 p C (Rm c L eL V') (L : Int) l us (fun _ => True) l (vcn c l) (fcn c l) (e + E' - eL) (vcn c e + V' - vcn c eL) (fcn c e + F' - fcn c eL) := by
  have hn := hp.1.1
  have hnv := hp.1.2.1
  have hp2 : p < 2 := by omega
  have hmv : vcn c L ≤ vcn c eL := vcn_mono (by omega)
  have hmf : fcn c L ≤ fcn c eL := fcn_mono (by omega)
  intro f
  induction f with
  | zero => intro l e up us h; exact h.elim
  | succ f ih =>
    intro l e up us h hus hup hup1 hen hlL hLe2 hC
    have hlt := wf_lt _ _ _ _ _ _ _ _ _ h
    have hen2 : en c l = e := wf_en _ _ _ _ _ _ _ _ _ h 200 (by omega)
    by_cases q : l = L
    · subst q
      obtain rfl : e = eL := by omega
      rw [show e + E' - e = E' by omega, show vcn c e + V' - vcn c e = V' by omega, show fcn c e + F' - fcn c e = F' by omega]
      exact (hseg us (f + 1) (by have h6 : c l 6 = up := h.1; rw [h6]; exact h) hus).mono (by omega)
    have hl1 : l + 1 ≤ L := by omega
    have hlL' : l < L := by omega
    have hl : l < n := by omega
    have eE : eL ≤ e := by
      obtain ⟨f', e', up', vs', v0', v1', f0', f1', a1, a2, a3, a4, _⟩ := wf_tr _ _ _ _ _ _ _ _ _ (by omega) h L hlL hLe2
      have : en c L = e' := wf_en _ _ _ _ _ _ _ _ _ a2 200 (by omega)
      omega
    have inn : ∀ (m m2 : Nat) (us : List Nat) (w0 w1 x0 x1 : Nat), wf c f m m2 (l : Int) us w0 w1 x0 x1 → m ≤ L → L < m2 → m2 ≤ 200 → eL ≤ m2 := by
      intro m m2 us w0 w1 x0 x1 hw h1 h2 h3
      obtain ⟨f', e', up', vs', v0', v1', f0', f1', a1, a2, a3, a4, _⟩ := wf_tr _ _ _ _ _ _ _ _ _ h3 hw L h1 h2
      have : en c L = e' := wf_en _ _ _ _ _ _ _ _ _ a2 200 (by omega)
      omega
    have vL1 : vcn c (l + 1) ≤ vcn c L := vcn_mono hl1
    have fL1 : fcn c (l + 1) ≤ fcn c L := fcn_mono hl1
    have vEe : vcn c eL ≤ vcn c e := vcn_mono eE
    have fEe : fcn c eL ≤ fcn c e := fcn_mono eE
    have wfl := (hp.1.flat.2.2.2 l hl).1
    have hv' : vcn c (l + 1) = vcn c l + (if c l 0 = 3 then 2 else if c l 0 = 2 ∨ c l 0 = 5 then 1 else 0) := rfl
    have hf' : fcn c (l + 1) = fcn c l + fn1 c l := rfl
    have c6l : c l 6 = up := h.1
    have hla : laN L eL E' l = l := by unfold laN; rw [if_pos hlL]
    have hCl : ∀ w, w < 7 → C (laN L eL E' l) w = moC c L eL E' (vcn c L) (vcn c eL) V' l w := fun w hw => hC l w (Nat.le_refl _) hlt.1 (Or.inl hlL') hw
    have hCl6 : C l 6 = up := by have := hCl 6 (by decide); rw [hla, moC_w (by decide), c6l, laM_lo (by omega)] at this; exact this
    have part : ∀ (m m2 : Nat) (vs : List Nat), wf c f m m2 (l : Int) vs (vcn c m) (vcn c m2) (fcn c m) (fcn c m2) → l < m → m2 ≤ e → (m ≤ L ∨ eL ≤ m) → (m2 ≤ L ∨ eL ≤ m2) → (∀ x, x ∈ vs → x < vcn c m ∧ x < vcn c L) → cpX sa b E (d + 2 * f + 4 + G) T0 p C (Rm c L eL V') (L : Int) m vs (fun _ => True) (posL L eL E' m) (posV c L eL V' m) (posF c L eL F' m) (posL L eL E' m2) (posV c L eL V' m2) (posF c L eL F' m2) := by
      intro m m2 vs hw h1 h2 b1 b2 hvs
      exact cp_part hp hpa hLe hw hlL' hLn (by omega) b1 b2 hvs (fun j w j1 j2 => hC j w (by omega) (by omega)) (fun z z2 => ih m m2 _ vs hw (fun x hx => (hvs x hx).1) (by omega) (by omega) (by omega) z z2 (fun j w j1 j2 => hC j w (by omega) (by omega)))
    have p6 : ∀ (m m2 : Nat) (vs : List Nat) (w0 w1 x0 x1 : Nat), wf c f m m2 (l : Int) vs w0 w1 x0 x1 → l < m → m2 ≤ e → (m ≤ L ∨ eL ≤ m) → C (posL L eL E' m) 6 = (l : Int) := by
      intro m m2 vs w0 w1 x0 x1 hw h1 h2 b1
      have a1 := wf_lt _ _ _ _ _ _ _ _ _ hw
      have c6 := wf_c6 hw
      by_cases z : m = L
      · unfold posL; rw [if_pos (by omega), z, hCL, ← z]; exact c6
      · have := hC m 6 (by omega) (by omega) (by omega) (by decide)
        rw [moC_w (by decide), c6, laM_lo (by omega)] at this
        unfold posL; unfold laN at this; exact this
    have p1 : posL L eL E' (l + 1) = l + 1 ∧ posV c L eL V' (l + 1) = vcn c (l + 1) ∧ posF c L eL F' (l + 1) = fcn c (l + 1) := by unfold posL posV posF; rw [if_pos hl1, if_pos hl1, if_pos hl1]; exact ⟨rfl, rfl, rfl⟩
    have pe : posL L eL E' e = e + E' - eL ∧ posV c L eL V' e = vcn c e + V' - vcn c eL ∧ posF c L eL F' e = fcn c e + F' - fcn c eL := by unfold posL posV posF; rw [if_neg (by omega), if_neg (by omega), if_neg (by omega)]; exact ⟨rfl, rfl, rfl⟩
    have lb : ∀ x : Nat, (x ≤ L ∨ eL ≤ x) → laM L eL E' (x : Int) = (posL L eL E' x : Int) := fun x hx => by
      unfold laM posL
      by_cases z : x ≤ L
      · rw [if_pos (by omega), if_pos z]
      · rw [if_neg (by omega), if_neg z]; omega
    have pm : ∀ x y, x ≤ y → (x ≤ L ∨ eL ≤ x) → (y ≤ L ∨ eL ≤ y) → posL L eL E' x ≤ posL L eL E' y ∧ posV c L eL V' x ≤ posV c L eL V' y ∧ posF c L eL F' x ≤ posF c L eL F' y := by
      intro x y hxy hx hy
      have m1 := vcn_mono (c := c) hxy
      have m2 := fcn_mono (c := c) hxy
      unfold posL posV posF
      by_cases zx : x ≤ L
      · have n1 := vcn_mono (c := c) zx
        have n2 := fcn_mono (c := c) zx
        by_cases zy : y ≤ L
        · rw [if_pos zx, if_pos zy, if_pos zx, if_pos zy, if_pos zx, if_pos zy]; exact ⟨hxy, m1, m2⟩
        · have n3 := vcn_mono (c := c) (show eL ≤ y by omega)
          have n4 := fcn_mono (c := c) (show eL ≤ y by omega)
          rw [if_pos zx, if_neg zy, if_pos zx, if_neg zy, if_pos zx, if_neg zy]; clear hC part ih h hseg p6; omega
      · have n3 := vcn_mono (c := c) (show eL ≤ x by omega)
        have n4 := fcn_mono (c := c) (show eL ≤ x by omega)
        rw [if_neg zx, if_neg (show ¬ y ≤ L by omega), if_neg zx, if_neg (show ¬ y ≤ L by omega), if_neg zx, if_neg (show ¬ y ≤ L by omega)]; clear hC part ih h hseg p6; omega
    clear hC ih
    intro T φ hS hu kY kN
    rw [hCl6]
    obtain ⟨_, h⟩ := h
    have ok0 : okI (c l 0) := by have := wfl.1; unfold okI; clear h; omega
    have okp : okI up := by unfold okI; clear h; omega
    rw [show d + 2 * (f + 1) + 4 + G = d + 2 * f + 4 + G + 2 by omega]
    have hne : (l : Int) ≠ (L : Int) := by clear h; omega
    have h3 : okI (L : Int) := by unfold okI; clear h; omega
    have hNo : ¬ (l < 200 ∧ fcn c l + fn1 c l ≤ 50) → ¬ (e + E' - eL ≤ 200 ∧ vcn c e + V' - vcn c eL ≤ 100 ∧ fcn c e + F' - fcn c eL ≤ 50) := by clear h; omega
    refine cp_head (d := d + 2 * f + 4 + G) hp hpa hS hl h3 hne (fun hn1 hq T1 hS1 hI1 => ?_) (fun hno T' hF => kN (hNo hno) _ T' hF (by unfold okI; clear h; omega))
    have r27 : ∀ y, vI T1 27 y = vI T 27 y := fun y => by unfold vI; rw [hI1 27 y (by decide)]
    have r4 : ∀ i, vI T1 4 i = vI T 4 i := fun i => by unfold vI; rw [hI1 4 i (by decide)]
    have okv : okI (vl1 T c l) := by
      unfold vl1
      split
      · exact ⟨vI_lo _ _ _, vI_hi _ _ _⟩
      · split
        · rename_i z; have := wfl.2.2.2.2.2.2.2.2.2.2.2 z; unfold okI; clear h; omega
        · unfold okI; clear h; omega
    refine k_beg' hp2 hS1 hn1 (fun hS2 => ?_)
    generalize hT2 : mBeg T1 p l (zI (c l 0)) (zI (vl1 T c l)) (zI up) = T2 at hS2
    have row2 : cR T2 p l (xTok (c l 0) (vl1 T c l) (-1) (-1) (-1) (-1) up) := by rw [← hT2]; exact cR_beg ok0 okv okp
    have e02 : cE T T2 p l := by rw [← hT2]; exact cE.trans' (T' := T1) (fun m w hm hw => r4 _) cE_beg
    have t27 : ∀ y, vI T2 27 y = vI T 27 y := fun y => by rw [← hT2, v27_beg, r27]
    have i2 : vI T2 0 3 = (a : Int) := ((cp_P hp hpa hS2.1).2.1).2.1
    have ha := (cp_P hp hpa hS2.1).2.1.1
    rw [← hf'] at hS2
    have u1 : ∀ x, x ∈ us → x < vcn c (l + 1) ∧ x < vcn c L := fun x hx => by have := hus x hx; clear h; omega
    have hu2 : ∀ y, y ∈ us → True → vI T2 27 y = (Rm c L eL V' y : Int) := fun y hy _ => by rw [t27]; exact hu y hy trivial
    have m1L : (-1 : Int) ≤ (L : Int) := by clear h; omega
    have RmL : ∀ y, y < vcn c L → Rm c L eL V' y = y := fun y hy => by show muM _ _ _ y = _; unfold muM; rw [if_pos hy]
    have RmM : ∀ y, y < vcn c L → muM (vcn c L) (vcn c eL) V' y = y := RmL
    have l6 : laM L eL E' (c l 6) = up := by rw [c6l]; exact laM_lo (by clear h; omega)
    have okl : okI (l : Int) := by unfold okI; clear h; omega
    have fin : ∀ {t : Nat → Int} {T'' : gT}, cR T'' p l t → (∀ w, w < 7 → t w = C l w) → CC T'' p C (l + 1) (e + E' - eL) → CC T'' p C l (e + E' - eL) := fun hr ht hcc => CC.cat (CC.one hr ht) hcc
    clear hNo okv
    rcases h with h | h | h | h | h | h | h
    · obtain ⟨k, _, _, _, _, _, h1, _⟩ := h; omega
    · obtain ⟨k, _, _, _, _, _, h1, _⟩ := h; omega
    · obtain ⟨k, k1, k2, k3, k4, k5, h1⟩ := h
      rw [if_neg (by omega), if_pos (Or.inl k)] at hv'
      have hfn : fn1 c l = 1 := by unfold fn1; rw [if_pos (Or.inl k)]
      rw [← hv', show fcn c l + 1 = fcn c (l + 1) by omega] at h1
      have hIH := part (l + 1) e _ h1 (by omega) (Nat.le_refl _) (Or.inl hl1) (Or.inr eE) (fun x hx => by
        rcases List.mem_cons.mp hx with z | z
        · omega
        · exact u1 x z)
      have c6 := p6 (l + 1) e _ _ _ _ _ h1 (by omega) (Nat.le_refl _) (Or.inl hl1)
      rw [p1.1, p1.2.1, p1.2.2, pe.1, pe.2.1, pe.2.2] at hIH
      rw [p1.1] at c6
      rw [hv'] at hIH
      have bind := x_binder3 (d := d + 2 * f + 2 + G) (T := T2) (φ := fun T' => φ (l : Int) T') (N := l) (m1 := vcn c l) hp hpa hS2 hl (Or.inl k) k1 (by omega) hn1 (RmL _ (by omega)) c6 (hIH.mono (by omega)) (fun y y1 _ _ => hu2 y y1 trivial) (fun hfit T' hS' hCM hrow hcE h27 => ?_) (fun hno T' hF => kN hno _ T' hF okl)
      · exact ⟨fun _ => ⟨fun _ => bind.mono (by omega) (fun _ _ z => z), fun z => absurd k z⟩, fun z => by omega⟩
      · refine kY hfit T' hS' (fin (hrow _ row2) (node7 hlL' hCl rfl ?_ ?_ (fun w w3 w6 => ?_)) hCM) (e02.trans' hcE) (fun y => (h27 y).trans (t27 y))
        · rw [moC_w1, if_neg (by omega), if_pos (Or.inr (Or.inl k)), k1, Int.toNat_natCast, RmM _ (by omega)]; rfl
        · rw [moC_w2, if_neg (by omega)]; rfl
        · have : w = 3 ∨ w = 4 ∨ w = 5 ∨ w = 6 := by omega
          rcases this with e | e | e | e <;> subst e
          · rw [k3, laM_lo (by omega)]; rfl
          · rw [k4, laM_lo m1L]; rfl
          · rw [k5, laM_lo m1L]; rfl
          · rw [l6]; rfl
    · obtain ⟨k, k1, k2, k3, k4, k5, h1⟩ := h
      rw [if_pos k] at hv'
      have hfn : fn1 c l = 1 := by unfold fn1; rw [if_pos (Or.inr k)]
      rw [← hv', show fcn c l + 1 = fcn c (l + 1) by omega] at h1
      have hIH := part (l + 1) e _ h1 (by omega) (Nat.le_refl _) (Or.inl hl1) (Or.inr eE) (fun x hx => by
        rcases List.mem_cons.mp hx with z | z
        · omega
        · rcases List.mem_cons.mp z with z | z
          · omega
          · exact u1 x z)
      have c6 := p6 (l + 1) e _ _ _ _ _ h1 (by omega) (Nat.le_refl _) (Or.inl hl1)
      rw [p1.1, p1.2.1, p1.2.2, pe.1, pe.2.1, pe.2.2] at hIH
      rw [p1.1] at c6
      rw [hv'] at hIH
      have u2 := wfl.2.2.1 k
      obtain ⟨j1, j2, j3, j4, _⟩ := (cp_P hp hpa hS2.1).2.1
      refine ⟨fun z => absurd k z, fun _ => ?_⟩
      rw [show (vI T2 0 3).toNat = a by omega, j4 l 2 hl (by omega), k2, Int.toNat_natCast, Int.toNat_natCast]
      refine ⟨by omega, by omega, by omega, by omega, ?_⟩
      refine k_fresh (d := d + 2 * f + 4 + G + 1) ha hpa i2 hS2 (fun hm T3 hS3 hI3 => ⟨by omega, by omega, ?_⟩) (fun hm T3 hF => ⟨by omega, by omega, ?_⟩)
      · have s27 : ∀ y, vI T3 27 y = vI T2 27 y := fun y => by unfold vI; rw [hI3 27 y (by omega) (by omega)]
        have s4 : ∀ i, vI T3 4 i = vI T2 4 i := fun i => by unfold vI; rw [hI3 4 i (by omega) (by omega)]
        have hS4 := (hS3.cst (l := l) (w := 2) (x := (vcn c l : Int)) hn1 (by omega)).row (i := vcn c l) (x := zI (vcn c l : Int))
        generalize hT4 : gI (cS T3 p l 2 (vcn c l : Int)) 27 (vcn c l) (zI (vcn c l : Int)) = T4 at hS4
        have q27 : ∀ y, vI T4 27 y = if y = vcn c l then (vcn c l : Int) else vI T 27 y := fun y => by
          rw [← hT4, v27_s (by unfold okI; omega), v27_cS, s27, t27]
        have row4 : cR T4 p l (tokS (xTok (c l 0) (vl1 T c l) (-1) (-1) (-1) (-1) up) 2 (vcn c l : Int)) := by
          rw [← hT4]; exact cR_row (cR_cS (row2.of4 s4) (by omega) (by omega))
        have e24 : cE T2 T4 p l := by rw [← hT4]; exact cE.trans' (T' := T3) (fun m w hm hw => s4 _) (cE.trans' cE_cS cE_row)
        refine (x_binder3 (d := d + 2 * f + 2 + G) (T := T4) (N := l) (m1 := vcn c l + 1) hp hpa hS4 hl (Or.inr k) k1 (by omega) hn1 ?_ c6 (hIH.mono (by omega)) (fun y y1 _ yx => ?_) (fun hfit T' hS' hCM hrow hcE h27 => ?_) (fun hno T' hF => kN hno _ _ (cpF.row hF) okl)).mono (by omega) (fun _ _ z => z)
        · rw [RmL _ (by omega)]
        · rw [q27]
          rcases List.mem_cons.mp y1 with z | z
          · rw [if_pos z, z, RmL _ (by omega)]
          · have := hus y z
            rw [if_neg (by omega)]; exact hu y z trivial
        · refine kY hfit _ hS'.row (CC.row (fin (hrow _ row4) (node7 hlL' hCl rfl ?_ ?_ (fun w w3 w6 => ?_)) hCM)) ((e02.trans' (e24.trans' hcE)).trans' cE_row) (fun y => ?_)
          · rw [moC_w1, if_neg (by omega), if_pos (Or.inr (Or.inr (Or.inl k))), k1, Int.toNat_natCast, RmM _ (by omega)]; rfl
          · rw [moC_w2, if_pos k, k2, Int.toNat_natCast, RmM _ (by omega)]; rfl
          · have : w = 3 ∨ w = 4 ∨ w = 5 ∨ w = 6 := by omega
            rcases this with e | e | e | e <;> subst e
            · rw [k3, laM_lo (by omega)]; rfl
            · rw [k4, laM_lo m1L]; rfl
            · rw [k5, laM_lo m1L]; rfl
            · rw [l6]; rfl
          · rw [v27_s ⟨vI_lo _ _ _, vI_hi _ _ _⟩, h27, q27]
            by_cases ey : y = vcn c l
            · rw [if_pos ey, ey, t27]
            · rw [if_neg ey, if_neg ey]
      · have hF1 := (hF.cst (l := l) (w := 2) (x := 100) hn1 (by omega)).row (i := vcn c l) (x := zI 100)
        generalize gI (cS T3 p l 2 100) 27 (vcn c l) (zI 100) = T4 at hF1
        have hno : ¬ (e + E' - eL ≤ 200 ∧ vcn c e + V' - vcn c eL ≤ 100 ∧ fcn c e + F' - fcn c eL ≤ 50) := by omega
        exact (k_binderF3 (d := d + 2 * f + 2 + G) hp hpa hF1 hl hn1 (Or.inr k) (fun T' hF' => kN hno _ _ (cpF.row hF') okl)).mono (by omega) (fun _ _ z => z)
    · obtain ⟨k, k1, k2, k3, k5, m, v, g, k4, h1, h2⟩ := h
      rw [if_neg (by omega), if_pos (Or.inr k)] at hv'
      have hfn : fn1 c l = 0 := by unfold fn1; rw [if_neg (by omega)]
      replace hf' : fcn c (l + 1) = fcn c l := by omega
      rw [← hv', ← hf'] at h1
      have w1' := wf_lt _ _ _ _ _ _ _ _ _ h1
      have w2' := wf_lt _ _ _ _ _ _ _ _ _ h2
      have b1 := wf_cnt _ _ _ _ _ _ _ _ _ h1
      obtain rfl : v = vcn c m := by omega
      obtain rfl : g = fcn c m := by omega
      have bm : m ≤ L ∨ eL ≤ m := by
        by_cases z : L < m
        · exact Or.inr (inn _ _ _ _ _ _ _ h1 hl1 z (by omega))
        · omega
      have x1 := vcn_mono (c := c) (show l + 1 ≤ m by omega)
      have hIH := part (l + 1) m _ h1 (by omega) (by omega) (Or.inl hl1) bm u1
      have hIH2 := part m e _ h2 (by omega) (Nat.le_refl _) bm (Or.inr eE) (fun x hx => by
        rcases List.mem_cons.mp hx with z | z
        · omega
        · have := u1 x z; omega)
      have c6 := p6 (l + 1) m _ _ _ _ _ h1 (by omega) (by omega) (Or.inl hl1)
      have c6' := p6 m e _ _ _ _ _ h2 (by omega) (Nat.le_refl _) bm
      have q1 := pm (l + 1) m (by omega) (Or.inl hl1) bm
      have q2 := pm m e (by omega) bm (Or.inr eE)
      have l4 := lb m bm
      rw [p1.1, p1.2.1, p1.2.2] at hIH q1
      rw [pe.1, pe.2.1, pe.2.2] at hIH2 q2
      rw [p1.1] at c6
      rw [hv'] at hIH q1
      have bind := x_binder5 (d := d + 2 * f + 2 + G) (T := T2) (φ := fun T' => φ (l : Int) T') (N := l) (M := posL L eL E' m) (m1 := vcn c l) hp hpa hS2 hl k k1 k4 ⟨q1.1, q2.1⟩ ⟨q1.2.1, q2.2.1⟩ q2.2.2 hn1 (RmL _ (by omega)) c6 c6' (hIH.mono (by omega)) (hIH2.mono (by omega)) (fun y y1 _ => ⟨by have := hus y y1; omega, hu2 y y1 trivial⟩) (fun hfit T' hS' hCM hCM2 hrow hcE h27 => ?_) (fun hno T' hF => kN hno _ T' hF okl)
      · exact ⟨fun _ => ⟨fun z => by omega, fun _ => ⟨fun z => absurd k z, fun _ => bind.mono (by omega) (fun _ _ z => z)⟩⟩, fun z => by omega⟩
      · refine kY hfit T' hS' (fin (hrow _ row2) (node7 hlL' hCl rfl ?_ ?_ (fun w w3 w6 => ?_)) (CC.cat hCM hCM2)) (e02.trans' hcE) (fun y => (h27 y).trans (t27 y))
        · rw [moC_w1, if_neg (by omega), if_pos (Or.inr (Or.inr (Or.inr k))), k1, Int.toNat_natCast, RmM _ (by omega)]; rfl
        · rw [moC_w2, if_neg (by omega)]; rfl
        · have : w = 3 ∨ w = 4 ∨ w = 5 ∨ w = 6 := by omega
          rcases this with e | e | e | e <;> subst e
          · rw [k3, laM_lo (by omega)]; rfl
          · rw [k4, l4]; rfl
          · rw [k5, laM_lo m1L]; rfl
          · rw [l6]; rfl
    · obtain ⟨k, k1, k2, k3, m, v, g, m2, v2, g2, k4, k5, h1, h2, h3'⟩ := h
      rw [if_neg (by omega), if_neg (by omega)] at hv'
      replace hv' : vcn c (l + 1) = vcn c l := by omega
      have hfn : fn1 c l = 0 := by unfold fn1; rw [if_neg (by omega)]
      replace hf' : fcn c (l + 1) = fcn c l := by omega
      rw [← hv', ← hf'] at h1
      have w1' := wf_lt _ _ _ _ _ _ _ _ _ h1
      have w2' := wf_lt _ _ _ _ _ _ _ _ _ h2
      have w3' := wf_lt _ _ _ _ _ _ _ _ _ h3'
      have b1 := wf_cnt _ _ _ _ _ _ _ _ _ h1
      have b1' := wf_cnt _ _ _ _ _ _ _ _ _ h2
      obtain rfl : v = vcn c m := by omega
      obtain rfl : g = fcn c m := by omega
      obtain rfl : v2 = vcn c m2 := by omega
      obtain rfl : g2 = fcn c m2 := by omega
      have bm : m ≤ L ∨ eL ≤ m := by
        by_cases z : L < m
        · exact Or.inr (inn _ _ _ _ _ _ _ h1 hl1 z (by omega))
        · omega
      have bm2 : m2 ≤ L ∨ eL ≤ m2 := by
        by_cases z : L < m2
        · by_cases z2 : L < m
          · have := inn _ _ _ _ _ _ _ h1 hl1 z2 (by omega); omega
          · exact Or.inr (inn _ _ _ _ _ _ _ h2 (by omega) z (by omega))
        · omega
      have x1 := vcn_mono (c := c) (show l + 1 ≤ m by omega)
      have x2 := vcn_mono (c := c) (show m ≤ m2 by omega)
      have hIH := part (l + 1) m _ h1 (by omega) (by omega) (Or.inl hl1) bm u1
      have hIH2 := part m m2 _ h2 (by omega) (by omega) bm bm2 (fun x hx => by have := u1 x hx; omega)
      have hIH3 := part m2 e _ h3' (by omega) (Nat.le_refl _) bm2 (Or.inr eE) (fun x hx => by have := u1 x hx; omega)
      have c6 := p6 (l + 1) m _ _ _ _ _ h1 (by omega) (by omega) (Or.inl hl1)
      have c6' := p6 m m2 _ _ _ _ _ h2 (by omega) (by omega) bm
      have c6'' := p6 m2 e _ _ _ _ _ h3' (by omega) (Nat.le_refl _) bm2
      have q1 := pm (l + 1) m (by omega) (Or.inl hl1) bm
      have q2 := pm m m2 (by omega) bm bm2
      have q3 := pm m2 e (by omega) bm2 (Or.inr eE)
      have l4 := lb m bm
      have l5 := lb m2 bm2
      rw [p1.1, p1.2.1, p1.2.2] at hIH q1
      rw [pe.1, pe.2.1, pe.2.2] at hIH3 q3
      rw [p1.1] at c6
      rw [hv'] at hIH q1
      refine ⟨fun _ => ⟨fun z => by omega, fun _ => ⟨fun _ => ?_, fun z => by omega⟩⟩, fun z => by omega⟩
      rw [show d + 2 * f + 4 + G + 1 + 1 = d + 2 * f + 2 + G + 4 by omega]
      refine x_three (d := d + 2 * f + 2 + G) (T := T2) (N := l) (M := posL L eL E' m) (M2 := posL L eL E' m2) (m1 := vcn c l) hp hpa hS2 hl k3 k4 k5 ⟨q1.1, q2.1, q3.1⟩ ⟨q1.2.1, q2.2.1, q3.2.1⟩ ⟨q2.2.2, q3.2.2⟩ hn1 c6 c6' c6'' (hIH.mono (by omega)) (hIH2.mono (by omega)) (hIH3.mono (by omega)) hu2 (fun hfit T' hS' hCM hCM2 hCM3 hrow hcE h27 => ?_) (fun hno T' hF => kN hno _ T' hF okl)
      refine kY hfit T' hS' (fin (hrow _ row2) (node7 hlL' hCl rfl ?_ ?_ (fun w w3 w6 => ?_)) (CC.cat (CC.cat hCM hCM2) hCM3)) (e02.trans' hcE) (fun y => (h27 y).trans (t27 y))
      · rw [moC_w1, if_neg (by omega), if_neg (by omega)]
        show vl1 T c l = _
        unfold vl1; rw [if_neg (by omega), if_neg (by omega)]
      · rw [moC_w2, if_neg (by omega)]; rfl
      · have : w = 3 ∨ w = 4 ∨ w = 5 ∨ w = 6 := by omega
        rcases this with e | e | e | e <;> subst e
        · rw [k3, laM_lo (by omega)]; rfl
        · rw [k4, l4]; rfl
        · rw [k5, l5]; rfl
        · rw [l6]; rfl
    · obtain ⟨k, k1, k2, k3, k5, m, v, g, k4, h1, h2⟩ := h
      rw [if_neg (by omega), if_neg (by omega)] at hv'
      replace hv' : vcn c (l + 1) = vcn c l := by omega
      have hfn : fn1 c l = 0 := by unfold fn1; rw [if_neg (by omega)]
      replace hf' : fcn c (l + 1) = fcn c l := by omega
      rw [← hv', ← hf'] at h1
      have w1' := wf_lt _ _ _ _ _ _ _ _ _ h1
      have w2' := wf_lt _ _ _ _ _ _ _ _ _ h2
      have b1 := wf_cnt _ _ _ _ _ _ _ _ _ h1
      obtain rfl : v = vcn c m := by omega
      obtain rfl : g = fcn c m := by omega
      have bm : m ≤ L ∨ eL ≤ m := by
        by_cases z : L < m
        · exact Or.inr (inn _ _ _ _ _ _ _ h1 hl1 z (by omega))
        · omega
      have x1 := vcn_mono (c := c) (show l + 1 ≤ m by omega)
      have hIH := part (l + 1) m _ h1 (by omega) (by omega) (Or.inl hl1) bm u1
      have hIH2 := part m e _ h2 (by omega) (Nat.le_refl _) bm (Or.inr eE) (fun x hx => by have := u1 x hx; omega)
      have c6 := p6 (l + 1) m _ _ _ _ _ h1 (by omega) (by omega) (Or.inl hl1)
      have c6' := p6 m e _ _ _ _ _ h2 (by omega) (Nat.le_refl _) bm
      have q1 := pm (l + 1) m (by omega) (Or.inl hl1) bm
      have q2 := pm m e (by omega) bm (Or.inr eE)
      have l4 := lb m bm
      rw [p1.1, p1.2.1, p1.2.2] at hIH q1
      rw [pe.1, pe.2.1, pe.2.2] at hIH2 q2
      rw [p1.1] at c6
      rw [hv'] at hIH q1
      refine ⟨fun _ => ⟨fun z => by omega, fun _ => ⟨fun _ => ?_, fun z => by omega⟩⟩, fun z => by omega⟩
      rw [show d + 2 * f + 4 + G + 1 + 1 = d + 2 * f + 2 + G + 4 by omega]
      refine x_two (d := d + 2 * f + 2 + G) (T := T2) (N := l) (M := posL L eL E' m) (m1 := vcn c l) hp hpa hS2 hl k3 k4 k5 ⟨q1.1, q2.1⟩ ⟨q1.2.1, q2.2.1⟩ q2.2.2 hn1 c6 c6' (hIH.mono (by omega)) (hIH2.mono (by omega)) hu2 (fun hfit T' hS' hCM hCM2 hrow hcE h27 => ?_) (fun hno T' hF => kN hno _ T' hF okl)
      refine kY hfit T' hS' (fin (hrow _ row2) (node7 hlL' hCl rfl ?_ ?_ (fun w w3 w6 => ?_)) (CC.cat hCM hCM2)) (e02.trans' hcE) (fun y => (h27 y).trans (t27 y))
      · rw [moC_w1, if_neg (by omega), if_neg (by omega)]
        show vl1 T c l = _
        unfold vl1; rw [if_neg (by omega), if_neg (by omega)]
      · rw [moC_w2, if_neg (by omega)]; rfl
      · have : w = 3 ∨ w = 4 ∨ w = 5 ∨ w = 6 := by omega
        rcases this with e | e | e | e <;> subst e
        · rw [k3, laM_lo (by omega)]; rfl
        · rw [k4, l4]; rfl
        · rw [k5, laM_lo m1L]; rfl
        · rw [l6]; rfl
end C7
