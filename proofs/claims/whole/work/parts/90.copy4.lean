section CS4
variable {sa : Nat → Nat} {b : Nat} {E : Nat × mH} {d : Nat} {T0 T T' : gT} {a p : Nat} {c : Nat → Nat → Int} {n nv nf n1 m1 q1 : Nat} {A B Av Bv : Nat} {R : Nat → Nat}
theorem cpG.mono {D D' : Nat} {l3 : Int} {l e : Nat} {us : List Nat} {v0 v1 f0 f1 : Nat} (h : cpG sa b E D T0 p c A B Av Bv R l3 l e us v0 v1 f0 f1) (hD : D ≤ D') : cpG sa b E D' T0 p c A B Av Bv R l3 l e us v0 v1 f0 f1 :=
  fun T q1 part φ h1 h2 h3 h4 h5 => (h T q1 part φ h1 h2 h3 h4 h5).mono hD (fun _ _ z => z)
theorem mvC_6 {up : Int} {l j : Nat} : mvC c A B Av Bv R up l j 6 = if j = l then up else c j 6 + B - A := by
  unfold mvC
  rw [if_neg (by decide), if_neg (by decide), if_neg (by decide), if_pos rfl]
theorem CM.up {up : Int} {l m m2 : Nat} (h : CM T p c A B Av Bv R ((l + B - A : Nat) : Int) m m m2) (h6 : c m 6 = (l : Int)) (hlm : l < m) (hA : A ≤ l) : CM T p c A B Av Bv R up l m m2 := by
  intro j j1 j2 w hw
  rw [h j j1 j2 w hw]
  by_cases w6 : w = 6
  · subst w6
    rw [mvC_6, mvC_6, if_neg (show ¬ j = l by omega)]
    by_cases e : j = m
    · rw [if_pos e, e, h6]; omega
    · rw [if_neg e]
  · unfold mvC
    rw [if_neg w6, if_neg w6]
theorem CM.cat {up : Int} {l x y z : Nat} (h : CM T p c A B Av Bv R up l x y) (h2 : CM T p c A B Av Bv R up l y z) : CM T p c A B Av Bv R up l x z := fun j j1 j2 w hw => by
  by_cases e : j < y
  · exact h j j1 e w hw
  · exact h2 j (by omega) j2 w hw
theorem CM.one {up : Int} {l : Nat} {t : Nat → Int} (h : cR T p (l + B - A) t) (ht : ∀ w, w < 7 → t w = mvC c A B Av Bv R up l l w) : CM T p c A B Av Bv R up l l (l + 1) := fun j j1 j2 w hw => by
  obtain rfl : j = l := by omega
  exact (h w hw).trans (ht w hw)
/-- the seven cells, one by one -/
theorem seven {t : Nat → Int} {up : Int} {l : Nat} (h0 : t 0 = c l 0) (h1 : t 1 = (if c l 0 = 1 then c l 1 else if c l 0 = 0 then (R (c l 1).toNat : Int) else if c l 0 = 2 ∨ c l 0 = 3 ∨ c l 0 = 5 then c l 1 + Bv - Av else -1)) (h2 : t 2 = if c l 0 = 3 then c l 2 + Bv - Av else -1) (h3 : ∀ w, 3 ≤ w → w ≤ 5 → t w = if c l w = -1 then -1 else c l w + B - A) (h6 : t 6 = up) : ∀ w, w < 7 → t w = mvC c A B Av Bv R up l l w := by
  intro w hw
  unfold mvC
  by_cases e0 : w = 0
  · rw [if_pos e0, e0]; exact h0
  rw [if_neg e0]
  by_cases e1 : w = 1
  · rw [if_pos e1, e1]; exact h1
  rw [if_neg e1]
  by_cases e2 : w = 2
  · rw [if_pos e2, e2]; exact h2
  rw [if_neg e2]
  by_cases e6 : w = 6
  · rw [if_pos e6, if_pos rfl, e6]; exact h6
  rw [if_neg e6]
  exact h3 w (by omega) (by omega)
theorem k_beg' {k v u : Int} {φ : Int → gT → Prop} (hp2 : p < 2) (h : cpS T0 T p n1 m1 q1) (hn : n1 < 200) (kY : cpS T0 (mBeg T p n1 (zI k) (zI v) (zI u)) p (n1 + 1) m1 q1 → φ (n1 : Int) (mBeg T p n1 (zI k) (zI v) (zI u))) : gC (tP sa) lM b E (d + 1) mX7_begin [.ref (b + 0), .int (zI (p : Int)), .int (zI k), .int (zI v), .int (zI u)] T (fun r T' => pI r (fun v => φ v T')) :=
  k_begin (d := d) hp2 hn h.2.1 (kY (h.beg hn))
theorem cE_beg {k v u : Int32} {l : Nat} : cE T (mBeg T p l k v u) p l := fun m w hm hw => mBeg_o (by omega) (by omega)
theorem v27_beg {k v u : Int32} {l y : Nat} : vI (mBeg T p l k v u) 27 y = vI T 27 y := mBeg_o (by omega) (by omega)
/-- parts of a node that binds nothing -/
theorem lp_one {k : Nat} {l N1 : Nat} {part l3 l5 l6 : Int} {L9 : Option Value} {Q : Option Value → gT → Prop} (hp : rPa T0 a c n nv nf) (hpa : p + a = 1) (hf : fr (Wk p) T0 T) (hl : l < n) (hN : N1 < 200) (hk : 3 ≤ k ∧ k ≤ 5) (h9 : L9 = none ∨ ∃ z, L9 = some (.int (zI z)))
    (k0 : c l k = -1 → gW (tP sa) lM b E (d + 2) mX7_copy 288 [some (.ref (b + 0)), some (.int (zI (l : Int))), some (.int (zI part)), some (.int (zI l3)), some (.int (zI (p : Int))), some (.int (zI l5)), some (.int (zI l6)), some (.int (zI (N1 : Int))), some (.int (zI ((k : Int) + 1))), L9, none] [] T Q)
    (k1 : c l k ≠ -1 → gC (tP sa) lM b E (d + 1) mX7_copy [.ref (b + 0), .int (zI (c l k)), .int (zI (N1 : Int)), .int (zI l3)] T (fun r T' => pI r (fun v => gW (tP sa) lM b E (d + 2) mX7_copy 288 [some (.ref (b + 0)), some (.int (zI (l : Int))), some (.int (zI part)), some (.int (zI l3)), some (.int (zI (p : Int))), some (.int (zI l5)), some (.int (zI l6)), some (.int (zI (N1 : Int))), some (.int (zI ((k : Int) + 1))), some (.int (zI v)), none] [] (cS T' p N1 k v) Q))) :
    gW (tP sa) lM b E (d + 2) mX7_copy 288 [some (.ref (b + 0)), some (.int (zI (l : Int))), some (.int (zI part)), some (.int (zI l3)), some (.int (zI (p : Int))), some (.int (zI l5)), some (.int (zI l6)), some (.int (zI (N1 : Int))), some (.int (zI (k : Int))), L9, none] [] T Q := by
  have hn := hp.1.1
  obtain ⟨i1, i2, i3, i4, _⟩ := (cp_P hp hpa hf).2.1
  have ea : (vI T 0 3).toNat = a := by omega
  rcases h9 with h9 | ⟨z, h9⟩
  · subst h9
    refine w_X7_copy_288 (d := d) ?_
    unfold f_X7_copy_288
    rw [ea, Int.toNat_natCast, Int.toNat_natCast, Int.toNat_natCast, Int.toNat_natCast, i4 l k hl (by omega)]
    exact ⟨by omega, fun z => by omega, fun _ => ⟨by omega, by omega, by omega, k0, fun z => ⟨by omega, by omega, (k1 z).goI (fun v T' y => ⟨by omega, by omega, by omega, y⟩)⟩⟩⟩
  · subst h9
    refine w_X7_copy_288b (d := d) ?_
    unfold f_X7_copy_288b
    rw [ea, Int.toNat_natCast, Int.toNat_natCast, Int.toNat_natCast, Int.toNat_natCast, i4 l k hl (by omega)]
    exact ⟨by omega, fun z => by omega, fun _ => ⟨by omega, by omega, by omega, k0, fun z => ⟨by omega, by omega, (k1 z).goI (fun v T' y => ⟨by omega, by omega, by omega, y⟩)⟩⟩⟩
theorem lp_end {l N1 : Nat} {part l3 l5 l6 : Int} {L9 : Option Value} {Q : Option Value → gT → Prop} (h9 : L9 = none ∨ ∃ z, L9 = some (.int (zI z))) (k : Q (some (.int (zI (N1 : Int)))) T) :
    gW (tP sa) lM b E (d + 2) mX7_copy 288 [some (.ref (b + 0)), some (.int (zI (l : Int))), some (.int (zI part)), some (.int (zI l3)), some (.int (zI (p : Int))), some (.int (zI l5)), some (.int (zI l6)), some (.int (zI (N1 : Int))), some (.int (zI 6)), L9, none] [] T Q := by
  rcases h9 with h9 | ⟨z, h9⟩
  · subst h9
    refine w_X7_copy_288 (d := d) ?_
    unfold f_X7_copy_288
    exact ⟨by omega, fun _ => k, fun z => absurd z (by omega)⟩
  · subst h9
    refine w_X7_copy_288b (d := d) ?_
    unfold f_X7_copy_288b
    exact ⟨by omega, fun _ => k, fun z => absurd z (by omega)⟩
/-- two parts -/
theorem lp_two (hp : rPa T0 a c n nv nf) (hpa : p + a = 1) {l e m : Nat} {part l3 l5 l6 : Int} {us : List Nat} {w0 wm w1 x0 xm x1 : Nat} {φ : Int → gT → Prop} (h : cpS T0 T p (l + 1 + B - A) (w0 + Bv - Av) q1) (hl : l < n) (hA : A ≤ l) (k3 : c l 3 = ((l + 1 : Nat) : Int)) (k4 : c l 4 = (m : Int)) (k5 : c l 5 = -1) (hlm : l + 1 < m) (hme : m < e) (hw01 : w0 ≤ wm ∧ wm ≤ w1) (hx01 : x0 ≤ xm ∧ xm ≤ x1) (hAv : Av ≤ w0) (hN : l + B - A < 200)
    (hIH : cpG sa b E (d + 3) T0 p c A B Av Bv R l3 (l + 1) m us w0 wm x0 xm) (hIH2 : cpG sa b E (d + 3) T0 p c A B Av Bv R l3 m e us wm w1 xm x1) (hu : ∀ y, y ∈ us → metI c (l + 1) e y → vI T 27 y = (R y : Int))
    (kY : (e + B - A ≤ 200 ∧ w1 + Bv - Av ≤ 100 ∧ q1 + x1 - x0 ≤ 50) → ∀ T', cpS T0 T' p (e + B - A) (w1 + Bv - Av) (q1 + x1 - x0) → CM T' p c A B Av Bv R ((l + B - A : Nat) : Int) (l + 1) (l + 1) m → CM T' p c A B Av Bv R ((l + B - A : Nat) : Int) m m e → (∀ t, cR T p (l + B - A) t → cR T' p (l + B - A) (tokS (tokS t 3 ((l + 1 + B - A : Nat) : Int)) 4 ((m + B - A : Nat) : Int))) → cE T T' p (l + B - A) → (∀ y, vI T' 27 y = vI T 27 y) → φ ((l + B - A : Nat) : Int) T')
    (kN : ¬ (e + B - A ≤ 200 ∧ w1 + Bv - Av ≤ 100 ∧ q1 + x1 - x0 ≤ 50) → ∀ T', cpF T0 T' p → φ ((l + B - A : Nat) : Int) T') :
    gW (tP sa) lM b E (d + 4) mX7_copy 288 [some (.ref (b + 0)), some (.int (zI (l : Int))), some (.int (zI part)), some (.int (zI l3)), some (.int (zI (p : Int))), some (.int (zI l5)), some (.int (zI l6)), some (.int (zI ((l + B - A : Nat) : Int))), some (.int (zI 3)), none, none] [] T (fun r T' => pI r (fun v => φ v T')) := by
  refine lp_one (d := d + 2) (k := 3) hp hpa h.1 hl hN (by omega) (Or.inl rfl) (fun z => by omega) (fun _ => ?_)
  rw [k3]
  refine hIH T q1 _ _ h (by omega) (fun y y1 ⟨q, a1, a2, a3⟩ => hu y y1 ⟨q, a1, by omega, a3⟩) (fun hfit T3 hS3 hCM hcE h27 => ?_) (fun hno v' T3 hF hv' => ?_)
  · have hS3' := hS3.cst (l := l + B - A) (w := 3) (x := ((l + 1 + B - A : Nat) : Int)) hN (by omega)
    refine lp_one (d := d + 2) (k := 4) hp hpa hS3'.1 hl hN (by omega) (Or.inr ⟨_, rfl⟩) (fun z => by omega) (fun _ => ?_)
    rw [k4]
    refine hIH2 _ (q1 + xm - x0) _ _ hS3' (by omega) (fun y y1 ⟨q, a1, a2, a3⟩ => by rw [v27_cS, h27]; exact hu y y1 ⟨q, by omega, a2, a3⟩) (fun hfit2 T4 hS4 hCM2 hcE2 h27b => ?_) (fun hno v' T4 hF hv' => ?_)
    · have hS4' := hS4.cst (l := l + B - A) (w := 4) (x := ((m + B - A : Nat) : Int)) hN (by omega)
      refine lp_one (d := d + 2) (k := 5) hp hpa hS4'.1 hl hN (by omega) (Or.inr ⟨_, rfl⟩) (fun _ => ?_) (fun z => absurd k5 z)
      refine lp_end (Or.inr ⟨_, rfl⟩) ⟨_, rfl, ?_⟩
      have hq : q1 + xm - x0 + x1 - xm = q1 + x1 - x0 := by omega
      rw [hq] at hfit2 hS4'
      refine kY hfit2 _ hS4' (CM.cst (CM.cE (CM.cst hCM (by omega) (by omega) (by omega)) hcE2 (Nat.le_refl _) (by omega)) (by omega) (by omega) (by omega)) (CM.cst hCM2 (by omega) (by omega) (by omega)) (fun t ht => ?_) ?_ (fun y => ?_)
      · have row3 : cR (cS T3 p (l + B - A) 3 ((l + 1 + B - A : Nat) : Int)) p (l + B - A) _ := cR_cS (cR.cE ht hcE (by omega)) (by omega) (by omega)
        exact cR_cS (cR.cE row3 hcE2 (by omega)) (by omega) (by omega)
      · exact cE.trans' (T' := T3) (fun m w hm hw => hcE m w (by omega) hw) (cE.trans' cE_cS (cE.trans' (T' := T4) (fun m w hm hw => hcE2 m w (by omega) hw) cE_cS))
      · rw [v27_cS, h27b, v27_cS, h27]
    · have hF' := hF.cst (l := l + B - A) (w := 4) (x := v') hN (by omega)
      exact lp_full (d := d) hp hpa hl hN (fun T' hF' => kN (by omega) T' hF') 1 5 _ v' rfl (by omega) hF'
  · have hF' := hF.cst (l := l + B - A) (w := 3) (x := v') hN (by omega)
    exact lp_full (d := d) hp hpa hl hN (fun T' hF' => kN (by omega) T' hF') 2 4 _ v' rfl (by omega) hF'
/-- three parts -/
theorem lp_three (hp : rPa T0 a c n nv nf) (hpa : p + a = 1) {l e m m2 : Nat} {part l3 l5 l6 : Int} {us : List Nat} {w0 wm wn w1 x0 xm xn x1 : Nat} {φ : Int → gT → Prop} (h : cpS T0 T p (l + 1 + B - A) (w0 + Bv - Av) q1) (hl : l < n) (hA : A ≤ l) (k3 : c l 3 = ((l + 1 : Nat) : Int)) (k4 : c l 4 = (m : Int)) (k5 : c l 5 = (m2 : Int)) (hlm : l + 1 < m) (hmm : m < m2) (hme : m2 < e) (hw01 : w0 ≤ wm ∧ wm ≤ wn ∧ wn ≤ w1) (hx01 : x0 ≤ xm ∧ xm ≤ xn ∧ xn ≤ x1) (hAv : Av ≤ w0) (hN : l + B - A < 200)
    (hIH : cpG sa b E (d + 3) T0 p c A B Av Bv R l3 (l + 1) m us w0 wm x0 xm) (hIH2 : cpG sa b E (d + 3) T0 p c A B Av Bv R l3 m m2 us wm wn xm xn) (hIH3 : cpG sa b E (d + 3) T0 p c A B Av Bv R l3 m2 e us wn w1 xn x1) (hu : ∀ y, y ∈ us → metI c (l + 1) e y → vI T 27 y = (R y : Int))
    (kY : (e + B - A ≤ 200 ∧ w1 + Bv - Av ≤ 100 ∧ q1 + x1 - x0 ≤ 50) → ∀ T', cpS T0 T' p (e + B - A) (w1 + Bv - Av) (q1 + x1 - x0) → CM T' p c A B Av Bv R ((l + B - A : Nat) : Int) (l + 1) (l + 1) m → CM T' p c A B Av Bv R ((l + B - A : Nat) : Int) m m m2 → CM T' p c A B Av Bv R ((l + B - A : Nat) : Int) m2 m2 e → (∀ t, cR T p (l + B - A) t → cR T' p (l + B - A) (tokS (tokS (tokS t 3 ((l + 1 + B - A : Nat) : Int)) 4 ((m + B - A : Nat) : Int)) 5 ((m2 + B - A : Nat) : Int))) → cE T T' p (l + B - A) → (∀ y, vI T' 27 y = vI T 27 y) → φ ((l + B - A : Nat) : Int) T')
    (kN : ¬ (e + B - A ≤ 200 ∧ w1 + Bv - Av ≤ 100 ∧ q1 + x1 - x0 ≤ 50) → ∀ T', cpF T0 T' p → φ ((l + B - A : Nat) : Int) T') :
    gW (tP sa) lM b E (d + 4) mX7_copy 288 [some (.ref (b + 0)), some (.int (zI (l : Int))), some (.int (zI part)), some (.int (zI l3)), some (.int (zI (p : Int))), some (.int (zI l5)), some (.int (zI l6)), some (.int (zI ((l + B - A : Nat) : Int))), some (.int (zI 3)), none, none] [] T (fun r T' => pI r (fun v => φ v T')) := by
  refine lp_one (d := d + 2) (k := 3) hp hpa h.1 hl hN (by omega) (Or.inl rfl) (fun z => by omega) (fun _ => ?_)
  rw [k3]
  refine hIH T q1 _ _ h (by omega) (fun y y1 ⟨q, a1, a2, a3⟩ => hu y y1 ⟨q, a1, by omega, a3⟩) (fun hfit T3 hS3 hCM hcE h27 => ?_) (fun hno v' T3 hF hv' => ?_)
  · have hS3' := hS3.cst (l := l + B - A) (w := 3) (x := ((l + 1 + B - A : Nat) : Int)) hN (by omega)
    refine lp_one (d := d + 2) (k := 4) hp hpa hS3'.1 hl hN (by omega) (Or.inr ⟨_, rfl⟩) (fun z => by omega) (fun _ => ?_)
    rw [k4]
    refine hIH2 _ (q1 + xm - x0) _ _ hS3' (by omega) (fun y y1 ⟨q, a1, a2, a3⟩ => by rw [v27_cS, h27]; exact hu y y1 ⟨q, by omega, by omega, a3⟩) (fun hfit2 T4 hS4 hCM2 hcE2 h27b => ?_) (fun hno v' T4 hF hv' => ?_)
    · have hS4' := hS4.cst (l := l + B - A) (w := 4) (x := ((m + B - A : Nat) : Int)) hN (by omega)
      refine lp_one (d := d + 2) (k := 5) hp hpa hS4'.1 hl hN (by omega) (Or.inr ⟨_, rfl⟩) (fun z => by omega) (fun _ => ?_)
      rw [k5]
      refine hIH3 _ (q1 + xm - x0 + xn - xm) _ _ hS4' (by omega) (fun y y1 ⟨q, a1, a2, a3⟩ => by rw [v27_cS, h27b, v27_cS, h27]; exact hu y y1 ⟨q, by omega, a2, a3⟩) (fun hfit3 T5 hS5 hCM3 hcE3 h27c => ?_) (fun hno v' T5 hF hv' => ?_)
      · have hS5' := hS5.cst (l := l + B - A) (w := 5) (x := ((m2 + B - A : Nat) : Int)) hN (by omega)
        refine lp_end (Or.inr ⟨_, rfl⟩) ⟨_, rfl, ?_⟩
        have hq : q1 + xm - x0 + xn - xm + x1 - xn = q1 + x1 - x0 := by omega
        rw [hq] at hfit3 hS5'
        refine kY hfit3 _ hS5' (CM.cst (CM.cE (CM.cst (CM.cE (CM.cst hCM (by omega) (by omega) (by omega)) hcE2 (Nat.le_refl _) (by omega)) (by omega) (by omega) (by omega)) hcE3 (by omega) (by omega)) (by omega) (by omega) (by omega)) (CM.cst (CM.cE (CM.cst hCM2 (by omega) (by omega) (by omega)) hcE3 (Nat.le_refl _) (by omega)) (by omega) (by omega) (by omega)) (CM.cst hCM3 (by omega) (by omega) (by omega)) (fun t ht => ?_) ?_ (fun y => ?_)
        · have row3 : cR (cS T3 p (l + B - A) 3 ((l + 1 + B - A : Nat) : Int)) p (l + B - A) _ := cR_cS (cR.cE ht hcE (by omega)) (by omega) (by omega)
          have row4 : cR (cS T4 p (l + B - A) 4 ((m + B - A : Nat) : Int)) p (l + B - A) _ := cR_cS (cR.cE row3 hcE2 (by omega)) (by omega) (by omega)
          exact cR_cS (cR.cE row4 hcE3 (by omega)) (by omega) (by omega)
        · exact cE.trans' (T' := T3) (fun m w hm hw => hcE m w (by omega) hw) (cE.trans' cE_cS (cE.trans' (T' := T4) (fun m w hm hw => hcE2 m w (by omega) hw) (cE.trans' cE_cS (cE.trans' (T' := T5) (fun m w hm hw => hcE3 m w (by omega) hw) cE_cS))))
        · rw [v27_cS, h27c, v27_cS, h27b, v27_cS, h27]
      · have hF' := hF.cst (l := l + B - A) (w := 5) (x := v') hN (by omega)
        exact lp_full (d := d) hp hpa hl hN (fun T' hF' => kN (by omega) T' hF') 0 6 _ v' rfl (by omega) hF'
    · have hF' := hF.cst (l := l + B - A) (w := 4) (x := v') hN (by omega)
      exact lp_full (d := d) hp hpa hl hN (fun T' hF' => kN (by omega) T' hF') 1 5 _ v' rfl (by omega) hF'
  · have hF' := hF.cst (l := l + B - A) (w := 3) (x := v') hN (by omega)
    exact lp_full (d := d) hp hpa hl hN (fun T' hF' => kN (by omega) T' hF') 2 4 _ v' rfl (by omega) hF'
/-- a binder without room -/
theorem k_binderF3 (hp : rPa T0 a c n nv nf) (hpa : p + a = 1) {l N1 : Nat} {l3 : Int} {φ : gT → Prop} (h : cpF T0 T p) (hl : l < n) (hN : N1 < 200) (hk : c l 0 = 2 ∨ c l 0 = 3) (kN : ∀ T', cpF T0 T' p → φ T') : gC (tP sa) lM b E (d + 3) mX7_binder [.ref (b + 0), .int (zI (l : Int)), .int (zI (N1 : Int)), .int (zI l3)] T (fun r T' => pV r (φ T')) := by
  have hn := hp.1.1
  obtain ⟨x1', x2', x3', x4', _⟩ := (cp_P hp hpa h.1).2.1
  refine w_X7_binder (d := d + 1) ?_
  unfold f_X7_binder
  rw [show (1 : Int) - vI T 0 3 = (p : Int) by omega, Int.toNat_natCast, Int.toNat_natCast, Int.toNat_natCast]
  refine ⟨by omega, by omega, k_freshF (d := d + 1 + 1) x1' hpa x2' h (fun v T5 hv hF5 => ?_)⟩
  have hF5' := hF5.cst (l := N1) (w := 1) (x := v) hN (by omega)
  obtain ⟨y1', y2', y3', y4', _⟩ := (cp_P hp hpa hF5'.1).2.1
  have e5 : vI T5 0 3 = vI (cS T5 p N1 1 v) 0 3 := by unfold cS; rw [v_o (by omega)]
  rw [e5, show (vI (cS T5 p N1 1 v) 0 3).toNat = a by omega, y4' l 0 hl (by omega)]
  refine ⟨by omega, by omega, by omega, by omega, fun _ => ?_, fun z => by omega⟩
  refine w_X7_binder_47 (d := d + 1) ?_
  unfold f_X7_binder_47
  refine ⟨by omega, fun _ => ?_, fun z => by omega⟩
  refine w_X7_binder_79 (d := d + 1) ?_
  unfold f_X7_binder_79
  exact ⟨fun z => by have := hF5'.2.1; omega, fun _ => ⟨rfl, kN _ hF5'⟩⟩
theorem wf_c6 {f l e : Nat} {up : Int} {vs : List Nat} {v0 v1 f0 f1 : Nat} (h : wf c f l e up vs v0 v1 f0 f1) : c l 6 = up := by
  cases f with
  | zero => exact h.elim
  | succ f => exact h.1
/-- copying a stretch as it is -/
theorem cp_plain (hp : rPa T0 a c n nv nf) (hpa : p + a = 1) : ∀ (f l e : Nat) (up : Int) (us : List Nat) (v0 v1 f0 f1 : Nat) (l3 : Int), wf c f l e up us v0 v1 f0 f1 → (∀ x, x ∈ us → x < v0) → e ≤ n → A ≤ l → Av ≤ v0 → okI l3 → (l3 < (l : Int) ∨ (e : Int) ≤ l3) → (∀ y, v0 ≤ y → y < v1 → R y = y + Bv - Av) → cpG sa b E (d + 2 * f + 4) T0 p c A B Av Bv R l3 l e us v0 v1 f0 f1 := by
  have hn := hp.1.1
  have hnv := hp.1.2.1
  have hp2 : p < 2 := by omega
  intro f
  induction f with
  | zero => intro l e up us v0 v1 f0 f1 l3 h; exact h.elim
  | succ f ih =>
    intro l e up us v0 v1 f0 f1 l3 h hus hen hA hAv h3 hl3 hR
    have hlt := wf_lt _ _ _ _ _ _ _ _ _ h
    have hcn := wf_cnt _ _ _ _ _ _ _ _ _ h
    have hl : l < n := by omega
    have wfl := (hp.1.flat.2.2.2 l hl).1
    intro T q1 part φ hS hpart hu kY kN
    obtain ⟨_, h⟩ := h
    have ok0 : okI (c l 0) := by have := wfl.1; unfold okI; omega
    have okp : okI part := by unfold okI; omega
    rw [show d + 2 * (f + 1) + 4 = d + 2 * f + 4 + 2 by omega]
    have ffn : fn1 c l ≤ f1 - f0 := by
      unfold fn1
      split
      · rename_i q
        have := fcn_mono (c := c) (show l + 1 ≤ e by omega)
        rw [fcn, if_pos q] at this
        omega
      · omega
    have n200 : l + B - A < 200 → l + B - A + 1 = l + 1 + B - A := fun _ => by omega
    have hne : (l : Int) ≠ l3 := by clear h; omega
    refine cp_head (d := d + 2 * f + 4) hp hpa hS hl h3 hne (fun hn1 hq T1 hS1 hI1 => ?_) (fun hno T' hF => kN (by clear h; omega) _ T' hF (by clear h; unfold okI; omega))
    have r27 : ∀ y, vI T1 27 y = vI T 27 y := fun y => by unfold vI; rw [hI1 27 y (by omega)]
    have r4 : ∀ i, vI T1 4 i = vI T 4 i := fun i => by unfold vI; rw [hI1 4 i (by omega)]
    have okv : okI (vl1 T c l) := by
      unfold vl1
      split
      · exact ⟨vI_lo _ _ _, vI_hi _ _ _⟩
      · split
        · rename_i z; have := wfl.2.2.2.2.2.2.2.2.2.2.2 z; unfold okI; omega
        · unfold okI; omega
    refine k_beg' hp2 hS1 hn1 (fun hS2 => ?_)
    generalize hT2 : mBeg T1 p (l + B - A) (zI (c l 0)) (zI (vl1 T c l)) (zI part) = T2 at hS2
    have row2 : cR T2 p (l + B - A) (xTok (c l 0) (vl1 T c l) (-1) (-1) (-1) (-1) part) := by rw [← hT2]; exact cR_beg ok0 okv okp
    have e02 : cE T T2 p (l + B - A) := by rw [← hT2]; exact cE.trans' (T' := T1) (fun m w hm hw => r4 _) cE_beg
    have t27 : ∀ y, vI T2 27 y = vI T 27 y := fun y => by rw [← hT2, v27_beg, r27]
    rw [show l + B - A + 1 = l + 1 + B - A by omega] at hS2
    have i2 : vI T2 0 3 = (a : Int) := ((cp_P hp hpa hS2.1).2.1).2.1
    have ha := (cp_P hp hpa hS2.1).2.1.1
    -- a node without parts
    have leaf : c l 3 = -1 → c l 4 = -1 → c l 5 = -1 → e = l + 1 → v1 = v0 → f1 = f0 → (∀ w, w < 7 → xTok (c l 0) (vl1 T c l) (-1) (-1) (-1) (-1) part w = mvC c A B Av Bv R part l l w) → fn1 c l = 0 → gW (tP sa) lM b E (d + 2 * f + 4 + 1 + 1) mX7_copy 288 [some (.ref (b + 0)), some (.int (zI (l : Int))), some (.int (zI part)), some (.int (zI l3)), some (.int (zI (p : Int))), some (.int (zI (c l 0))), some (.int (zI (fn1 c l : Int))), some (.int (zI ((l + B - A : Nat) : Int))), some (.int (zI 3)), none, none] [] T2 (fun r T' => pI r (fun v => φ v T')) := by
      intro k3 k4 k5 he hv hf ht hfn
      refine lp_one (d := d + 2 * f + 4) (k := 3) hp hpa hS2.1 hl hn1 (by omega) (Or.inl rfl) (fun _ => ?_) (fun z => absurd k3 z)
      refine lp_one (d := d + 2 * f + 4) (k := 4) hp hpa hS2.1 hl hn1 (by omega) (Or.inl rfl) (fun _ => ?_) (fun z => absurd k4 z)
      refine lp_one (d := d + 2 * f + 4) (k := 5) hp hpa hS2.1 hl hn1 (by omega) (Or.inl rfl) (fun _ => ?_) (fun z => absurd k5 z)
      refine lp_end (Or.inl rfl) ⟨_, rfl, kY ?_ T2 ?_ ?_ e02 t27⟩
      · have := hS.2.2.2.2.1; have := hS.2.2.2.2.2.2.1; subst hv hf he; exact ⟨by omega, by omega, by omega⟩
      · subst hv hf he; rw [hfn] at hS2; rw [show q1 + f1 - f1 = q1 by omega]; exact hS2
      · rw [he]; exact CM.one row2 ht
    have hgN : ∀ {x1 x0 : Nat}, ¬ (e + B - A ≤ 200 ∧ v1 + Bv - Av ≤ 100 ∧ q1 + fn1 c l + x1 - x0 ≤ 50) → x0 = f0 + fn1 c l → x1 = f1 → ¬ (e + B - A ≤ 200 ∧ v1 + Bv - Av ≤ 100 ∧ q1 + f1 - f0 ≤ 50) := by
      intro x1 x0 z z1 z2; clear h; subst z1 z2; omega
    rcases h with h | h | h | h | h | h | h
    · obtain ⟨k, ⟨x, x1, x2⟩, k2, k3, k4, k5, h1, h2, h3'⟩ := h
      refine ⟨fun _ => ⟨fun z => by omega, fun _ => ⟨fun _ => ?_, fun z => by omega⟩⟩, fun z => by omega⟩
      refine leaf k3 k4 k5 h1 h2 h3' (seven rfl ?_ ?_ (fun w w3 w5 => ?_) rfl) (by unfold fn1; rw [if_neg (by omega)])
      · show vl1 T c l = _
        unfold vl1
        rw [if_pos k, if_neg (by omega), if_pos k, x2, Int.toNat_natCast]
        exact hu x x1 ⟨l, Nat.le_refl _, by omega, k, x2⟩
      · rw [if_neg (by omega)]; rfl
      · have : w = 3 ∨ w = 4 ∨ w = 5 := by omega
        rcases this with e | e | e <;> subst e
        · rw [if_pos k3]; rfl
        · rw [if_pos k4]; rfl
        · rw [if_pos k5]; rfl
    · obtain ⟨k, k1, k2, k3, k4, k5, h1, h2, h3'⟩ := h
      refine ⟨fun _ => ⟨fun z => by omega, fun _ => ⟨fun _ => ?_, fun z => by omega⟩⟩, fun z => by omega⟩
      refine leaf k3 k4 k5 h1 h2 h3' (seven rfl ?_ ?_ (fun w w3 w5 => ?_) rfl) (by unfold fn1; rw [if_neg (by omega)])
      · show vl1 T c l = _
        unfold vl1
        rw [if_neg (by omega), if_pos k, if_pos k]
      · rw [if_neg (by omega)]; rfl
      · have : w = 3 ∨ w = 4 ∨ w = 5 := by omega
        rcases this with e | e | e <;> subst e
        · rw [if_pos k3]; rfl
        · rw [if_pos k4]; rfl
        · rw [if_pos k5]; rfl
    · obtain ⟨k, k1, k2, k3, k4, k5, h1⟩ := h
      have hfn : fn1 c l = 1 := by unfold fn1; rw [if_pos (Or.inl k)]
      have w1' := wf_lt _ _ _ _ _ _ _ _ _ h1
      have c6 := wf_c6 h1
      have hIH := ih (l + 1) e _ _ _ _ _ _ l3 h1 (fun x hx => by
        rcases List.mem_cons.mp hx with z | z
        · omega
        · have := hus x z; omega) hen (by omega) (by omega) h3 (by omega) (fun y y1 y2 => hR y (by omega) y2)
      have bind := k_binder3 (d := d + 2 * f + 2) (T := T2) (φ := fun T' => φ ((l + B - A : Nat) : Int) T') hp hpa hS2 hl (Or.inl k) k1 hA w1'.1 (by omega) (by omega) (by omega) hn1 (hR v0 (Nat.le_refl _) (by omega)) hIH (fun y y1 ⟨q, a1, a2, a3⟩ _ => by rw [t27]; exact hu y y1 ⟨q, by omega, a2, a3⟩) (fun hfit T' hS' hCM hrow hcE h27 => ?_) (fun hno T' hF => kN (hgN hno (by omega) rfl) _ T' hF (by unfold okI; omega))
      · exact ⟨fun _ => ⟨fun _ => bind, fun z => absurd k z⟩, fun z => by omega⟩
      · rw [hfn] at hfit hS'
        refine kY ⟨hfit.1, hfit.2.1, by omega⟩ T' ?_ (CM.cat (CM.one (hrow _ row2) (seven rfl ?_ ?_ (fun w w3 w5 => ?_) rfl)) (hCM.up c6 (by omega) hA)) (e02.trans' hcE) (fun y => (h27 y).trans (t27 y))
        · rw [show q1 + 1 + f1 - (f0 + 1) = q1 + f1 - f0 by omega] at hS'; exact hS'
        · rw [if_neg (by omega), if_neg (by omega), if_pos (Or.inl k), k1]
          show ((v0 + Bv - Av : Nat) : Int) = _
          omega
        · rw [if_neg (by omega)]; rfl
        · have : w = 3 ∨ w = 4 ∨ w = 5 := by omega
          rcases this with e | e | e <;> subst e
          · rw [if_neg (by omega), k3]; show ((l + 1 + B - A : Nat) : Int) = _; omega
          · rw [if_pos k4]; rfl
          · rw [if_pos k5]; rfl
    · obtain ⟨k, k1, k2, k3, k4, k5, h1⟩ := h
      have hfn : fn1 c l = 1 := by unfold fn1; rw [if_pos (Or.inr k)]
      have w1' := wf_lt _ _ _ _ _ _ _ _ _ h1
      have c6 := wf_c6 h1
      have u2 := wfl.2.2.1 k
      have hIH := ih (l + 1) e _ _ _ _ _ _ l3 h1 (fun x hx => by
        rcases List.mem_cons.mp hx with z | z
        · omega
        · rcases List.mem_cons.mp z with z | z
          · omega
          · have := hus x z; omega) hen (by omega) (by omega) h3 (by omega) (fun y y1 y2 => hR y (by omega) y2)
      obtain ⟨j1, j2, j3, j4, _⟩ := (cp_P hp hpa hS2.1).2.1
      refine ⟨fun z => absurd k z, fun _ => ?_⟩
      rw [show (vI T2 0 3).toNat = a by omega, j4 l 2 hl (by omega), k2, Int.toNat_natCast, Int.toNat_natCast]
      refine ⟨by omega, by omega, by omega, by omega, ?_⟩
      refine k_fresh (d := d + 2 * f + 4 + 1) ha hpa i2 hS2 (fun hm T3 hS3 hI3 => ⟨by omega, by omega, ?_⟩) (fun hm T3 hF => ⟨by omega, by omega, ?_⟩)
      · have s27 : ∀ y, vI T3 27 y = vI T2 27 y := fun y => by unfold vI; rw [hI3 27 y (by omega) (by omega)]
        have s4 : ∀ i, vI T3 4 i = vI T2 4 i := fun i => by unfold vI; rw [hI3 4 i (by omega) (by omega)]
        have hS4 := (hS3.cst (l := l + B - A) (w := 2) (x := ((v0 + Bv - Av : Nat) : Int)) hn1 (by omega)).row (i := v0) (x := zI ((v0 + Bv - Av : Nat) : Int))
        generalize hT4 : gI (cS T3 p (l + B - A) 2 ((v0 + Bv - Av : Nat) : Int)) 27 v0 (zI ((v0 + Bv - Av : Nat) : Int)) = T4 at hS4
        have q27 : ∀ y, vI T4 27 y = if y = v0 then ((v0 + Bv - Av : Nat) : Int) else vI T 27 y := fun y => by
          rw [← hT4, v27_s (by unfold okI; omega), v27_cS, s27, t27]
        have row4 : cR T4 p (l + B - A) (tokS (xTok (c l 0) (vl1 T c l) (-1) (-1) (-1) (-1) part) 2 ((v0 + Bv - Av : Nat) : Int)) := by
          rw [← hT4]; exact cR_row (cR_cS (row2.of4 s4) (by omega) (by omega))
        have e24 : cE T2 T4 p (l + B - A) := by rw [← hT4]; exact cE.trans' (T' := T3) (fun m w hm hw => s4 _) (cE.trans' cE_cS cE_row)
        refine k_binder3 (d := d + 2 * f + 2) (T := T4) hp hpa hS4 hl (Or.inr k) k1 hA w1'.1 (by omega) (by omega) (by omega) hn1 ?_ hIH (fun y y1 ⟨q, a1, a2, a3⟩ yx => ?_) (fun hfit T' hS' hCM hrow hcE h27 => ?_) (fun hno T' hF => kN (hgN hno (by omega) rfl) _ _ (cpF.row hF) (by unfold okI; omega))
        · rw [hR (v0 + 1) (by omega) (by omega)]; omega
        · rw [q27]
          rcases List.mem_cons.mp y1 with z | z
          · rw [if_pos z, z, hR v0 (Nat.le_refl _) (by omega)]
          · have := hus y z
            rw [if_neg (by omega)]; exact hu y z ⟨q, by omega, a2, a3⟩
        · rw [hfn] at hfit hS'
          refine kY ⟨hfit.1, hfit.2.1, by omega⟩ _ ?_ (CM.row (CM.cat (CM.one (hrow _ row4) (seven rfl ?_ ?_ (fun w w3 w5 => ?_) rfl)) (hCM.up c6 (by omega) hA))) ((e02.trans' (e24.trans' hcE)).trans' cE_row) (fun y => ?_)
          · rw [show q1 + 1 + f1 - (f0 + 1) = q1 + f1 - f0 by omega] at hS'; exact hS'.row
          · rw [if_neg (by omega), if_neg (by omega), if_pos (Or.inr (Or.inl k)), k1]
            show ((v0 + Bv - Av + 1 : Nat) : Int) = _
            omega
          · rw [if_pos k, k2]
            show ((v0 + Bv - Av : Nat) : Int) = _
            omega
          · have : w = 3 ∨ w = 4 ∨ w = 5 := by omega
            rcases this with e | e | e <;> subst e
            · rw [if_neg (by omega), k3]; show ((l + 1 + B - A : Nat) : Int) = _; omega
            · rw [if_pos k4]; rfl
            · rw [if_pos k5]; rfl
          · rw [v27_s ⟨vI_lo _ _ _, vI_hi _ _ _⟩, h27, q27]
            by_cases ey : y = v0
            · rw [if_pos ey, ey, t27]
            · rw [if_neg ey, if_neg ey]
      · -- no room for f: the binder goes on without
        have hF1 := (hF.cst (l := l + B - A) (w := 2) (x := 100) hn1 (by omega)).row (i := v0) (x := zI 100)
        generalize gI (cS T3 p (l + B - A) 2 100) 27 v0 (zI 100) = T4 at hF1
        have hno : ¬ (e + B - A ≤ 200 ∧ v1 + Bv - Av ≤ 100 ∧ q1 + f1 - f0 ≤ 50) := by omega
        exact k_binderF3 (d := d + 2 * f + 2) hp hpa hF1 hl hn1 (Or.inr k) (fun T' hF' => kN hno _ _ (cpF.row hF') (by unfold okI; omega))
    · obtain ⟨k, k1, k2, k3, k5, m, v, g, k4, h1, h2⟩ := h
      have hfn : fn1 c l = 0 := by unfold fn1; rw [if_neg (by omega)]
      have w1' := wf_lt _ _ _ _ _ _ _ _ _ h1
      have w2' := wf_lt _ _ _ _ _ _ _ _ _ h2
      have c6 := wf_c6 h1
      have c6' := wf_c6 h2
      have hIH := ih (l + 1) m _ _ _ _ _ _ l3 h1 (fun x hx => by have := hus x hx; omega) (by omega) (by omega) (by omega) h3 (by omega) (fun y y1 y2 => hR y (by omega) (by omega))
      have hIH2 := ih m e _ _ _ _ _ _ l3 h2 (fun x hx => by
        rcases List.mem_cons.mp hx with z | z
        · omega
        · have := hus x z; omega) hen (by omega) (by omega) h3 (by omega) (fun y y1 y2 => hR y (by omega) y2)
      have bind := k_binder5 (d := d + 2 * f + 2) (T := T2) (φ := fun T' => φ ((l + B - A : Nat) : Int) T') hp hpa hS2 hl k k1 k4 hA (by omega) (by omega) (by omega) (by omega) (by omega) (by omega) hn1 (hR v0 (Nat.le_refl _) (by omega)) hIH hIH2 (fun y y1 ⟨q, a1, a2, a3⟩ => ⟨by have := hus y y1; omega, by rw [t27]; exact hu y y1 ⟨q, by omega, a2, a3⟩⟩) (fun hfit T' hS' hCM hCM2 hrow hcE h27 => ?_) (fun hno T' hF => kN (hgN hno (by omega) rfl) _ T' hF (by unfold okI; omega))
      · exact ⟨fun _ => ⟨fun z => by omega, fun _ => ⟨fun z => absurd k z, fun _ => bind⟩⟩, fun z => by omega⟩
      · rw [hfn] at hfit hS'
        refine kY ⟨hfit.1, hfit.2.1, by omega⟩ T' ?_ (CM.cat (CM.cat (CM.one (hrow _ row2) (seven rfl ?_ ?_ (fun w w3 w5 => ?_) rfl)) (hCM.up c6 (by omega) hA)) (hCM2.up c6' (by omega) hA)) (e02.trans' hcE) (fun y => (h27 y).trans (t27 y))
        · rw [show q1 + 0 + f1 - f0 = q1 + f1 - f0 by omega] at hS'; exact hS'
        · rw [if_neg (by omega), if_neg (by omega), if_pos (Or.inr (Or.inr k)), k1]
          show ((v0 + Bv - Av : Nat) : Int) = _
          omega
        · rw [if_neg (by omega)]; rfl
        · have : w = 3 ∨ w = 4 ∨ w = 5 := by omega
          rcases this with e | e | e <;> subst e
          · rw [if_neg (by omega), k3]; show ((l + 1 + B - A : Nat) : Int) = _; omega
          · rw [if_neg (by omega), k4]; show ((m + B - A : Nat) : Int) = _; omega
          · rw [if_pos k5]; rfl
    · obtain ⟨k, k1, k2, k3, m, v, g, m2, v2, g2, k4, k5, h1, h2, h3'⟩ := h
      have hfn : fn1 c l = 0 := by unfold fn1; rw [if_neg (by omega)]
      have w1' := wf_lt _ _ _ _ _ _ _ _ _ h1
      have w2' := wf_lt _ _ _ _ _ _ _ _ _ h2
      have w3' := wf_lt _ _ _ _ _ _ _ _ _ h3'
      have c6 := wf_c6 h1
      have c6' := wf_c6 h2
      have c6'' := wf_c6 h3'
      have hIH := ih (l + 1) m _ _ _ _ _ _ l3 h1 hus (by omega) (by omega) (by omega) h3 (by omega) (fun y y1 y2 => hR y (by omega) (by omega))
      have hIH2 := ih m m2 _ _ _ _ _ _ l3 h2 (fun x hx => by have := hus x hx; omega) (by omega) (by omega) (by omega) h3 (by omega) (fun y y1 y2 => hR y (by omega) (by omega))
      have hIH3 := ih m2 e _ _ _ _ _ _ l3 h3' (fun x hx => by have := hus x hx; omega) (by omega) (by omega) (by omega) h3 (by omega) (fun y y1 y2 => hR y (by omega) (by omega))
      have dd : d + 2 * f + 4 ≤ d + 2 * f + 2 + 3 := by omega
      refine ⟨fun _ => ⟨fun z => by omega, fun _ => ⟨fun _ => ?_, fun z => by omega⟩⟩, fun z => by omega⟩
      refine lp_three (d := d + 2 * f + 2) (T := T2) hp hpa hS2 hl hA k3 k4 k5 (by omega) (by omega) (by omega) (by omega) (by omega) hAv hn1 (hIH.mono dd) (hIH2.mono dd) (hIH3.mono dd) (fun y y1 ⟨q, a1, a2, a3⟩ => by rw [t27]; exact hu y y1 ⟨q, by omega, a2, a3⟩) (fun hfit T' hS' hCM hCM2 hCM3 hrow hcE h27 => ?_) (fun hno T' hF => kN (hgN hno (by omega) rfl) _ T' hF (by unfold okI; omega))
      rw [hfn] at hfit hS'
      refine kY ⟨hfit.1, hfit.2.1, by omega⟩ T' ?_ (CM.cat (CM.cat (CM.cat (CM.one (hrow _ row2) (seven rfl ?_ ?_ (fun w w3 w5 => ?_) rfl)) (hCM.up c6 (by omega) hA)) (hCM2.up c6' (by omega) hA)) (hCM3.up c6'' (by omega) hA)) (e02.trans' hcE) (fun y => (h27 y).trans (t27 y))
      · rw [show q1 + 0 + f1 - f0 = q1 + f1 - f0 by omega] at hS'; exact hS'
      · show vl1 T c l = _
        unfold vl1
        rw [if_neg (by omega), if_neg (by omega), if_neg (by omega), if_neg (by omega), if_neg (by omega)]
      · rw [if_neg (by omega)]; rfl
      · have : w = 3 ∨ w = 4 ∨ w = 5 := by omega
        rcases this with e | e | e <;> subst e
        · rw [if_neg (by omega), k3]; show ((l + 1 + B - A : Nat) : Int) = _; omega
        · rw [if_neg (by omega), k4]; show ((m + B - A : Nat) : Int) = _; omega
        · rw [if_neg (by omega), k5]; show ((m2 + B - A : Nat) : Int) = _; omega
    · obtain ⟨k, k1, k2, k3, k5, m, v, g, k4, h1, h2⟩ := h
      have hfn : fn1 c l = 0 := by unfold fn1; rw [if_neg (by omega)]
      have w1' := wf_lt _ _ _ _ _ _ _ _ _ h1
      have w2' := wf_lt _ _ _ _ _ _ _ _ _ h2
      have c6 := wf_c6 h1
      have c6' := wf_c6 h2
      have hIH := (ih (l + 1) m _ _ _ _ _ _ l3 h1 hus (by omega) (by omega) (by omega) h3 (by omega) (fun y y1 y2 => hR y (by omega) (by omega))).mono (show d + 2 * f + 4 ≤ d + 2 * f + 4 + 1 by omega)
      have hIH2 := (ih m e _ _ _ _ _ _ l3 h2 (fun x hx => by have := hus x hx; omega) (by omega) (by omega) (by omega) h3 (by omega) (fun y y1 y2 => hR y (by omega) (by omega))).mono (show d + 2 * f + 4 ≤ d + 2 * f + 4 + 1 by omega)
      refine ⟨fun _ => ⟨fun z => by omega, fun _ => ⟨fun _ => ?_, fun z => by omega⟩⟩, fun z => by omega⟩
      refine lp_two (d := d + 2 * f + 2) (T := T2) hp hpa hS2 hl hA k3 k4 k5 (by omega) (by omega) (by omega) (by omega) hAv hn1 hIH hIH2 (fun y y1 ⟨q, a1, a2, a3⟩ => by rw [t27]; exact hu y y1 ⟨q, by omega, a2, a3⟩) (fun hfit T' hS' hCM hCM2 hrow hcE h27 => ?_) (fun hno T' hF => kN (hgN hno (by omega) rfl) _ T' hF (by unfold okI; omega))
      rw [hfn] at hfit hS'
      refine kY ⟨hfit.1, hfit.2.1, by omega⟩ T' ?_ (CM.cat (CM.cat (CM.one (hrow _ row2) (seven rfl ?_ ?_ (fun w w3 w5 => ?_) rfl)) (hCM.up c6 (by omega) hA)) (hCM2.up c6' (by omega) hA)) (e02.trans' hcE) (fun y => (h27 y).trans (t27 y))
      · rw [show q1 + 0 + f1 - f0 = q1 + f1 - f0 by omega] at hS'; exact hS'
      · show vl1 T c l = _
        unfold vl1
        rw [if_neg (by omega), if_neg (by omega), if_neg (by omega), if_neg (by omega), if_neg (by omega)]
      · rw [if_neg (by omega)]; rfl
      · have : w = 3 ∨ w = 4 ∨ w = 5 := by omega
        rcases this with e | e | e <;> subst e
        · rw [if_neg (by omega), k3]; show ((l + 1 + B - A : Nat) : Int) = _; omega
        · rw [if_neg (by omega), k4]; show ((m + B - A : Nat) : Int) = _; omega
        · rw [if_pos k5]; rfl
end CS4
