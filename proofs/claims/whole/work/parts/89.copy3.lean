section CRR
variable {sa : Nat → Nat} {b : Nat} {E : Nat × mH} {d : Nat} {T0 T T' : gT} {a p : Nat} {c : Nat → Nat → Int} {n nv nf n1 m1 q1 : Nat} {A B Av Bv : Nat} {R : Nat → Nat}
/-- a stretch is copied as it is -/
def cpG (sa : Nat → Nat) (b : Nat) (E : Nat × mH) (D : Nat) (T0 : gT) (p : Nat) (c : Nat → Nat → Int) (A B Av Bv : Nat) (R : Nat → Nat) (l3 : Int) (l e : Nat) (us : List Nat) (v0 v1 f0 f1 : Nat) : Prop :=
  ∀ (T : gT) (q1 : Nat) (part : Int) (φ : Int → gT → Prop), cpS T0 T p (l + B - A) (v0 + Bv - Av) q1 → (-1 ≤ part ∧ part < 200) → (∀ y, y ∈ us → metI c l e y → vI T 27 y = (R y : Int)) →
  ((e + B - A ≤ 200 ∧ v1 + Bv - Av ≤ 100 ∧ q1 + f1 - f0 ≤ 50) → ∀ T', cpS T0 T' p (e + B - A) (v1 + Bv - Av) (q1 + f1 - f0) → CM T' p c A B Av Bv R part l l e → cE T T' p (l + B - A) → (∀ y, vI T' 27 y = vI T 27 y) → φ ((l + B - A : Nat) : Int) T') →
  (¬ (e + B - A ≤ 200 ∧ v1 + Bv - Av ≤ 100 ∧ q1 + f1 - f0 ≤ 50) → ∀ v T', cpF T0 T' p → okI v → φ v T') →
  gC (tP sa) lM b E D mX7_copy [.ref (b + 0), .int (zI (l : Int)), .int (zI part), .int (zI l3)] T (fun r T' => pI r (fun v => φ v T'))
theorem cE.trans' {T T' T'' : gT} {l : Nat} (h : cE T T' p l) (h2 : cE T' T'' p l) : cE T T'' p l := fun m w hm hw => (h2 m w hm hw).trans (h m w hm hw)
theorem cE_cS {l w : Nat} {x : Int} : cE T (cS T p l w x) p l := fun m w2 hm hw => by unfold cS cV; rw [v_o (by omega)]
theorem cE_row {l i : Nat} {x : Int32} : cE T (gI T 27 i x) p l := fun m w2 hm hw => by unfold cV; rw [v_o (by omega)]
theorem CM.cE {up : Int} {l x y k : Nat} (h : CM T p c A B Av Bv R up l x y) (h2 : cE T T' p k) (hk : y + B - A ≤ k) (hA : A ≤ x) : CM T' p c A B Av Bv R up l x y := fun j j1 j2 w hw => (h2 _ w (by omega) hw).trans (h j j1 j2 w hw)
theorem CM.cst {up : Int} {l x y k w : Nat} {z : Int} (h : CM T p c A B Av Bv R up l x y) (hk : k < x + B - A) (hA : A ≤ x) (hw : w < 7) : CM (cS T p k w z) p c A B Av Bv R up l x y := fun j j1 j2 w2 hw2 => by
  have := h j j1 j2 w2 hw2
  rw [← this]; unfold cS cV; rw [v_o (by omega)]
theorem CM.row {up : Int} {l x y i : Nat} {z : Int32} (h : CM T p c A B Av Bv R up l x y) : CM (gI T 27 i z) p c A B Av Bv R up l x y := fun j j1 j2 w2 hw2 => by
  have := h j j1 j2 w2 hw2
  rw [← this]; unfold cV; rw [v_o (by omega)]
theorem v27_cS {l w y : Nat} {x : Int} : vI (cS T p l w x) 27 y = vI T 27 y := by unfold cS; rw [v_o (by omega)]
theorem v27_s {y i : Nat} {z : Int} (hz : okI z) : vI (gI T 27 i (zI z)) 27 y = if y = i then z else vI T 27 y := by
  by_cases e : y = i
  · rw [e, v_s hz, if_pos rfl]
  · rw [v_o (by omega), if_neg e]
theorem cR_row {l i : Nat} {z : Int32} {t : Nat → Int} (h : cR T p l t) : cR (gI T 27 i z) p l t := fun w hw => by
  have := h w hw
  rw [← this]; unfold cV; rw [v_o (by omega)]
/-- a binder with one part -/
theorem k_binder3 (hp : rPa T0 a c n nv nf) (hpa : p + a = 1) {l e x : Nat} {l3 : Int} {us : List Nat} {w0 w1 x0 x1 : Nat} {φ : gT → Prop} (h : cpS T0 T p (l + 1 + B - A) m1 q1) (hl : l < n) (hk : c l 0 = 2 ∨ c l 0 = 3) (hx : c l 1 = (x : Int)) (hA : A ≤ l) (hle : l + 1 < e) (hw0 : w0 + Bv - Av = m1 + 1) (hw01 : w0 ≤ w1) (hAv : Av ≤ w0) (hN : l + B - A < 200) (hR : R x = m1)
    (hIH : cpG sa b E (d + 2) T0 p c A B Av Bv R l3 (l + 1) e (x :: us) w0 w1 x0 x1) (hu : ∀ y, y ∈ us → metI c (l + 1) e y → y ≠ x → vI T 27 y = (R y : Int))
    (kY : (e + B - A ≤ 200 ∧ w1 + Bv - Av ≤ 100 ∧ q1 + x1 - x0 ≤ 50) → ∀ T', cpS T0 T' p (e + B - A) (w1 + Bv - Av) (q1 + x1 - x0) → CM T' p c A B Av Bv R ((l + B - A : Nat) : Int) (l + 1) (l + 1) e → (∀ t, cR T p (l + B - A) t → cR T' p (l + B - A) (tokS (tokS t 1 (m1 : Int)) 3 ((l + 1 + B - A : Nat) : Int))) → cE T T' p (l + B - A) → (∀ y, vI T' 27 y = vI T 27 y) → φ T')
    (kN : ¬ (e + B - A ≤ 200 ∧ w1 + Bv - Av ≤ 100 ∧ q1 + x1 - x0 ≤ 50) → ∀ T', cpF T0 T' p → φ T') :
    gC (tP sa) lM b E (d + 3) mX7_binder [.ref (b + 0), .int (zI (l : Int)), .int (zI ((l + B - A : Nat) : Int)), .int (zI l3)] T (fun r T' => pV r (φ T')) := by
  have hn := hp.1.1
  have hnv := hp.1.2.1
  have u1 := (hp.1.flat.2.2.2 l hl).1.2.1 (by omega)
  have u3 := (hp.1.flat.2.2.2 l hl).1.2.2.2.1 (by omega)
  obtain ⟨i1, i2, i3, i4, i5, _⟩ := (cp_P hp hpa h.1).2.1
  have e1p : 1 - vI T 0 3 = (p : Int) := by omega
  refine w_X7_binder (d := d + 1) ?_
  unfold f_X7_binder
  rw [e1p, show (vI T 0 3).toNat = a by omega, Int.toNat_natCast, Int.toNat_natCast, Int.toNat_natCast, i4 l 1 hl (by omega), hx]
  have fin : ∀ (T2 : gT) (v : Int), cR T2 p 0 (fun _ => 0) ∨ True → okI v → fr (Wk p) T0 T2 → cV (cS T2 p (l + B - A) 1 v) (vI T2 0 3).toNat l 0 = c l 0 := by
    intro T2 v _ hv hf
    obtain ⟨j1, j2, j3, j4, _⟩ := (cp_P hp hpa (T := cS T2 p (l + B - A) 1 v) (hf.gI (Or.inr (Or.inr (Or.inl ⟨rfl, by omega, by omega⟩))))).2.1
    have : vI T2 0 3 = vI (cS T2 p (l + B - A) 1 v) 0 3 := by unfold cS; rw [v_o (by omega)]
    rw [this, show (vI (cS T2 p (l + B - A) 1 v) 0 3).toNat = a by omega]
    exact j4 l 0 hl (by omega)
  refine ⟨by omega, by omega, k_fresh (d := d + 2) i1 hpa i2 h (fun hm T2 h2 hI => ?_) (fun hm T2 hF => ?_)⟩
  · have hT3 : vI T2 0 3 = (a : Int) := by obtain ⟨j1, j2, _⟩ := (cp_P hp hpa h2.1).2.1; exact j2
    rw [fin T2 (m1 : Int) (Or.inr trivial) (by unfold okI; omega) h2.1]
    refine ⟨by omega, by omega, by omega, by omega, fun z5 => ?_, fun z5 => by omega⟩
    refine w_X7_binder_47 (d := d + 1) ?_
    unfold f_X7_binder_47
    refine ⟨by omega, fun _ => ?_, fun z => by omega⟩
    refine w_X7_binder_79 (d := d + 1) ?_
    unfold f_X7_binder_79
    have h2' := h2.cst (l := l + B - A) (w := 1) (x := (m1 : Int)) hN (by omega)
    obtain ⟨j1, j2, j3, j4, _⟩ := (cp_P hp hpa h2'.1).2.1
    rw [show (vI (cS T2 p (l + B - A) 1 (m1 : Int)) 0 3).toNat = a by omega, Int.toNat_natCast, Int.toNat_natCast, show (3 : Int).toNat = 3 from rfl, j4 l 3 hl (by omega), u3.1, show ((l : Int) + 1) = ((l + 1 : Nat) : Int) by omega, Int.toNat_natCast, Int.toNat_natCast]
    refine ⟨fun _ => ⟨by omega, by omega, by omega, by omega, by omega, ?_⟩, fun z => absurd h2'.2.2.2.2.2.2.2 z⟩
    have h3 := h2'.row (i := x) (x := zI (m1 : Int))
    rw [← hw0] at h3
    have r2 : ∀ y, vI T2 27 y = vI T 27 y := fun y => by unfold vI; rw [hI 27 y (by omega) (by omega)]
    have r4 : ∀ i, vI T2 4 i = vI T 4 i := fun i => by unfold vI; rw [hI 4 i (by omega) (by omega)]
    refine hIH _ q1 ((l + B - A : Nat) : Int) _ h3 (by omega) (fun y y1 y2 => ?_) (fun hfit T4 h4 hCM hcE h27 => ?_) (fun hno v T4 hF hv => ?_)
    · rw [v27_s (by unfold okI; omega)]
      by_cases ey : y = x
      · rw [if_pos ey, ey, hR]
      · rw [if_neg ey, v27_cS, r2]
        rcases List.mem_cons.mp y1 with z | z
        · exact absurd z ey
        · exact hu y z y2 ey
    · refine ⟨by omega, by omega, by omega, rfl, kY hfit _ (cpS.row (h4.cst hN (by omega))) (CM.row (hCM.cst (by omega) (by omega) (by omega))) (fun t ht => ?_) ?_ (fun y => ?_)⟩
      · refine cR_row (cR_cS ?_ (by omega) (by omega))
        refine cR.cE (T := gI (cS T2 p (l + B - A) 1 (m1 : Int)) 27 x (zI (m1 : Int))) (cR_row (cR_cS (ht.of4 r4) (by omega) (by omega))) hcE (by omega)
      · refine cE.trans' (T' := T4) ?_ (cE.trans' cE_cS cE_row)
        refine cE.trans' (T' := gI (cS T2 p (l + B - A) 1 (m1 : Int)) 27 x (zI (m1 : Int))) ?_ (fun m w hm hw => hcE m w (by omega) hw)
        refine cE.trans' (T' := T2) (fun m w hm hw => r4 _) (cE.trans' cE_cS cE_row)
      · rw [v27_s ⟨vI_lo _ _ _, vI_hi _ _ _⟩, v27_cS]
        by_cases ey : y = x
        · rw [if_pos ey, ey, r2]
        · rw [if_neg ey, v27_cS, h27, v27_s (by unfold okI; omega), if_neg ey, v27_cS, r2]
    · exact ⟨by omega, by omega, by omega, rfl, kN hno _ (cpF.row (hF.cst hN (by omega)))⟩
  · have hno : ¬ (e + B - A ≤ 200 ∧ w1 + Bv - Av ≤ 100 ∧ q1 + x1 - x0 ≤ 50) := by omega
    have hT3 : vI T2 0 3 = (a : Int) := by obtain ⟨j1, j2, _⟩ := (cp_P hp hpa hF.1).2.1; exact j2
    rw [fin T2 100 (Or.inr trivial) (by unfold okI; omega) hF.1]
    refine ⟨by omega, by omega, by omega, by omega, fun z5 => ?_, fun z5 => by omega⟩
    refine w_X7_binder_47 (d := d + 1) ?_
    unfold f_X7_binder_47
    refine ⟨by omega, fun _ => ?_, fun z => by omega⟩
    refine w_X7_binder_79 (d := d + 1) ?_
    unfold f_X7_binder_79
    have hF' := hF.cst (l := l + B - A) (w := 1) (x := 100) hN (by omega)
    exact ⟨fun z => by have := hF'.2.1; omega, fun _ => ⟨rfl, kN hno _ hF'⟩⟩
/-- a let -/
theorem k_binder5 (hp : rPa T0 a c n nv nf) (hpa : p + a = 1) {l e x m : Nat} {l3 : Int} {us : List Nat} {w0 wm w1 x0 xm x1 : Nat} {φ : gT → Prop} (h : cpS T0 T p (l + 1 + B - A) m1 q1) (hl : l < n) (hk : c l 0 = 5) (hx : c l 1 = (x : Int)) (hm4 : c l 4 = (m : Int)) (hA : A ≤ l) (hlm : l + 1 < m) (hme : m < e) (hw0 : w0 + Bv - Av = m1 + 1) (hw01 : w0 ≤ wm ∧ wm ≤ w1) (hx01 : x0 ≤ xm ∧ xm ≤ x1) (hAv : Av ≤ w0) (hN : l + B - A < 200) (hR : R x = m1)
    (hIH : cpG sa b E (d + 2) T0 p c A B Av Bv R l3 (l + 1) m us w0 wm x0 xm) (hIH2 : cpG sa b E (d + 2) T0 p c A B Av Bv R l3 m e (x :: us) wm w1 xm x1) (hu : ∀ y, y ∈ us → metI c (l + 1) e y → y ≠ x ∧ vI T 27 y = (R y : Int))
    (kY : (e + B - A ≤ 200 ∧ w1 + Bv - Av ≤ 100 ∧ q1 + x1 - x0 ≤ 50) → ∀ T', cpS T0 T' p (e + B - A) (w1 + Bv - Av) (q1 + x1 - x0) → CM T' p c A B Av Bv R ((l + B - A : Nat) : Int) (l + 1) (l + 1) m → CM T' p c A B Av Bv R ((l + B - A : Nat) : Int) m m e → (∀ t, cR T p (l + B - A) t → cR T' p (l + B - A) (tokS (tokS (tokS t 1 (m1 : Int)) 3 ((l + 1 + B - A : Nat) : Int)) 4 ((m + B - A : Nat) : Int))) → cE T T' p (l + B - A) → (∀ y, vI T' 27 y = vI T 27 y) → φ T')
    (kN : ¬ (e + B - A ≤ 200 ∧ w1 + Bv - Av ≤ 100 ∧ q1 + x1 - x0 ≤ 50) → ∀ T', cpF T0 T' p → φ T') :
    gC (tP sa) lM b E (d + 3) mX7_binder [.ref (b + 0), .int (zI (l : Int)), .int (zI ((l + B - A : Nat) : Int)), .int (zI l3)] T (fun r T' => pV r (φ T')) := by
  have hn := hp.1.1
  have hnv := hp.1.2.1
  have u1 := (hp.1.flat.2.2.2 l hl).1.2.1 (by omega)
  have u3 := (hp.1.flat.2.2.2 l hl).1.2.2.2.1 (by omega)
  obtain ⟨i1, i2, i3, i4, i5, _⟩ := (cp_P hp hpa h.1).2.1
  have e1p : 1 - vI T 0 3 = (p : Int) := by omega
  refine w_X7_binder (d := d + 1) ?_
  unfold f_X7_binder
  rw [e1p, show (vI T 0 3).toNat = a by omega, Int.toNat_natCast, Int.toNat_natCast, Int.toNat_natCast, i4 l 1 hl (by omega), hx]
  have fin : ∀ (T2 : gT) (v : Int), fr (Wk p) T0 T2 → cV (cS T2 p (l + B - A) 1 v) (vI T2 0 3).toNat l 0 = c l 0 := by
    intro T2 v hf
    obtain ⟨j1, j2, j3, j4, _⟩ := (cp_P hp hpa (T := cS T2 p (l + B - A) 1 v) (hf.gI (Or.inr (Or.inr (Or.inl ⟨rfl, by omega, by omega⟩))))).2.1
    have : vI T2 0 3 = vI (cS T2 p (l + B - A) 1 v) 0 3 := by unfold cS; rw [v_o (by omega)]
    rw [this, show (vI (cS T2 p (l + B - A) 1 v) 0 3).toNat = a by omega]
    exact j4 l 0 hl (by omega)
  refine ⟨by omega, by omega, k_fresh (d := d + 2) i1 hpa i2 h (fun hm T2 h2 hI => ?_) (fun hm T2 hF => ?_)⟩
  · have hT3 : vI T2 0 3 = (a : Int) := by obtain ⟨j1, j2, _⟩ := (cp_P hp hpa h2.1).2.1; exact j2
    rw [fin T2 (m1 : Int) h2.1]
    refine ⟨by omega, by omega, by omega, by omega, fun z5 => absurd hk z5, fun z5 => ?_⟩
    refine w_X7_binder_47 (d := d + 1) ?_
    unfold f_X7_binder_47
    have h2' := h2.cst (l := l + B - A) (w := 1) (x := (m1 : Int)) hN (by omega)
    obtain ⟨j1, j2, j3, j4, _⟩ := (cp_P hp hpa h2'.1).2.1
    rw [show (vI (cS T2 p (l + B - A) 1 (m1 : Int)) 0 3).toNat = a by omega, Int.toNat_natCast, Int.toNat_natCast, Int.toNat_natCast, j4 l 3 hl (by omega), u3.1, show ((l : Int) + 1) = ((l + 1 : Nat) : Int) by omega]
    refine ⟨by omega, fun z => absurd rfl z, fun _ => ⟨by omega, by omega, ?_⟩⟩
    have r2 : ∀ y, vI T2 27 y = vI T 27 y := fun y => by unfold vI; rw [hI 27 y (by omega) (by omega)]
    have r4 : ∀ i, vI T2 4 i = vI T 4 i := fun i => by unfold vI; rw [hI 4 i (by omega) (by omega)]
    have h3 := h2'
    rw [← hw0] at h3
    refine hIH _ q1 ((l + B - A : Nat) : Int) _ h3 (by omega) (fun y y1 ⟨k, k1, k2, k3⟩ => ?_) (fun hfit T4 h4 hCM hcE h27 => ⟨by omega, by omega, ?_⟩) (fun hno v T4 hF hv => ⟨by omega, by omega, ?_⟩)
    · rw [v27_cS, r2]; exact (hu y y1 ⟨k, k1, by omega, k3⟩).2
    · refine w_X7_binder_79b (d := d + 1) ?_
      unfold f_X7_binder_79b
      have h4' := h4.cst (l := l + B - A) (w := 3) (x := ((l + 1 + B - A : Nat) : Int)) hN (by omega)
      obtain ⟨j1, j2, j3, j4, _⟩ := (cp_P hp hpa h4'.1).2.1
      rw [show (vI (cS T4 p (l + B - A) 3 ((l + 1 + B - A : Nat) : Int)) 0 3).toNat = a by omega, Int.toNat_natCast, Int.toNat_natCast, show (4 : Int).toNat = 4 from rfl, j4 l 4 hl (by omega), hm4, Int.toNat_natCast, Int.toNat_natCast]
      refine ⟨fun _ => ⟨by omega, by omega, by omega, by omega, by omega, ?_⟩, fun z => absurd h4'.2.2.2.2.2.2.2 z⟩
      have h5 := h4'.row (i := x) (x := zI (m1 : Int))
      have r5 : ∀ y, vI (cS T4 p (l + B - A) 3 ((l + 1 + B - A : Nat) : Int)) 27 y = vI T 27 y := fun y => by rw [v27_cS, h27, v27_cS, r2]
      refine hIH2 _ (q1 + xm - x0) ((l + B - A : Nat) : Int) _ h5 (by omega) (fun y y1 ⟨k, k1, k2, k3⟩ => ?_) (fun hfit2 T6 h6 hCM2 hcE2 h27b => ?_) (fun hno v T6 hF hv => ?_)
      · rw [v27_s (by unfold okI; omega)]
        rcases List.mem_cons.mp y1 with z | z
        · rw [if_pos z, z, hR]
        · obtain ⟨q1', q2'⟩ := hu y z ⟨k, by omega, k2, k3⟩
          rw [if_neg q1', r5]; exact q2'
      · have hq : q1 + xm - x0 + x1 - xm = q1 + x1 - x0 := by omega
        rw [hq] at h6 hfit2
        have hce : cE (cS T4 p (l + B - A) 3 ((l + 1 + B - A : Nat) : Int)) T6 p (m + B - A) := cE.trans' cE_row hcE2
        refine ⟨by omega, by omega, by omega, rfl, kY hfit2 _ (cpS.row (h6.cst hN (by omega))) (CM.row (CM.cst (CM.cE (CM.cst hCM (by omega) (by omega) (by omega)) hce (Nat.le_refl _) (by omega)) (by omega) (by omega) (by omega))) (CM.row (hCM2.cst (by omega) (by omega) (by omega))) (fun t ht => ?_) ?_ (fun y => ?_)⟩
        · refine cR_row (cR_cS ?_ (by omega) (by omega))
          refine cR.cE (T := cS T4 p (l + B - A) 3 ((l + 1 + B - A : Nat) : Int)) ?_ hce (by omega)
          refine cR_cS ?_ (by omega) (by omega)
          exact cR.cE (T := cS T2 p (l + B - A) 1 (m1 : Int)) (cR_cS (ht.of4 r4) (by omega) (by omega)) hcE (by omega)
        · refine cE.trans' (T' := T6) ?_ (cE.trans' cE_cS cE_row)
          refine cE.trans' (T' := cS T4 p (l + B - A) 3 ((l + 1 + B - A : Nat) : Int)) ?_ (fun m w hm hw => hce m w (by omega) hw)
          refine cE.trans' (T' := T4) ?_ cE_cS
          refine cE.trans' (T' := cS T2 p (l + B - A) 1 (m1 : Int)) ?_ (fun m w hm hw => hcE m w (by omega) hw)
          exact cE.trans' (T' := T2) (fun m w hm hw => r4 _) cE_cS
        · rw [v27_s ⟨vI_lo _ _ _, vI_hi _ _ _⟩]
          by_cases ey : y = x
          · rw [if_pos ey, ey, r5]
          · rw [if_neg ey, v27_cS, h27b, v27_s (by unfold okI; omega), if_neg ey, r5]
      · have hq : q1 + xm - x0 + x1 - xm = q1 + x1 - x0 := by omega
        rw [hq] at hno
        exact ⟨by omega, by omega, by omega, rfl, kN hno _ (cpF.row (hF.cst hN (by omega)))⟩
    · refine w_X7_binder_79b (d := d + 1) ?_
      unfold f_X7_binder_79b
      have hF' := hF.cst (l := l + B - A) (w := 3) (x := v) hN (by omega)
      exact ⟨fun z => by have := hF'.2.1; omega, fun _ => ⟨rfl, kN (by omega) _ hF'⟩⟩
  · have hno : ¬ (e + B - A ≤ 200 ∧ w1 + Bv - Av ≤ 100 ∧ q1 + x1 - x0 ≤ 50) := by omega
    have hT3 : vI T2 0 3 = (a : Int) := by obtain ⟨j1, j2, _⟩ := (cp_P hp hpa hF.1).2.1; exact j2
    rw [fin T2 100 hF.1]
    refine ⟨by omega, by omega, by omega, by omega, fun z5 => absurd hk z5, fun z5 => ?_⟩
    refine w_X7_binder_47 (d := d + 1) ?_
    unfold f_X7_binder_47
    have hF' := hF.cst (l := l + B - A) (w := 1) (x := 100) hN (by omega)
    obtain ⟨j1, j2, j3, j4, _⟩ := (cp_P hp hpa hF'.1).2.1
    refine ⟨by omega, fun z => absurd rfl z, fun _ => ⟨by omega, by omega, ?_⟩⟩
    refine k_copyF (d := d) hF' ⟨by omega, by omega, ?_⟩
    rw [Int.toNat_natCast, Int.toNat_natCast]
    refine w_X7_binder_79b (d := d + 1) ?_
    unfold f_X7_binder_79b
    have hF2 := hF'.cst (l := l + B - A) (w := 3) (x := -1) hN (by omega)
    exact ⟨fun z => by have := hF2.2.1; omega, fun _ => ⟨rfl, kN hno _ hF2⟩⟩
end CRR
