/-! THE REFERENCE COPIES, one expr changed -/
/-- the cells x .. y - 1 of program p are those of C -/
def CC (T : gT) (p : Nat) (C : Nat → Nat → Int) (x y : Nat) : Prop := ∀ k, x ≤ k → k < y → ∀ w, w < 7 → cV T p k w = C k w
section C5
variable {sa : Nat → Nat} {b : Nat} {E : Nat × mH} {d : Nat} {T0 T T' : gT} {a p : Nat} {c C : Nat → Nat → Int} {n nv nf n0 n1 m1 q1 : Nat} {R : Nat → Nat} {mt : Nat → Prop}
/-- the expr m comes to stand at n0 .. n1 - 1, as C has it -/
def cpX (sa : Nat → Nat) (b : Nat) (E : Nat × mH) (D : Nat) (T0 : gT) (p : Nat) (C : Nat → Nat → Int) (R : Nat → Nat) (l3 : Int) (m : Nat) (us : List Nat) (mt : Nat → Prop) (n0 v0 f0 n1 v1 f1 : Nat) : Prop :=
  ∀ (T : gT) (φ : Int → gT → Prop), cpS T0 T p n0 v0 f0 → (∀ y, y ∈ us → mt y → vI T 27 y = (R y : Int)) →
  ((n1 ≤ 200 ∧ v1 ≤ 100 ∧ f1 ≤ 50) → ∀ T', cpS T0 T' p n1 v1 f1 → CC T' p C n0 n1 → cE T T' p n0 → (∀ y, vI T' 27 y = vI T 27 y) → φ (n0 : Int) T') →
  (¬ (n1 ≤ 200 ∧ v1 ≤ 100 ∧ f1 ≤ 50) → ∀ v T', cpF T0 T' p → okI v → φ v T') →
  gC (tP sa) lM b E D mX7_copy [.ref (b + 0), .int (zI (m : Int)), .int (zI (C n0 6)), .int (zI l3)] T (fun r T' => pI r (fun v => φ v T'))
theorem cpX.mono {D D' : Nat} {l3 : Int} {m : Nat} {us : List Nat} {v0 f0 v1 f1 : Nat} (h : cpX sa b E D T0 p C R l3 m us mt n0 v0 f0 n1 v1 f1) (hD : D ≤ D') : cpX sa b E D' T0 p C R l3 m us mt n0 v0 f0 n1 v1 f1 :=
  fun T φ h1 h2 h3 h4 => (h T φ h1 h2 h3 h4).mono hD (fun _ _ z => z)
theorem CC.cE {x y k : Nat} (h : CC T p C x y) (h2 : cE T T' p k) (hk : y ≤ k) : CC T' p C x y := fun j j1 j2 w hw => (h2 _ w (by omega) hw).trans (h j j1 j2 w hw)
theorem CC.cst {x y k w : Nat} {z : Int} (h : CC T p C x y) (hk : k < x) (hw : w < 7) : CC (cS T p k w z) p C x y := fun j j1 j2 w2 hw2 => by
  have := h j j1 j2 w2 hw2
  rw [← this]; unfold cS cV; rw [v_o (by omega)]
theorem CC.row {x y i : Nat} {z : Int32} (h : CC T p C x y) : CC (gI T 27 i z) p C x y := fun j j1 j2 w2 hw2 => by
  have := h j j1 j2 w2 hw2
  rw [← this]; unfold cV; rw [v_o (by omega)]
theorem CC.cat {x y z : Nat} (h : CC T p C x y) (h2 : CC T p C y z) : CC T p C x z := fun j j1 j2 w hw => by
  by_cases e : j < y
  · exact h j j1 e w hw
  · exact h2 j (by omega) j2 w hw
theorem CC.one {l : Nat} {t : Nat → Int} (h : cR T p l t) (ht : ∀ w, w < 7 → t w = C l w) : CC T p C l (l + 1) := fun j j1 j2 w hw => by
  obtain rfl : j = l := by omega
  exact (h w hw).trans (ht w hw)
/-- a binder with one part -/
theorem x_binder3 (hp : rPa T0 a c n nv nf) (hpa : p + a = 1) {l x N : Nat} {l3 : Int} {us : List Nat} {v1 f1 : Nat} {φ : gT → Prop} (h : cpS T0 T p (N + 1) m1 q1) (hl : l < n) (hk : c l 0 = 2 ∨ c l 0 = 3) (hx : c l 1 = (x : Int)) (hv1 : m1 + 1 ≤ v1) (hN : N < 200) (hR : R x = m1) (hC6 : C (N + 1) 6 = (N : Int))
    (hIH : cpX sa b E (d + 2) T0 p C R l3 (l + 1) (x :: us) mt (N + 1) (m1 + 1) q1 n1 v1 f1) (hu : ∀ y, y ∈ us → mt y → y ≠ x → vI T 27 y = (R y : Int))
    (kY : (n1 ≤ 200 ∧ v1 ≤ 100 ∧ f1 ≤ 50) → ∀ T', cpS T0 T' p n1 v1 f1 → CC T' p C (N + 1) n1 → (∀ t, cR T p N t → cR T' p N (tokS (tokS t 1 (m1 : Int)) 3 ((N + 1 : Nat) : Int))) → cE T T' p N → (∀ y, vI T' 27 y = vI T 27 y) → φ T')
    (kN : ¬ (n1 ≤ 200 ∧ v1 ≤ 100 ∧ f1 ≤ 50) → ∀ T', cpF T0 T' p → φ T') :
    gC (tP sa) lM b E (d + 3) mX7_binder [.ref (b + 0), .int (zI (l : Int)), .int (zI (N : Int)), .int (zI l3)] T (fun r T' => pV r (φ T')) := by
  unfold cpX at hIH
  rw [hC6] at hIH
  have hn := hp.1.1
  have hnv := hp.1.2.1
  have u1 := (hp.1.flat.2.2.2 l hl).1.2.1 (by omega)
  have u3 := (hp.1.flat.2.2.2 l hl).1.2.2.2.1 (by omega)
  obtain ⟨i1, i2, i3, i4, i5, _⟩ := (cp_P hp hpa h.1).2.1
  have e1p : 1 - vI T 0 3 = (p : Int) := by omega
  refine w_X7_binder (d := d + 1) ?_
  unfold f_X7_binder
  rw [e1p, show (vI T 0 3).toNat = a by omega, Int.toNat_natCast, Int.toNat_natCast, Int.toNat_natCast, i4 l 1 hl (by omega), hx]
  have fin : ∀ (T2 : gT) (v : Int), fr (Wk p) T0 T2 → cV (cS T2 p (N) 1 v) (vI T2 0 3).toNat l 0 = c l 0 := by
    intro T2 v hf
    obtain ⟨j1, j2, j3, j4, _⟩ := (cp_P hp hpa (T := cS T2 p (N) 1 v) (hf.gI (Or.inr (Or.inr (Or.inl ⟨rfl, by omega, by omega⟩))))).2.1
    have : vI T2 0 3 = vI (cS T2 p (N) 1 v) 0 3 := by unfold cS; rw [v_o (by omega)]
    rw [this, show (vI (cS T2 p (N) 1 v) 0 3).toNat = a by omega]
    exact j4 l 0 hl (by omega)
  refine ⟨by omega, by omega, k_fresh (d := d + 2) i1 hpa i2 h (fun hm T2 h2 hI => ?_) (fun hm T2 hF => ?_)⟩
  · have hT3 : vI T2 0 3 = (a : Int) := by obtain ⟨j1, j2, _⟩ := (cp_P hp hpa h2.1).2.1; exact j2
    rw [fin T2 (m1 : Int) h2.1]
    refine ⟨by omega, by omega, by omega, by omega, fun z5 => ?_, fun z5 => by omega⟩
    refine w_X7_binder_47 (d := d + 1) ?_
    unfold f_X7_binder_47
    refine ⟨by omega, fun _ => ?_, fun z => by omega⟩
    refine w_X7_binder_79 (d := d + 1) ?_
    unfold f_X7_binder_79
    have h2' := h2.cst (l := N) (w := 1) (x := (m1 : Int)) hN (by omega)
    obtain ⟨j1, j2, j3, j4, _⟩ := (cp_P hp hpa h2'.1).2.1
    rw [show (vI (cS T2 p (N) 1 (m1 : Int)) 0 3).toNat = a by omega, Int.toNat_natCast, Int.toNat_natCast, show (3 : Int).toNat = 3 from rfl, j4 l 3 hl (by omega), u3.1, show ((l : Int) + 1) = ((l + 1 : Nat) : Int) by omega, Int.toNat_natCast, Int.toNat_natCast]
    refine ⟨fun _ => ⟨by omega, by omega, by omega, by omega, by omega, ?_⟩, fun z => absurd h2'.2.2.2.2.2.2.2 z⟩
    have h3 := h2'.row (i := x) (x := zI (m1 : Int))
    have r2 : ∀ y, vI T2 27 y = vI T 27 y := fun y => by unfold vI; rw [hI 27 y (by omega) (by omega)]
    have r4 : ∀ i, vI T2 4 i = vI T 4 i := fun i => by unfold vI; rw [hI 4 i (by omega) (by omega)]
    refine hIH _ _ h3 (fun y y1 y2 => ?_) (fun hfit T4 h4 hCM hcE h27 => ?_) (fun hno v T4 hF hv => ?_)
    · rw [v27_s (by unfold okI; omega)]
      by_cases ey : y = x
      · rw [if_pos ey, ey, hR]
      · rw [if_neg ey, v27_cS, r2]
        rcases List.mem_cons.mp y1 with z | z
        · exact absurd z ey
        · exact hu y z y2 ey
    · refine ⟨by omega, by omega, by omega, rfl, kY hfit _ (cpS.row (h4.cst hN (by omega))) (CC.row (hCM.cst (by omega) (by omega))) (fun t ht => ?_) ?_ (fun y => ?_)⟩
      · refine cR_row (cR_cS ?_ (by omega) (by omega))
        refine cR.cE (T := gI (cS T2 p (N) 1 (m1 : Int)) 27 x (zI (m1 : Int))) (cR_row (cR_cS (ht.of4 r4) (by omega) (by omega))) hcE (by omega)
      · refine cE.trans' (T' := T4) ?_ (cE.trans' cE_cS cE_row)
        refine cE.trans' (T' := gI (cS T2 p (N) 1 (m1 : Int)) 27 x (zI (m1 : Int))) ?_ (fun m w hm hw => hcE m w (by omega) hw)
        refine cE.trans' (T' := T2) (fun m w hm hw => r4 _) (cE.trans' cE_cS cE_row)
      · rw [v27_s ⟨vI_lo _ _ _, vI_hi _ _ _⟩, v27_cS]
        by_cases ey : y = x
        · rw [if_pos ey, ey, r2]
        · rw [if_neg ey, v27_cS, h27, v27_s (by unfold okI; omega), if_neg ey, v27_cS, r2]
    · exact ⟨by omega, by omega, by omega, rfl, kN hno _ (cpF.row (hF.cst hN (by omega)))⟩
  · have hno : ¬ (n1 ≤ 200 ∧ v1 ≤ 100 ∧ f1 ≤ 50) := by omega
    have hT3 : vI T2 0 3 = (a : Int) := by obtain ⟨j1, j2, _⟩ := (cp_P hp hpa hF.1).2.1; exact j2
    rw [fin T2 100 hF.1]
    refine ⟨by omega, by omega, by omega, by omega, fun z5 => ?_, fun z5 => by omega⟩
    refine w_X7_binder_47 (d := d + 1) ?_
    unfold f_X7_binder_47
    refine ⟨by omega, fun _ => ?_, fun z => by omega⟩
    refine w_X7_binder_79 (d := d + 1) ?_
    unfold f_X7_binder_79
    have hF' := hF.cst (l := N) (w := 1) (x := 100) hN (by omega)
    exact ⟨fun z => by have := hF'.2.1; omega, fun _ => ⟨rfl, kN hno _ hF'⟩⟩
/-- a let -/
theorem x_binder5 (hp : rPa T0 a c n nv nf) (hpa : p + a = 1) {l x m N M : Nat} {l3 : Int} {us : List Nat} {vm fm v1 f1 : Nat} {φ : gT → Prop} (h : cpS T0 T p (N + 1) m1 q1) (hl : l < n) (hk : c l 0 = 5) (hx : c l 1 = (x : Int)) (hm4 : c l 4 = (m : Int)) (hNM : N + 1 ≤ M ∧ M ≤ n1) (hv : m1 + 1 ≤ vm ∧ vm ≤ v1) (hf : fm ≤ f1) (hN : N < 200) (hR : R x = m1) (hC6 : C (N + 1) 6 = (N : Int)) (hC6' : C M 6 = (N : Int))
    (hIH : cpX sa b E (d + 2) T0 p C R l3 (l + 1) us mt (N + 1) (m1 + 1) q1 M vm fm) (hIH2 : cpX sa b E (d + 2) T0 p C R l3 m (x :: us) mt M vm fm n1 v1 f1) (hu : ∀ y, y ∈ us → mt y → y ≠ x ∧ vI T 27 y = (R y : Int))
    (kY : (n1 ≤ 200 ∧ v1 ≤ 100 ∧ f1 ≤ 50) → ∀ T', cpS T0 T' p n1 v1 f1 → CC T' p C (N + 1) M → CC T' p C M n1 → (∀ t, cR T p N t → cR T' p N (tokS (tokS (tokS t 1 (m1 : Int)) 3 ((N + 1 : Nat) : Int)) 4 (M : Int))) → cE T T' p N → (∀ y, vI T' 27 y = vI T 27 y) → φ T')
    (kN : ¬ (n1 ≤ 200 ∧ v1 ≤ 100 ∧ f1 ≤ 50) → ∀ T', cpF T0 T' p → φ T') :
    gC (tP sa) lM b E (d + 3) mX7_binder [.ref (b + 0), .int (zI (l : Int)), .int (zI (N : Int)), .int (zI l3)] T (fun r T' => pV r (φ T')) := by
  unfold cpX at hIH hIH2
  rw [hC6] at hIH
  rw [hC6'] at hIH2
  have hn := hp.1.1
  have hnv := hp.1.2.1
  have u1 := (hp.1.flat.2.2.2 l hl).1.2.1 (by omega)
  have u3 := (hp.1.flat.2.2.2 l hl).1.2.2.2.1 (by omega)
  obtain ⟨i1, i2, i3, i4, i5, _⟩ := (cp_P hp hpa h.1).2.1
  have e1p : 1 - vI T 0 3 = (p : Int) := by omega
  refine w_X7_binder (d := d + 1) ?_
  unfold f_X7_binder
  rw [e1p, show (vI T 0 3).toNat = a by omega, Int.toNat_natCast, Int.toNat_natCast, Int.toNat_natCast, i4 l 1 hl (by omega), hx]
  have fin : ∀ (T2 : gT) (v : Int), fr (Wk p) T0 T2 → cV (cS T2 p (N) 1 v) (vI T2 0 3).toNat l 0 = c l 0 := by
    intro T2 v hf
    obtain ⟨j1, j2, j3, j4, _⟩ := (cp_P hp hpa (T := cS T2 p (N) 1 v) (hf.gI (Or.inr (Or.inr (Or.inl ⟨rfl, by omega, by omega⟩))))).2.1
    have : vI T2 0 3 = vI (cS T2 p (N) 1 v) 0 3 := by unfold cS; rw [v_o (by omega)]
    rw [this, show (vI (cS T2 p (N) 1 v) 0 3).toNat = a by omega]
    exact j4 l 0 hl (by omega)
  refine ⟨by omega, by omega, k_fresh (d := d + 2) i1 hpa i2 h (fun hm T2 h2 hI => ?_) (fun hm T2 hF => ?_)⟩
  · have hT3 : vI T2 0 3 = (a : Int) := by obtain ⟨j1, j2, _⟩ := (cp_P hp hpa h2.1).2.1; exact j2
    rw [fin T2 (m1 : Int) h2.1]
    refine ⟨by omega, by omega, by omega, by omega, fun z5 => absurd hk z5, fun z5 => ?_⟩
    refine w_X7_binder_47 (d := d + 1) ?_
    unfold f_X7_binder_47
    have h2' := h2.cst (l := N) (w := 1) (x := (m1 : Int)) hN (by omega)
    obtain ⟨j1, j2, j3, j4, _⟩ := (cp_P hp hpa h2'.1).2.1
    rw [show (vI (cS T2 p (N) 1 (m1 : Int)) 0 3).toNat = a by omega, Int.toNat_natCast, Int.toNat_natCast, Int.toNat_natCast, j4 l 3 hl (by omega), u3.1, show ((l : Int) + 1) = ((l + 1 : Nat) : Int) by omega]
    refine ⟨by omega, fun z => absurd rfl z, fun _ => ⟨by omega, by omega, ?_⟩⟩
    have r2 : ∀ y, vI T2 27 y = vI T 27 y := fun y => by unfold vI; rw [hI 27 y (by omega) (by omega)]
    have r4 : ∀ i, vI T2 4 i = vI T 4 i := fun i => by unfold vI; rw [hI 4 i (by omega) (by omega)]
    have h3 := h2'
    refine hIH _ _ h3 (fun y y1 y2 => ?_) (fun hfit T4 h4 hCM hcE h27 => ⟨by omega, by omega, ?_⟩) (fun hno v T4 hF hv => ⟨by omega, by omega, ?_⟩)
    · rw [v27_cS, r2]; exact (hu y y1 y2).2
    · refine w_X7_binder_79b (d := d + 1) ?_
      unfold f_X7_binder_79b
      have h4' := h4.cst (l := N) (w := 3) (x := ((N + 1 : Nat) : Int)) hN (by omega)
      obtain ⟨j1, j2, j3, j4, _⟩ := (cp_P hp hpa h4'.1).2.1
      rw [show (vI (cS T4 p (N) 3 ((N + 1 : Nat) : Int)) 0 3).toNat = a by omega, Int.toNat_natCast, Int.toNat_natCast, show (4 : Int).toNat = 4 from rfl, j4 l 4 hl (by omega), hm4, Int.toNat_natCast, Int.toNat_natCast]
      refine ⟨fun _ => ⟨by omega, by omega, by omega, by omega, by omega, ?_⟩, fun z => absurd h4'.2.2.2.2.2.2.2 z⟩
      have h5 := h4'.row (i := x) (x := zI (m1 : Int))
      have r5 : ∀ y, vI (cS T4 p (N) 3 ((N + 1 : Nat) : Int)) 27 y = vI T 27 y := fun y => by rw [v27_cS, h27, v27_cS, r2]
      refine hIH2 _ _ h5 (fun y y1 y2 => ?_) (fun hfit2 T6 h6 hCM2 hcE2 h27b => ?_) (fun hno v T6 hF hv => ?_)
      · rw [v27_s (by unfold okI; omega)]
        rcases List.mem_cons.mp y1 with z | z
        · rw [if_pos z, z, hR]
        · obtain ⟨q1', q2'⟩ := hu y z y2
          rw [if_neg q1', r5]; exact q2'
      · have hce : cE (cS T4 p (N) 3 ((N + 1 : Nat) : Int)) T6 p (M) := cE.trans' cE_row hcE2
        refine ⟨by omega, by omega, by omega, rfl, kY hfit2 _ (cpS.row (h6.cst hN (by omega))) (CC.row (CC.cst (CC.cE (CC.cst hCM (by omega) (by omega)) hce (Nat.le_refl _)) (by omega) (by omega))) (CC.row (hCM2.cst (by omega) (by omega))) (fun t ht => ?_) ?_ (fun y => ?_)⟩
        · refine cR_row (cR_cS ?_ (by omega) (by omega))
          refine cR.cE (T := cS T4 p (N) 3 ((N + 1 : Nat) : Int)) ?_ hce (by omega)
          refine cR_cS ?_ (by omega) (by omega)
          exact cR.cE (T := cS T2 p (N) 1 (m1 : Int)) (cR_cS (ht.of4 r4) (by omega) (by omega)) hcE (by omega)
        · refine cE.trans' (T' := T6) ?_ (cE.trans' cE_cS cE_row)
          refine cE.trans' (T' := cS T4 p (N) 3 ((N + 1 : Nat) : Int)) ?_ (fun m w hm hw => hce m w (by omega) hw)
          refine cE.trans' (T' := T4) ?_ cE_cS
          refine cE.trans' (T' := cS T2 p (N) 1 (m1 : Int)) ?_ (fun m w hm hw => hcE m w (by omega) hw)
          exact cE.trans' (T' := T2) (fun m w hm hw => r4 _) cE_cS
        · rw [v27_s ⟨vI_lo _ _ _, vI_hi _ _ _⟩]
          by_cases ey : y = x
          · rw [if_pos ey, ey, r5]
          · rw [if_neg ey, v27_cS, h27b, v27_s (by unfold okI; omega), if_neg ey, r5]
      · exact ⟨by omega, by omega, by omega, rfl, kN hno _ (cpF.row (hF.cst hN (by omega)))⟩
    · refine w_X7_binder_79b (d := d + 1) ?_
      unfold f_X7_binder_79b
      have hF' := hF.cst (l := N) (w := 3) (x := v) hN (by omega)
      exact ⟨fun z => by have := hF'.2.1; omega, fun _ => ⟨rfl, kN (by omega) _ hF'⟩⟩
  · have hno : ¬ (n1 ≤ 200 ∧ v1 ≤ 100 ∧ f1 ≤ 50) := by omega
    have hT3 : vI T2 0 3 = (a : Int) := by obtain ⟨j1, j2, _⟩ := (cp_P hp hpa hF.1).2.1; exact j2
    rw [fin T2 100 hF.1]
    refine ⟨by omega, by omega, by omega, by omega, fun z5 => absurd hk z5, fun z5 => ?_⟩
    refine w_X7_binder_47 (d := d + 1) ?_
    unfold f_X7_binder_47
    have hF' := hF.cst (l := N) (w := 1) (x := 100) hN (by omega)
    obtain ⟨j1, j2, j3, j4, _⟩ := (cp_P hp hpa hF'.1).2.1
    refine ⟨by omega, fun z => absurd rfl z, fun _ => ⟨by omega, by omega, ?_⟩⟩
    refine k_copyF (d := d) hF' ⟨by omega, by omega, ?_⟩
    rw [Int.toNat_natCast, Int.toNat_natCast]
    refine w_X7_binder_79b (d := d + 1) ?_
    unfold f_X7_binder_79b
    have hF2 := hF'.cst (l := N) (w := 3) (x := -1) hN (by omega)
    exact ⟨fun z => by have := hF2.2.1; omega, fun _ => ⟨rfl, kN hno _ hF2⟩⟩
/-- two parts -/
theorem x_two (hp : rPa T0 a c n nv nf) (hpa : p + a = 1) {l m N M : Nat} {part l3 l5 l6 : Int} {us : List Nat} {vm fm v1 f1 : Nat} {φ : Int → gT → Prop} (h : cpS T0 T p (N + 1) m1 q1) (hl : l < n) (k3 : c l 3 = ((l + 1 : Nat) : Int)) (k4 : c l 4 = (m : Int)) (k5 : c l 5 = -1) (hNM : N + 1 ≤ M ∧ M ≤ n1) (hv : m1 ≤ vm ∧ vm ≤ v1) (hf : fm ≤ f1) (hN : N < 200) (hC6 : C (N + 1) 6 = (N : Int)) (hC6' : C M 6 = (N : Int))
    (hIH : cpX sa b E (d + 3) T0 p C R l3 (l + 1) us mt (N + 1) m1 q1 M vm fm) (hIH2 : cpX sa b E (d + 3) T0 p C R l3 m us mt M vm fm n1 v1 f1) (hu : ∀ y, y ∈ us → mt y → vI T 27 y = (R y : Int))
    (kY : (n1 ≤ 200 ∧ v1 ≤ 100 ∧ f1 ≤ 50) → ∀ T', cpS T0 T' p n1 v1 f1 → CC T' p C (N + 1) M → CC T' p C M n1 → (∀ t, cR T p N t → cR T' p N (tokS (tokS t 3 ((N + 1 : Nat) : Int)) 4 (M : Int))) → cE T T' p N → (∀ y, vI T' 27 y = vI T 27 y) → φ (N : Int) T')
    (kN : ¬ (n1 ≤ 200 ∧ v1 ≤ 100 ∧ f1 ≤ 50) → ∀ T', cpF T0 T' p → φ (N : Int) T') :
    gW (tP sa) lM b E (d + 4) mX7_copy 288 [some (.ref (b + 0)), some (.int (zI (l : Int))), some (.int (zI part)), some (.int (zI l3)), some (.int (zI (p : Int))), some (.int (zI l5)), some (.int (zI l6)), some (.int (zI (N : Int))), some (.int (zI 3)), none, none] [] T (fun r T' => pI r (fun v => φ v T')) := by
  unfold cpX at hIH hIH2
  rw [hC6] at hIH
  rw [hC6'] at hIH2
  refine lp_one (d := d + 2) (k := 3) hp hpa h.1 hl hN (by omega) (Or.inl rfl) (fun z => by omega) (fun _ => ?_)
  rw [k3]
  refine hIH T _ h hu (fun hfit T3 hS3 hCM hcE h27 => ?_) (fun hno v' T3 hF hv' => ?_)
  · have hS3' := hS3.cst (l := N) (w := 3) (x := ((N + 1 : Nat) : Int)) hN (by omega)
    refine lp_one (d := d + 2) (k := 4) hp hpa hS3'.1 hl hN (by omega) (Or.inr ⟨_, rfl⟩) (fun z => by omega) (fun _ => ?_)
    rw [k4]
    refine hIH2 _ _ hS3' (fun y y1 y2 => by rw [v27_cS, h27]; exact hu y y1 y2) (fun hfit2 T4 hS4 hCM2 hcE2 h27b => ?_) (fun hno v' T4 hF hv' => ?_)
    · have hS4' := hS4.cst (l := N) (w := 4) (x := (M : Int)) hN (by omega)
      refine lp_one (d := d + 2) (k := 5) hp hpa hS4'.1 hl hN (by omega) (Or.inr ⟨_, rfl⟩) (fun _ => ?_) (fun z => absurd k5 z)
      refine lp_end (Or.inr ⟨_, rfl⟩) ⟨_, rfl, ?_⟩
      refine kY hfit2 _ hS4' (CC.cst (CC.cE (CC.cst hCM (by omega) (by omega)) hcE2 (Nat.le_refl _)) (by omega) (by omega)) (CC.cst hCM2 (by omega) (by omega)) (fun t ht => ?_) ?_ (fun y => ?_)
      · have row3 : cR (cS T3 p (N) 3 ((N + 1 : Nat) : Int)) p (N) _ := cR_cS (cR.cE ht hcE (by omega)) (by omega) (by omega)
        exact cR_cS (cR.cE row3 hcE2 (by omega)) (by omega) (by omega)
      · exact cE.trans' (T' := T3) (fun m w hm hw => hcE m w (by omega) hw) (cE.trans' cE_cS (cE.trans' (T' := T4) (fun m w hm hw => hcE2 m w (by omega) hw) cE_cS))
      · rw [v27_cS, h27b, v27_cS, h27]
    · have hF' := hF.cst (l := N) (w := 4) (x := v') hN (by omega)
      exact lp_full (d := d) hp hpa hl hN (fun T' hF' => kN (by omega) T' hF') 1 5 _ v' rfl (by omega) hF'
  · have hF' := hF.cst (l := N) (w := 3) (x := v') hN (by omega)
    exact lp_full (d := d) hp hpa hl hN (fun T' hF' => kN (by omega) T' hF') 2 4 _ v' rfl (by omega) hF'
/-- three parts -/
theorem x_three (hp : rPa T0 a c n nv nf) (hpa : p + a = 1) {l m m2 N M M2 : Nat} {part l3 l5 l6 : Int} {us : List Nat} {vm fm vn fn v1 f1 : Nat} {φ : Int → gT → Prop} (h : cpS T0 T p (N + 1) m1 q1) (hl : l < n) (k3 : c l 3 = ((l + 1 : Nat) : Int)) (k4 : c l 4 = (m : Int)) (k5 : c l 5 = (m2 : Int)) (hNM : N + 1 ≤ M ∧ M ≤ M2 ∧ M2 ≤ n1) (hv : m1 ≤ vm ∧ vm ≤ vn ∧ vn ≤ v1) (hf : fm ≤ fn ∧ fn ≤ f1) (hN : N < 200) (hC6 : C (N + 1) 6 = (N : Int)) (hC6' : C M 6 = (N : Int)) (hC6'' : C M2 6 = (N : Int))
    (hIH : cpX sa b E (d + 3) T0 p C R l3 (l + 1) us mt (N + 1) m1 q1 M vm fm) (hIH2 : cpX sa b E (d + 3) T0 p C R l3 m us mt M vm fm M2 vn fn) (hIH3 : cpX sa b E (d + 3) T0 p C R l3 m2 us mt M2 vn fn n1 v1 f1) (hu : ∀ y, y ∈ us → mt y → vI T 27 y = (R y : Int))
    (kY : (n1 ≤ 200 ∧ v1 ≤ 100 ∧ f1 ≤ 50) → ∀ T', cpS T0 T' p n1 v1 f1 → CC T' p C (N + 1) M → CC T' p C M M2 → CC T' p C M2 n1 → (∀ t, cR T p N t → cR T' p N (tokS (tokS (tokS t 3 ((N + 1 : Nat) : Int)) 4 (M : Int)) 5 (M2 : Int))) → cE T T' p N → (∀ y, vI T' 27 y = vI T 27 y) → φ (N : Int) T')
    (kN : ¬ (n1 ≤ 200 ∧ v1 ≤ 100 ∧ f1 ≤ 50) → ∀ T', cpF T0 T' p → φ (N : Int) T') :
    gW (tP sa) lM b E (d + 4) mX7_copy 288 [some (.ref (b + 0)), some (.int (zI (l : Int))), some (.int (zI part)), some (.int (zI l3)), some (.int (zI (p : Int))), some (.int (zI l5)), some (.int (zI l6)), some (.int (zI (N : Int))), some (.int (zI 3)), none, none] [] T (fun r T' => pI r (fun v => φ v T')) := by
  unfold cpX at hIH hIH2 hIH3
  rw [hC6] at hIH
  rw [hC6'] at hIH2
  rw [hC6''] at hIH3
  refine lp_one (d := d + 2) (k := 3) hp hpa h.1 hl hN (by omega) (Or.inl rfl) (fun z => by omega) (fun _ => ?_)
  rw [k3]
  refine hIH T _ h hu (fun hfit T3 hS3 hCM hcE h27 => ?_) (fun hno v' T3 hF hv' => ?_)
  · have hS3' := hS3.cst (l := N) (w := 3) (x := ((N + 1 : Nat) : Int)) hN (by omega)
    refine lp_one (d := d + 2) (k := 4) hp hpa hS3'.1 hl hN (by omega) (Or.inr ⟨_, rfl⟩) (fun z => by omega) (fun _ => ?_)
    rw [k4]
    refine hIH2 _ _ hS3' (fun y y1 y2 => by rw [v27_cS, h27]; exact hu y y1 y2) (fun hfit2 T4 hS4 hCM2 hcE2 h27b => ?_) (fun hno v' T4 hF hv' => ?_)
    · have hS4' := hS4.cst (l := N) (w := 4) (x := (M : Int)) hN (by omega)
      refine lp_one (d := d + 2) (k := 5) hp hpa hS4'.1 hl hN (by omega) (Or.inr ⟨_, rfl⟩) (fun z => by omega) (fun _ => ?_)
      rw [k5]
      refine hIH3 _ _ hS4' (fun y y1 y2 => by rw [v27_cS, h27b, v27_cS, h27]; exact hu y y1 y2) (fun hfit3 T5 hS5 hCM3 hcE3 h27c => ?_) (fun hno v' T5 hF hv' => ?_)
      · have hS5' := hS5.cst (l := N) (w := 5) (x := (M2 : Int)) hN (by omega)
        refine lp_end (Or.inr ⟨_, rfl⟩) ⟨_, rfl, ?_⟩
        refine kY hfit3 _ hS5' (CC.cst (CC.cE (CC.cst (CC.cE (CC.cst hCM (by omega) (by omega)) hcE2 (Nat.le_refl _)) (by omega) (by omega)) hcE3 (by omega)) (by omega) (by omega)) (CC.cst (CC.cE (CC.cst hCM2 (by omega) (by omega)) hcE3 (Nat.le_refl _)) (by omega) (by omega)) (CC.cst hCM3 (by omega) (by omega)) (fun t ht => ?_) ?_ (fun y => ?_)
        · have row3 : cR (cS T3 p (N) 3 ((N + 1 : Nat) : Int)) p (N) _ := cR_cS (cR.cE ht hcE (by omega)) (by omega) (by omega)
          have row4 : cR (cS T4 p (N) 4 (M : Int)) p (N) _ := cR_cS (cR.cE row3 hcE2 (by omega)) (by omega) (by omega)
          exact cR_cS (cR.cE row4 hcE3 (by omega)) (by omega) (by omega)
        · exact cE.trans' (T' := T3) (fun m w hm hw => hcE m w (by omega) hw) (cE.trans' cE_cS (cE.trans' (T' := T4) (fun m w hm hw => hcE2 m w (by omega) hw) (cE.trans' cE_cS (cE.trans' (T' := T5) (fun m w hm hw => hcE3 m w (by omega) hw) cE_cS))))
        · rw [v27_cS, h27c, v27_cS, h27b, v27_cS, h27]
      · have hF' := hF.cst (l := N) (w := 5) (x := v') hN (by omega)
        exact lp_full (d := d) hp hpa hl hN (fun T' hF' => kN (by omega) T' hF') 0 6 _ v' rfl (by omega) hF'
    · have hF' := hF.cst (l := N) (w := 4) (x := v') hN (by omega)
      exact lp_full (d := d) hp hpa hl hN (fun T' hF' => kN (by omega) T' hF') 1 5 _ v' rfl (by omega) hF'
  · have hF' := hF.cst (l := N) (w := 3) (x := v') hN (by omega)
    exact lp_full (d := d) hp hpa hl hN (fun T' hF' => kN (by omega) T' hF') 2 4 _ v' rfl (by omega) hF'
end C5
