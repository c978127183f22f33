section C9
variable {sa : Nat → Nat} {b : Nat} {E : Nat × mH} {d : Nat} {T0 T T' : gT} {a p : Nat} {c C : Nat → Nat → Int} {n nv nf L : Nat}
/-- a function's body stands in the place of a call of it -/
theorem seg_inl (hp : rPa T0 a c n nv nf) (hpa : p + a = 1) (hL : L < n) (hi : inP c n nf L) {g : Nat} (hg : g = lbN c n (onF c n nf L).toNat) (f9 : Nat) (us : List Nat) (h9 : wf c f9 L (en c L) (c L 6) us (vcn c L) (vcn c (en c L)) (fcn c L) (fcn c (en c L))) (hus : ∀ x, x ∈ us → x < vcn c L) :
    cpX sa b E (d + 4 + 404) T0 p (iC c L g) (Rm c L (en c L) (iV c L g)) (L : Int) L us (fun _ => True) L (vcn c L) (fcn c L) (iE c L g) (iV c L g) (iF c L g) := by
  have hw := hp.1
  have hn := hw.1
  have hnv := hw.2.1
  have hnf := hw.2.2.1
  have hk := hi.1.1
  obtain ⟨t, t1, t2⟩ := onF_r hi.1
  have hg' : g = lbN c n t := by rw [hg, t1, Int.toNat_natCast]
  have hg2 : c g 0 = 2 := by rw [hg]; exact hi.2.1
  have hfr : frc c g = 0 := by rw [hg]; exact hi.2.2.1
  obtain ⟨ga, gb, gc⟩ := lbN_ok (c := c) (n := n) (t := t) (by have := hw.flat.2.1; omega)
  rw [← hg'] at ga gb gc
  obtain ⟨f, vs, h, h2, h3, n1, n2, n3, n4, n5, n6, n7, _, n8⟩ := nums hw hL (Or.inr hk)
  have c6r : -1 ≤ c L 6 ∧ c L 6 < 200 := by
    by_cases z : L = 0
    · rw [z, hw.flat.2.2.1]; omega
    · have := (hw.flat.2.2.2 L hL).2 (by omega); omega
  have hargu : ∃ f8, wf c f8 (c L 4).toNat (en c L) (L : Int) us (vcn c (c L 4).toNat) (vcn c (en c L)) (fcn c (c L 4).toNat) (fcn c (en c L)) := by
    cases f9 with
    | zero => exact h9.elim
    | succ f9 =>
      obtain ⟨_, hh⟩ := h9
      have hv' : vcn c (L + 1) = vcn c L + (if c L 0 = 3 then 2 else if c L 0 = 2 ∨ c L 0 = 5 then 1 else 0) := rfl
      have hf' : fcn c (L + 1) = fcn c L + (if c L 0 = 2 ∨ c L 0 = 3 then 1 else 0) := rfl
      rcases hh with hh | hh | hh | hh | hh | hh | hh
      · omega
      · omega
      · omega
      · omega
      · omega
      · omega
      · obtain ⟨k0, _, _, _, _, m, v, g9, k4, h1, h2'⟩ := hh
        rw [if_neg (by omega), if_neg (by omega)] at hv'; rw [if_neg (by omega)] at hf'
        have b1 := wf_cnt _ _ _ _ _ _ _ _ _ h1
        obtain rfl : v = vcn c m := by omega
        obtain rfl : g9 = fcn c m := by omega
        have em : (c L 4).toNat = m := by omega
        rw [em]
        exact ⟨f9, h2'⟩
  obtain ⟨f8, hb⟩ := hargu
  have hb2 := wf_fuel _ 200 _ _ _ _ _ _ _ _ (by omega) (wf_small _ _ _ _ _ _ _ _ _ hb)
  obtain ⟨fg, vg, hgw, hg3, hg4⟩ := hw.at2 ga
  have hbody : c g 1 = (vcn c g : Int) ∧ c g 3 = ((g + 1 : Nat) : Int) ∧ vcn c (g + 1) = vcn c g + 1 ∧ ∃ fb, wf c fb (g + 1) (en c g) (g : Int) (vcn c g :: vg) (vcn c (g + 1)) (vcn c (en c g)) (fcn c (g + 1)) (fcn c (en c g)) := by
    cases fg with
    | zero => exact hgw.elim
    | succ fb =>
      have hv' : vcn c (g + 1) = vcn c g + (if c g 0 = 3 then 2 else if c g 0 = 2 ∨ c g 0 = 5 then 1 else 0) := rfl
      have hf' : fcn c (g + 1) = fcn c g + (if c g 0 = 2 ∨ c g 0 = 3 then 1 else 0) := rfl
      rw [if_neg (by omega), if_pos (Or.inl hg2)] at hv'; rw [if_pos (Or.inl hg2)] at hf'
      obtain ⟨_, hh⟩ := hgw
      rcases hh with hh | hh | hh | hh | hh | hh | hh
      · omega
      · omega
      · exact ⟨hh.2.1, hh.2.2.2.1, hv', fb, by rw [hv', hf']; exact hh.2.2.2.2.2.2⟩
      · omega
      · omega
      · omega
      · omega
  obtain ⟨x1, x3, x2, fb, hbb⟩ := hbody
  have a1 := wf_lt _ _ _ _ _ _ _ _ _ hbb
  have hbb2 := wf_fuel _ 200 _ _ _ _ _ _ _ _ (by omega) (wf_small _ _ _ _ _ _ _ _ _ hbb)
  have free : ∀ (y k : Nat), g ≤ k → k < en c g → c k 0 = 0 → c k 1 = (y : Int) → vcn c g ≤ y := by
    intro y k k1 k2 k3 k4
    by_cases z : vcn c g ≤ y
    · exact z
    · exfalso
      have hlt := ((hw.flat.2.2.2) k (by omega)).1.2.1 (Or.inl k3)
      have := sm_zero hfr y (by omega)
      have q : mcn c y (en c g) ≠ mcn c y g ∧ (y : Int) < v0c c g := by
        refine ⟨(mcn_ne (en c g) (by omega)).mpr ⟨k, k1, k2, k3, k4⟩, ?_⟩
        unfold v0c; rw [if_neg (by omega), x1]; omega
      rw [if_pos q] at this
      omega
  generalize hm : (c L 4).toNat = m at *
  have eK : iK c L = L + 1 + (en c L - m) := by unfold iK; rw [hm]
  have eE : iE c L g = iK c L + (en c g - (g + 1)) := rfl
  have eW : iW c L = vcn c L + 1 + (vcn c (en c L) - vcn c m) := by unfold iW; rw [hm]
  have eV : iV c L g = iW c L + (vcn c (en c g) - vcn c (g + 1)) := rfl
  have eF : iF c L g = fcn c L + (fcn c (en c L) - fcn c m) + (fcn c (en c g) - fcn c (g + 1)) := by unfold iF; rw [hm]
  have gA := cp_plain (sa := sa) (b := b) (E := E) (d := d + 1) (A := m) (B := L + 1) (Av := vcn c m) (Bv := vcn c L + 1) (R := iRa c L) hp hpa 200 m (en c L) _ _ _ _ _ _ (-1) hb2 (fun x hx => by have := hus x hx; omega) h2 (Nat.le_refl _) (Nat.le_refl _) (by unfold okI; omega) (by omega) (fun y y1 y2 => by unfold iRa; rw [hm, if_neg (by omega)])
  have gB := cp_plain (sa := sa) (b := b) (E := E) (d := d + 1) (A := g + 1) (B := iK c L) (Av := vcn c (g + 1)) (Bv := iW c L) (R := iRb c L g) hp hpa 200 (g + 1) (en c g) _ _ _ _ _ _ (-1) hbb2 (fun x hx => by
    rcases List.mem_cons.mp hx with z | z
    · omega
    · have := hg4 x z; omega) (by omega) (Nat.le_refl _) (Nat.le_refl _) (by unfold okI; omega) (by omega) (fun y y1 y2 => by unfold iRb; rw [if_neg (by omega)])
  intro T φ hS hu kY kN
  obtain ⟨s1, s2, s3, s4, s5, s6, s7, s8⟩ := id hS
  have hpT := cp_P hp hpa s1
  obtain ⟨i1, i2, i3, i4, i5, i6, i7, _⟩ := hpT.2.1
  have c0L : ∀ w, iC c L g L w = xTok 5 (vcn c L : Int) (-1) ((L + 1 : Nat) : Int) (iK c L : Int) (-1) (c L 6) w := fun w => by unfold iC; rw [if_neg (by omega), if_pos rfl]
  have c06 : iC c L g L 6 = c L 6 := by rw [c0L]; rfl
  rw [c06]
  refine w_X7_copy (d := d + 4 + 402) ?_
  unfold f_X7_copy
  have ea : (vI T 0 3).toNat = a := by omega
  rw [ea, Int.toNat_natCast, i4 L 0 hL (by omega)]
  refine ⟨fun _ => ⟨by omega, by omega, fun z => absurd rfl z, fun _ => ⟨by omega, by omega, fun _ => ?_, fun z => by omega⟩⟩, fun z => absurd s8 z⟩
  -- place
  suffices hpl : gC (tP sa) lM b E (d + 4 + 402 + 1) mX7_place [.ref (b + 0), .int (zI (L : Int)), .int (zI (c L 6))] T (fun r T' => pI r (fun v => φ v T')) from hpl.mono (Nat.le_refl _) (fun r T' hr => by obtain ⟨v, rfl, hv⟩ := hr; exact ⟨v, rfl, _, rfl, hv⟩)
  refine w_X7_place (d := d + 4 + 401) ?_
  unfold f_X7_place
  have e1p : 1 - vI T 0 3 = (p : Int) := by omega
  refine c_only (d := d + 4 + 400) hpT hL hi.1 ?_
  have el := i7 _ ga gb
  rw [gc] at el
  rw [t1, e1p, Int.toNat_natCast, Int.toNat_natCast, el, s2]
  have hno200 : L = 200 → ¬ (iE c L g ≤ 200 ∧ iV c L g ≤ 100 ∧ iF c L g ≤ 50) := by omega
  refine ⟨by omega, by omega, fun z => absurd s8 z, fun _ => ⟨by omega, by omega, fun z200 => ?_, fun z200 => by omega⟩⟩
  have hL2 : L < 200 := by omega
  refine w_X7_place_44 (d := d + 4 + 401) ?_
  unfold f_X7_place_44
  refine ⟨Or.inl rfl, by omega, fun _ => ?_, fun z => absurd rfl z⟩
  have e49 : gI T 0 49 (zI 0) = T := gI_same (vI_to s8)
  rw [e49]
  refine k_beg' (d := d + 4 + 401) (by omega) hS hL2 (fun hS2 => ?_)
  generalize hT2 : mBeg T p L (zI 5) (zI (-1)) (zI (c L 6)) = T2 at hS2
  have row2 : cR T2 p L (xTok 5 (-1) (-1) (-1) (-1) (-1) (c L 6)) := by rw [← hT2]; exact cR_beg (by omega) (by omega) (by omega)
  have e02 : cE T T2 p L := by rw [← hT2]; exact cE_beg
  have t27 : ∀ y, vI T2 27 y = vI T 27 y := fun y => by rw [← hT2, v27_beg]
  have j2 := (cp_P hp hpa hS2.1).2.1
  rw [Int.toNat_natCast]
  refine k_fresh (d := d + 4 + 401 + 1) i1 hpa j2.2.1 hS2 (fun hmm T3 hS3 hI3 => ?_) (fun hmm T3 hF => ?_)
  · have q27 : ∀ y, vI T3 27 y = vI T2 27 y := fun y => by unfold vI; rw [hI3 27 y (by omega) (by omega)]
    have q4 : ∀ i, vI T3 4 i = vI T2 4 i := fun i => by unfold vI; rw [hI3 4 i (by omega) (by omega)]
    have hS4 := hS3.cst (l := L) (w := 1) (x := (vcn c L : Int)) hL2 (by omega)
    have hT3' := (cp_P hp hpa hS3.1).2.1.2.1
    obtain ⟨k1, k2, k3, k4, _⟩ := (cp_P hp hpa hS4.1).2.1
    rw [Int.toNat_natCast, show (vI T3 0 3).toNat = a by omega, k4 L 4 hL (by omega), n3]
    refine ⟨by omega, by omega, by omega, by omega, ?_⟩
    refine (gA _ (fcn c L) (L : Int) _ ?_ (by omega) (fun y y1 y2 => ?_) (fun hfit T5 hS5 hCM hcE h27 => ⟨by omega, by omega, ?_⟩) (fun hno v T5 hF hv => ⟨by omega, by omega, ?_⟩)).mono (by omega) (fun _ _ z => z)
    · rw [show m + (L + 1) - m = L + 1 by omega, show vcn c m + (vcn c L + 1) - vcn c m = vcn c L + 1 by omega]; exact hS4
    · have hyl := hus y y1
      rw [v27_cS, q27, t27, hu y y1 trivial]
      show ((muM _ _ _ y : Nat) : Int) = _
      unfold muM iRa
      rw [hm, if_pos hyl, if_pos (by omega)]
    · rw [show m + (L + 1) - m = L + 1 by omega] at hcE ⊢
      rw [show en c L + (L + 1) - m = iK c L by omega, show vcn c (en c L) + (vcn c L + 1) - vcn c m = iW c L by omega] at hS5 hfit
      have hS6 := hS5.cst (l := L) (w := 3) (x := ((L + 1 : Nat) : Int)) hL2 (by omega)
      have hT5' := (cp_P hp hpa hS5.1).2.1.2.1
      have hS7 := hS6.row (i := vcn c g) (x := zI (vcn c L : Int))
      obtain ⟨k1', k2', k3', k4', _⟩ := (cp_P hp hpa hS6.1).2.1
      obtain ⟨y1', y2', y3', y4', _⟩ := (cp_P hp hpa hS7.1).2.1
      rw [show (vI T5 0 3).toNat = a by omega, Int.toNat_natCast, k4' g 1 ga (by omega), x1, Int.toNat_natCast, y4' g 3 ga (by omega), x3]
      refine ⟨fun _ => ⟨by omega, by omega, by omega, by have := ((hw.flat.2.2.2) g ga).1.2.1 (Or.inr (Or.inl hg2)); omega, by omega, ?_⟩, fun z => absurd hS5.2.2.2.2.2.2.2 z⟩
      have r27 : ∀ y, vI (cS T5 p L 3 ((L + 1 : Nat) : Int)) 27 y = vI T 27 y := fun y => by rw [v27_cS, h27, v27_cS, q27, t27]
      refine (gB _ (fcn c L + fcn c (en c L) - fcn c m) (L : Int) _ ?_ (by omega) (fun y y1 y2 => ?_) (fun hfit2 T8 hS8 hCM2 hcE2 h27b => ⟨by omega, by omega, ?_⟩) (fun hno v T8 hF hv => ⟨by omega, by omega, _, rfl, ?_⟩)).mono (by omega) (fun _ _ z => z)
      · rw [show g + 1 + iK c L - (g + 1) = iK c L by omega, show vcn c (g + 1) + iW c L - vcn c (g + 1) = iW c L by omega]; exact hS7
      · obtain ⟨k, q1, q2, q3, q4'⟩ := y2
        have hy := free y k (by omega) q2 q3 q4'
        rw [v27_s (by unfold okI; omega)]
        rcases List.mem_cons.mp y1 with z | z
        · rw [if_pos z]; unfold iRb; rw [if_pos (by omega)]
        · have := hg4 y z; omega
      · rw [show g + 1 + iK c L - (g + 1) = iK c L by omega] at hcE2 ⊢
        rw [show en c g + iK c L - (g + 1) = iE c L g by omega, show vcn c (en c g) + iW c L - vcn c (g + 1) = iV c L g by omega, show fcn c L + fcn c (en c L) - fcn c m + fcn c (en c g) - fcn c (g + 1) = iF c L g by omega] at hS8 hfit2
        have hce2 : cE (cS T5 p L 3 ((L + 1 : Nat) : Int)) T8 p (iK c L) := cE.trans' cE_row hcE2
        refine ⟨_, rfl, kY hfit2 _ (cpS.row (hS8.cst hL2 (by omega))) (CC.row ?_) ?_ (fun y => ?_)⟩
        · -- the cells
          refine CC.cat (y := L + 1) (CC.one (t := tokS (tokS (tokS (xTok 5 (-1) (-1) (-1) (-1) (-1) (c L 6)) 1 (vcn c L : Int)) 3 ((L + 1 : Nat) : Int)) 4 (iK c L : Int)) ?_ (fun w hw7 => ?_)) (CC.cat (y := iK c L) ?_ ?_)
          · refine cR_cS ?_ (by omega) (by omega)
            refine cR.cE (T := cS T5 p L 3 ((L + 1 : Nat) : Int)) ?_ hce2 (by omega)
            refine cR_cS ?_ (by omega) (by omega)
            exact cR.cE (T := cS T3 p L 1 (vcn c L : Int)) (cR_cS (row2.of4 q4) (by omega) (by omega)) hcE (by omega)
          · rw [c0L]
            have : w = 0 ∨ w = 1 ∨ w = 2 ∨ w = 3 ∨ w = 4 ∨ w = 5 ∨ w = 6 := by omega
            rcases this with e | e | e | e | e | e | e <;> subst e <;> rfl
          · intro k k1 k2 w hw7
            have z1 := hCM (k + m - (L + 1)) (by omega) (by omega) w hw7
            rw [show k + m - (L + 1) + (L + 1) - m = k by omega] at z1
            have z2 := hce2 k w (by omega) hw7
            unfold iC
            rw [if_neg (by omega), if_neg (by omega), if_pos k2, hm, ← z1]
            have z3 : cV (cS T5 p L 3 ((L + 1 : Nat) : Int)) p k w = cV T5 p k w := by unfold cS cV; rw [v_o (by omega)]
            rw [← z3, ← z2]
            unfold cS cV; rw [v_o (by omega)]
          · intro k k1 k2 w hw7
            have z1 := hCM2 (k + (g + 1) - iK c L) (by omega) (by omega) w hw7
            rw [show k + (g + 1) - iK c L + iK c L - (g + 1) = k by omega] at z1
            unfold iC
            rw [if_neg (by omega), if_neg (by omega), if_neg (by omega), if_pos k2, ← z1]
            unfold cS cV; rw [v_o (by omega)]
        · refine e02.trans' (cE.trans' (T' := cS T3 p L 1 (vcn c L : Int)) (cE.trans' (T' := T3) (fun m w hm hw => q4 _) cE_cS) ?_)
          refine cE.trans' (T' := T5) (fun m w hm hw => hcE m w (by omega) hw) (cE.trans' (T' := cS T5 p L 3 ((L + 1 : Nat) : Int)) cE_cS ?_)
          exact cE.trans' (T' := T8) (fun m w hm hw => hce2 m w (by omega) hw) (cE.trans' cE_cS cE_row)
        · rw [v27_s ⟨vI_lo _ _ _, vI_hi _ _ _⟩, v27_cS, h27b, v27_s (by unfold okI; omega)]
          by_cases ey : y = vcn c g
          · rw [if_pos ey, ey]
            have := r27 (vcn c g); rw [v27_cS] at this; exact this
          · rw [if_neg ey, if_neg ey, r27]
      · refine kN (by clear hu kY kN; omega) _ _ (cpF.row (hF.cst hL2 (by omega))) (by unfold okI; omega)
    · have hF' := hF.cst (l := L) (w := 3) (x := v) hL2 (by omega)
      rw [Int.toNat_natCast]
      refine ⟨fun z => by have := hF.2.1; omega, fun _ => ⟨_, rfl, kN (by clear hu kY kN; omega) _ _ hF' (by unfold okI; omega)⟩⟩
  · have hno : ¬ (iE c L g ≤ 200 ∧ iV c L g ≤ 100 ∧ iF c L g ≤ 50) := by omega
    have hT3' := (cp_P hp hpa hF.1).2.1.2.1
    have hF4 := hF.cst (l := L) (w := 1) (x := 100) hL2 (by omega)
    rw [Int.toNat_natCast]
    refine ⟨by omega, by omega, by omega, by omega, ?_⟩
    refine k_copyF (d := d + 4 + 400) hF4 ⟨by omega, by omega, ?_⟩
    have hF5 := hF4.cst (l := L) (w := 3) (x := -1) hL2 (by omega)
    rw [Int.toNat_natCast]
    exact ⟨fun z => by have := hF4.2.1; omega, fun _ => ⟨_, rfl, kN hno _ _ hF5 (by unfold okI; omega)⟩⟩
end C9
