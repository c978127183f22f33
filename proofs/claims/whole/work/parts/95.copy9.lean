section C9
variable {sa : Nat → Nat} {b : Nat} {E : Nat × mH} {d : Nat} {T0 T T' : gT} {a p : Nat} {c C : Nat → Nat → Int} {n nv nf L : Nat}
theorem cpG.toM {D A B Av Bv : Nat} {R : Nat → Nat} {l3 : Int} {l e : Nat} {us : List Nat} {v0 v1 f0 f1 q n0 m0 n1 m1 q1 : Nat} (h : cpG sa b E D T0 p c A B Av Bv R l3 l e us v0 v1 f0 f1) (hA : A ≤ l) (e0 : l + B - A = n0) (e1 : v0 + Bv - Av = m0) (e2 : e + B - A = n1) (e3 : v1 + Bv - Av = m1) (e4 : q + f1 - f0 = q1) (hC : ∀ j w, l ≤ j → j < e → w < 7 → C (j + B - A) w = mvC c A B Av Bv R (C n0 6) l j w) (hC6 : -1 ≤ C n0 6 ∧ C n0 6 < 200) :
    cpX sa b E D T0 p C R l3 l us (metI c l e) n0 m0 q n1 m1 q1 := by
  intro T φ h1 h2 h3 h4
  subst e0 e1 e2 e3 e4
  refine h T q (C (l + B - A) 6) φ h1 hC6 h2 (fun hfit T' hS hCM hcE h27 => h3 hfit T' hS (fun k k1 k2 w hw => ?_) hcE h27) h4
  have := hCM (k + A - B) (by omega) (by omega) w hw
  rw [show k + A - B + B - A = k by omega] at this
  rw [this, ← hC (k + A - B) w (by omega) (by omega) hw, show k + A - B + B - A = k by omega]
/-- place: what it does to the memory -/
theorem x_place (hp : rPa T0 a c n nv nf) (hpa : p + a = 1) {m g t xg K1 E1 vL fL W1 FA V1 F1 : Nat} {RA RB : Nat → Nat} {us ub : List Nat} {mtA mtB : Nat → Prop} {φ : Int → gT → Prop} (hS : cpS T0 T p L vL fL) (hL : L < n) (hs : sgP c n nf L) (ht : onF c n nf L = (t : Int)) (ht2 : t < nf) (hg : g = lbN c n t) (hm4 : c L 4 = (m : Int)) (hx : c g 1 = (xg : Int)) (hg3 : c g 3 = ((g + 1 : Nat) : Int)) (hC0 : ∀ w, C L w = xTok 5 (vL : Int) (-1) ((L + 1 : Nat) : Int) (K1 : Int) (-1) (c L 6) w) (hCA : C (L + 1) 6 = (L : Int)) (hCB : C K1 6 = (L : Int)) (c6r : -1 ≤ c L 6 ∧ c L 6 < 200) (xgr : xg < 100) (hK : L + 1 ≤ K1 ∧ K1 ≤ E1) (hW : vL + 1 ≤ W1 ∧ W1 ≤ V1) (hF : FA ≤ F1)
    (hA : cpX sa b E (d + 4) T0 p C RA (-1) m us mtA (L + 1) (vL + 1) fL K1 W1 FA) (hB : cpX sa b E (d + 4) T0 p C RB (-1) (g + 1) ub mtB K1 W1 FA E1 V1 F1) (huA : ∀ y, y ∈ us → mtA y → vI T 27 y = (RA y : Int)) (huB : ∀ y, y ∈ ub → mtB y → y = xg) (hRB : RB xg = vL)
    (kY : (E1 ≤ 200 ∧ V1 ≤ 100 ∧ F1 ≤ 50) → ∀ T', cpS T0 T' p E1 V1 F1 → CC T' p C L E1 → cE T T' p L → (∀ y, vI T' 27 y = vI T 27 y) → φ (L : Int) T') (kN : ¬ (E1 ≤ 200 ∧ V1 ≤ 100 ∧ F1 ≤ 50) → ∀ v T', cpF T0 T' p → okI v → φ v T') :
    gC (tP sa) lM b E (d + 5) mX7_place [.ref (b + 0), .int (zI (L : Int)), .int (zI (c L 6))] T (fun r T' => pI r (fun v => φ v T')) := by
  unfold cpX at hA hB
  rw [hCA] at hA
  rw [hCB] at hB
  have hn := hp.1.1
  have hnf := hp.1.2.2.1
  have hnv := hp.1.2.1
  obtain ⟨s1, s2, s3, s4, s5, s6, s7, s8⟩ := id hS
  have hpT := cp_P hp hpa s1
  obtain ⟨i1, i2, i3, i4, i5, i6, i7, _⟩ := hpT.2.1
  obtain ⟨ga, gb, gc⟩ := lbN_ok (c := c) (n := n) (t := t) (by have := hp.1.flat.2.1; omega)
  rw [← hg] at ga gb gc
  refine w_X7_place (d := d + 3) ?_
  unfold f_X7_place
  have e1p : 1 - vI T 0 3 = (p : Int) := by omega
  refine c_only (d := d + 2) hpT hL hs ?_
  have el := i7 _ ga gb
  rw [gc] at el
  rw [ht, e1p, Int.toNat_natCast, Int.toNat_natCast, el, s2]
  refine ⟨by omega, by omega, fun z => absurd s8 z, fun _ => ⟨by omega, by omega, fun z200 => ?_, fun z200 => by omega⟩⟩
  have hL2 : L < 200 := by omega
  refine w_X7_place_44 (d := d + 3) ?_
  unfold f_X7_place_44
  refine ⟨Or.inl rfl, by omega, fun _ => ?_, fun z => absurd rfl z⟩
  have e49 : gI T 0 49 (zI 0) = T := gI_same (vI_to s8)
  rw [e49]
  refine k_beg' (d := d + 3) (by omega) hS hL2 (fun hS2 => ?_)
  generalize hT2 : mBeg T p L (zI 5) (zI (-1)) (zI (c L 6)) = T2 at hS2
  have row2 : cR T2 p L (xTok 5 (-1) (-1) (-1) (-1) (-1) (c L 6)) := by rw [← hT2]; exact cR_beg (by omega) (by omega) (by omega)
  have e02 : cE T T2 p L := by rw [← hT2]; exact cE_beg
  have t27 : ∀ y, vI T2 27 y = vI T 27 y := fun y => by rw [← hT2, v27_beg]
  have j2 := (cp_P hp hpa hS2.1).2.1.2.1
  clear hT2 e49 el i4 i6 i7 i5
  rw [Int.toNat_natCast]
  refine k_fresh (d := d + 3 + 1) i1 hpa j2 hS2 (fun hmm T3 hS3 hI3 => ?_) (fun hmm T3 hF' => ?_)
  · have q27 : ∀ y, vI T3 27 y = vI T2 27 y := fun y => by unfold vI; rw [hI3 27 y (by intro z; cases z.1) (by intro z; cases z.1)]
    have q4 : ∀ i, vI T3 4 i = vI T2 4 i := fun i => by unfold vI; rw [hI3 4 i (by intro z; cases z.1) (by intro z; cases z.1)]
    have hS4 := hS3.cst (l := L) (w := 1) (x := (vL : Int)) hL2 (by decide)
    have hT3' := (cp_P hp hpa hS3.1).2.1.2.1
    obtain ⟨_, _, _, k4, _⟩ := (cp_P hp hpa hS4.1).2.1
    rw [Int.toNat_natCast, show (vI T3 0 3).toNat = a by omega, k4 L 4 hL (by decide), hm4]
    clear hI3 k4
    refine ⟨by omega, by omega, by omega, by omega, ?_⟩
    refine (hA _ _ hS4 (fun y y1 y2 => ?_) (fun hfit T5 hS5 hCM hcE h27 => ⟨by omega, by omega, ?_⟩) (fun hno v T5 hF' hv => ⟨by omega, by omega, ?_⟩)).mono (by omega) (fun _ _ z => z)
    · rw [v27_cS, q27, t27]; exact huA y y1 y2
    · have hS6 := hS5.cst (l := L) (w := 3) (x := ((L + 1 : Nat) : Int)) hL2 (by decide)
      have hT5' := (cp_P hp hpa hS5.1).2.1.2.1
      have hS7 := hS6.row (i := xg) (x := zI (vL : Int))
      obtain ⟨_, _, _, k4', _⟩ := (cp_P hp hpa hS6.1).2.1
      obtain ⟨_, _, _, y4', _⟩ := (cp_P hp hpa hS7.1).2.1
      rw [show (vI T5 0 3).toNat = a by omega, Int.toNat_natCast, k4' g 1 ga (by decide), hx, Int.toNat_natCast, y4' g 3 ga (by decide), hg3]
      clear k4' y4'
      refine ⟨fun _ => ⟨by omega, by omega, by omega, by omega, by omega, ?_⟩, fun z => absurd hS5.2.2.2.2.2.2.2 z⟩
      have r27 : ∀ y, vI (cS T5 p L 3 ((L + 1 : Nat) : Int)) 27 y = vI T 27 y := fun y => by rw [v27_cS, h27, v27_cS, q27, t27]
      refine (hB _ _ hS7 (fun y y1 y2 => ?_) (fun hfit2 T8 hS8 hCM2 hcE2 h27b => ⟨by omega, by omega, ?_⟩) (fun hno v T8 hF' hv => ⟨by omega, by omega, _, rfl, ?_⟩)).mono (by omega) (fun _ _ z => z)
      · rw [v27_s (by unfold okI; omega), huB y y1 y2, if_pos rfl, hRB]
      · have hce2 : cE (cS T5 p L 3 ((L + 1 : Nat) : Int)) T8 p K1 := cE.trans' cE_row hcE2
        refine ⟨_, rfl, kY hfit2 _ (cpS.row (hS8.cst hL2 (by decide))) (CC.row ?_) ?_ (fun y => ?_)⟩
        · refine CC.cat (y := L + 1) (CC.one (t := tokS (tokS (tokS (xTok 5 (-1) (-1) (-1) (-1) (-1) (c L 6)) 1 (vL : Int)) 3 ((L + 1 : Nat) : Int)) 4 (K1 : Int)) ?_ (fun w hw7 => ?_)) (CC.cat (y := K1) ?_ ?_)
          · refine cR_cS ?_ (by decide) (by omega)
            refine cR.cE (T := cS T5 p L 3 ((L + 1 : Nat) : Int)) ?_ hce2 (by omega)
            refine cR_cS ?_ (by decide) (by omega)
            exact cR.cE (T := cS T3 p L 1 (vL : Int)) (cR_cS (row2.of4 q4) (by decide) (by omega)) hcE (by omega)
          · rw [hC0]
            have : w = 0 ∨ w = 1 ∨ w = 2 ∨ w = 3 ∨ w = 4 ∨ w = 5 ∨ w = 6 := by omega
            rcases this with e | e | e | e | e | e | e <;> subst e <;> rfl
          · exact CC.cst (CC.cE (CC.cst hCM (by omega) (by decide)) hce2 (Nat.le_refl _)) (by omega) (by decide)
          · exact CC.cst hCM2 (by omega) (by decide)
        · refine e02.trans' (cE.trans' (T' := cS T3 p L 1 (vL : Int)) (cE.trans' (T' := T3) (fun m w hm hw => q4 _) cE_cS) ?_)
          refine cE.trans' (T' := T5) (fun m w hm hw => hcE m w (by omega) hw) (cE.trans' (T' := cS T5 p L 3 ((L + 1 : Nat) : Int)) cE_cS ?_)
          exact cE.trans' (T' := T8) (fun m w hm hw => hce2 m w (by omega) hw) (cE.trans' cE_cS cE_row)
        · rw [v27_s ⟨vI_lo _ _ _, vI_hi _ _ _⟩, v27_cS, h27b, v27_s (by unfold okI; omega)]
          by_cases ey : y = xg
          · rw [if_pos ey, ey]
            have := r27 xg; rw [v27_cS] at this; exact this
          · rw [if_neg ey, if_neg ey, r27]
      · exact kN hno _ _ (cpF.row (hF'.cst hL2 (by decide))) (by unfold okI; omega)
    · have hF2 := hF'.cst (l := L) (w := 3) (x := v) hL2 (by decide)
      rw [Int.toNat_natCast]
      exact ⟨fun z => by have := hF'.2.1; omega, fun _ => ⟨_, rfl, kN (by omega) _ _ hF2 (by unfold okI; omega)⟩⟩
  · have hno : ¬ (E1 ≤ 200 ∧ V1 ≤ 100 ∧ F1 ≤ 50) := by omega
    have hT3' := (cp_P hp hpa hF'.1).2.1.2.1
    have hF4 := hF'.cst (l := L) (w := 1) (x := 100) hL2 (by decide)
    rw [Int.toNat_natCast]
    refine ⟨by omega, by omega, by omega, by omega, ?_⟩
    refine k_copyF (d := d + 2) hF4 ⟨by omega, by omega, ?_⟩
    have hF5 := hF4.cst (l := L) (w := 3) (x := -1) hL2 (by decide)
    rw [Int.toNat_natCast]
    exact ⟨fun z => by have := hF4.2.1; omega, fun _ => ⟨_, rfl, kN hno _ _ hF5 (by unfold okI; omega)⟩⟩
/-- the argument of a call, with what is in sight of the call -/
theorem arg_wf {f9 : Nat} {us : List Nat} (hk : c L 0 = 11) (h9 : wf c f9 L (en c L) (c L 6) us (vcn c L) (vcn c (en c L)) (fcn c L) (fcn c (en c L))) : ∃ f8, wf c f8 (c L 4).toNat (en c L) (L : Int) us (vcn c (c L 4).toNat) (vcn c (en c L)) (fcn c (c L 4).toNat) (fcn c (en c L)) := by
  cases f9 with
  | zero => exact h9.elim
  | succ f9 =>
    obtain ⟨_, hh⟩ := h9
    have hv' : vcn c (L + 1) = vcn c L + (if c L 0 = 3 then 2 else if c L 0 = 2 ∨ c L 0 = 5 then 1 else 0) := rfl
    have hf' : fcn c (L + 1) = fcn c L + (if c L 0 = 2 ∨ c L 0 = 3 then 1 else 0) := rfl
    rcases hh with hh | hh | hh | hh | hh | hh | hh
    · omega
    · omega
    · omega
    · omega
    · omega
    · omega
    · obtain ⟨k0, _, _, _, _, m, v, g9, k4, h1, h2'⟩ := hh
      rw [if_neg (by omega), if_neg (by omega)] at hv'; rw [if_neg (by omega)] at hf'
      have b1 := wf_cnt _ _ _ _ _ _ _ _ _ h1
      obtain rfl : v = vcn c m := by omega
      obtain rfl : g9 = fcn c m := by omega
      have em : (c L 4).toNat = m := by omega
      rw [em]
      exact ⟨f9, h2'⟩
theorem lam_wf {g fg : Nat} {vg : List Nat} (hg2 : c g 0 = 2) (hgw : wf c fg g (en c g) (c g 6) vg (vcn c g) (vcn c (en c g)) (fcn c g) (fcn c (en c g))) : c g 1 = (vcn c g : Int) ∧ c g 3 = ((g + 1 : Nat) : Int) ∧ vcn c (g + 1) = vcn c g + 1 ∧ ∃ fb, wf c fb (g + 1) (en c g) (g : Int) (vcn c g :: vg) (vcn c (g + 1)) (vcn c (en c g)) (fcn c (g + 1)) (fcn c (en c g)) := by
  cases fg with
  | zero => exact hgw.elim
  | succ fb =>
    have hv' : vcn c (g + 1) = vcn c g + (if c g 0 = 3 then 2 else if c g 0 = 2 ∨ c g 0 = 5 then 1 else 0) := rfl
    have hf' : fcn c (g + 1) = fcn c g + (if c g 0 = 2 ∨ c g 0 = 3 then 1 else 0) := rfl
    rw [if_neg (by omega), if_pos (Or.inl hg2)] at hv'; rw [if_pos (Or.inl hg2)] at hf'
    obtain ⟨_, hh⟩ := hgw
    rcases hh with hh | hh | hh | hh | hh | hh | hh
    · omega
    · omega
    · exact ⟨hh.2.1, hh.2.2.2.1, hv', fb, by rw [hv', hf']; exact hh.2.2.2.2.2.2⟩
    · omega
    · omega
    · omega
    · omega
theorem fre_wf (hw : wP c n nv nf) {g : Nat} (hg : g < n) (hg2 : c g 0 = 2) (x1 : c g 1 = (vcn c g : Int)) (hge : en c g ≤ n) (hfr : frc c g = 0) (y k : Nat) (k1 : g ≤ k) (k2 : k < en c g) (k3 : c k 0 = 0) (k4 : c k 1 = (y : Int)) : vcn c g ≤ y := by
  by_cases z : vcn c g ≤ y
  · exact z
  · exfalso
    have hlt := ((hw.flat.2.2.2) k (by omega)).1.2.1 (Or.inl k3)
    have := sm_zero hfr y (by have := hw.2.1; omega)
    have q : mcn c y (en c g) ≠ mcn c y g ∧ (y : Int) < v0c c g := by
      refine ⟨(mcn_ne (en c g) (by omega)).mpr ⟨k, k1, k2, k3, k4⟩, ?_⟩
      unfold v0c; rw [if_neg (by omega), x1]; omega
    rw [if_pos q] at this
    omega
/-- a function's body stands in the place of a call of it -/
theorem seg_inl (hp : rPa T0 a c n nv nf) (hpa : p + a = 1) (hL : L < n) (hi : inP c n nf L) {g : Nat} (hg : g = lbN c n (onF c n nf L).toNat) (f9 : Nat) (us : List Nat) (h9 : wf c f9 L (en c L) (c L 6) us (vcn c L) (vcn c (en c L)) (fcn c L) (fcn c (en c L))) (hus : ∀ x, x ∈ us → x < vcn c L) :
    cpX sa b E (d + 4 + 404) T0 p (iC c L g) (Rm c L (en c L) (iV c L g)) (L : Int) L us (fun _ => True) L (vcn c L) (fcn c L) (iE c L g) (iV c L g) (iF c L g) := by
  have hw := hp.1
  have hn := hw.1
  have hnv := hw.2.1
  have hk := hi.1.1
  obtain ⟨t, t1, t2⟩ := onF_r hi.1
  have hg' : g = lbN c n t := by rw [hg, t1, Int.toNat_natCast]
  have hg2 : c g 0 = 2 := by rw [hg]; exact hi.2.1
  have hfr : frc c g = 0 := by rw [hg]; exact hi.2.2.1
  obtain ⟨ga, gb, gc⟩ := lbN_ok (c := c) (n := n) (t := t) (by have := hw.flat.2.1; omega)
  rw [← hg'] at ga gb gc
  obtain ⟨f, vs, h, h2, h3, n1, n2, n3, n4, n5, n6, n7, _, n8⟩ := nums hw hL (Or.inr hk)
  clear h h3 n8
  have c6r : -1 ≤ c L 6 ∧ c L 6 < 200 := by
    by_cases z : L = 0
    · rw [z, hw.flat.2.2.1]; omega
    · have := (hw.flat.2.2.2 L hL).2 (by omega); omega
  obtain ⟨f8, hb⟩ := arg_wf hk h9
  have hb2 := wf_fuel _ 200 _ _ _ _ _ _ _ _ (by omega) (wf_small _ _ _ _ _ _ _ _ _ hb)
  obtain ⟨fg, vg, hgw, hg3, hg4⟩ := hw.at2 ga
  obtain ⟨x1, x3, x2, fb, hbb⟩ := lam_wf hg2 hgw
  have a1 := wf_lt _ _ _ _ _ _ _ _ _ hbb
  have hbb2 := wf_fuel _ 200 _ _ _ _ _ _ _ _ (by omega) (wf_small _ _ _ _ _ _ _ _ _ hbb)
  have free := fre_wf hw ga hg2 x1 hg3 hfr
  have xgr : vcn c g < 100 := by have := ((hw.flat.2.2.2) g ga).1.2.1 (Or.inr (Or.inl hg2)); omega
  clear hgw hb hbb h9
  generalize hm : (c L 4).toNat = m at *
  have eK : iK c L = L + 1 + (en c L - m) := by unfold iK; rw [hm]
  have eE : iE c L g = iK c L + (en c g - (g + 1)) := rfl
  have eW : iW c L = vcn c L + 1 + (vcn c (en c L) - vcn c m) := by unfold iW; rw [hm]
  have eV : iV c L g = iW c L + (vcn c (en c g) - vcn c (g + 1)) := rfl
  have eF : iF c L g = fcn c L + (fcn c (en c L) - fcn c m) + (fcn c (en c g) - fcn c (g + 1)) := by unfold iF; rw [hm]
  have c0L : ∀ w, iC c L g L w = xTok 5 (vcn c L : Int) (-1) ((L + 1 : Nat) : Int) (iK c L : Int) (-1) (c L 6) w := fun w => by unfold iC; rw [if_neg (by omega), if_pos rfl]
  have cAr : ∀ j w, m ≤ j → j < en c L → iC c L g (j + (L + 1) - m) w = mvC c m (L + 1) (vcn c m) (vcn c L + 1) (iRa c L) (L : Int) m j w := fun j w j1 j2 => by
    unfold iC
    rw [if_neg (by omega), if_neg (by omega), if_pos (by omega), hm, show j + (L + 1) - m + m - (L + 1) = j by omega]
  have cBr : ∀ j w, g + 1 ≤ j → j < en c g → iC c L g (j + iK c L - (g + 1)) w = mvC c (g + 1) (iK c L) (vcn c (g + 1)) (iW c L) (iRb c L g) (L : Int) (g + 1) j w := fun j w j1 j2 => by
    unfold iC
    rw [if_neg (by omega), if_neg (by omega), if_neg (by omega), if_pos (by omega), show j + iK c L - (g + 1) + (g + 1) - iK c L = j by omega]
  have cA6 : iC c L g (L + 1) 6 = (L : Int) := by
    have := cAr m 6 (Nat.le_refl _) n2
    rw [show m + (L + 1) - m = L + 1 by omega, mvC_6, if_pos rfl] at this
    exact this
  have cB6 : iC c L g (iK c L) 6 = (L : Int) := by
    have := cBr (g + 1) 6 (Nat.le_refl _) a1.1
    rw [show g + 1 + iK c L - (g + 1) = iK c L by omega, mvC_6, if_pos rfl] at this
    exact this
  have gA := cp_plain (sa := sa) (b := b) (E := E) (d := d) (A := m) (B := L + 1) (Av := vcn c m) (Bv := vcn c L + 1) (R := iRa c L) hp hpa 200 m (en c L) _ _ _ _ _ _ (-1) hb2 (fun x hx => by have := hus x hx; omega) h2 (Nat.le_refl _) (Nat.le_refl _) (by unfold okI; omega) (by omega) (fun y y1 y2 => by unfold iRa; rw [hm, if_neg (by omega)])
  have gB := cp_plain (sa := sa) (b := b) (E := E) (d := d) (A := g + 1) (B := iK c L) (Av := vcn c (g + 1)) (Bv := iW c L) (R := iRb c L g) hp hpa 200 (g + 1) (en c g) _ _ _ _ _ _ (-1) hbb2 (fun x hx => by
    rcases List.mem_cons.mp hx with z | z
    · omega
    · have := hg4 x z; omega) (by omega) (Nat.le_refl _) (Nat.le_refl _) (by unfold okI; omega) (by omega) (fun y y1 y2 => by unfold iRb; rw [if_neg (by omega)])
  have xA := gA.toM (C := iC c L g) (q := fcn c L) (n0 := L + 1) (m0 := vcn c L + 1) (n1 := iK c L) (m1 := iW c L) (q1 := fcn c L + (fcn c (en c L) - fcn c m)) (Nat.le_refl _) (by omega) (by omega) (by omega) (by omega) (by omega) (fun j w j1 j2 _ => by rw [cA6]; exact cAr j w j1 j2) (by rw [cA6]; omega)
  have xB := gB.toM (C := iC c L g) (q := fcn c L + (fcn c (en c L) - fcn c m)) (n0 := iK c L) (m0 := iW c L) (n1 := iE c L g) (m1 := iV c L g) (q1 := iF c L g) (Nat.le_refl _) (by omega) (by omega) (by omega) (by omega) (by omega) (fun j w j1 j2 _ => by rw [cB6]; exact cBr j w j1 j2) (by rw [cB6]; omega)
  clear gA gB hb2 hbb2 cAr cBr
  intro T φ hS hu kY kN
  have hpT := cp_P hp hpa hS.1
  obtain ⟨i1, i2, i3, i4, _⟩ := hpT.2.1
  have c06 : iC c L g L 6 = c L 6 := by rw [c0L]; rfl
  rw [c06]
  refine w_X7_copy (d := d + 4 + 402) ?_
  unfold f_X7_copy
  rw [show (vI T 0 3).toNat = a by omega, Int.toNat_natCast, i4 L 0 hL (by decide)]
  refine ⟨fun _ => ⟨by omega, by omega, fun z => absurd rfl z, fun _ => ⟨by omega, by omega, fun _ => ?_, fun z => by omega⟩⟩, fun z => absurd hS.2.2.2.2.2.2.2 z⟩
  refine (x_place (d := d + 400) hp hpa hS hL hi.1 t1 t2 hg' n3 x1 x3 c0L cA6 cB6 c6r xgr (by omega) (by omega) (by omega) (xA.mono (by omega)) (xB.mono (by omega)) (fun y y1 _ => ?_) (fun y y1 ⟨k, q1, q2, q3, q4⟩ => ?_) ?_ kY kN).mono (by omega) (fun r T' hr => ?_)
  · have hyl := hus y y1
    rw [hu y y1 trivial]
    show ((muM _ _ _ y : Nat) : Int) = _
    unfold muM iRa
    rw [hm, if_pos hyl, if_pos (by omega)]
  · have hy := free y k (by omega) q2 q3 q4
    rcases List.mem_cons.mp y1 with z | z
    · exact z
    · have := hg4 y z; omega
  · unfold iRb; rw [if_pos (by omega)]
  · obtain ⟨v, rfl, hv⟩ := hr
    exact ⟨v, rfl, _, rfl, hv⟩
end C9
