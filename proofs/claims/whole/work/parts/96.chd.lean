/-! THE REFERENCE: inline, drop -/
/-- what inline and drop answer, and the program that stands then -/
def aChg (x : aPg) (y : aPg) : Int × Option aPg := if y.2.1 ≤ 200 ∧ y.2.2.1 ≤ 100 ∧ y.2.2.2 ≤ 50 then ((y.2.1 : Int), some y) else (-1, none)
def aInl (po : Option aPg) (rn : aRn) (l : Int) : Int × Option aPg × aRn := match po with
  | none => (-2, none, rn)
  | some x => if (0 ≤ l ∧ l < (x.2.1 : Int)) ∧ x.1 l.toNat 0 = 11 then
      (if inP x.1 x.2.1 x.2.2.2 l.toNat ∧ (iP x l.toNat (lbN x.1 x.2.1 (onF x.1 x.2.1 x.2.2.2 l.toNat).toNat)).2.1 ≤ 200 ∧ (iP x l.toNat (lbN x.1 x.2.1 (onF x.1 x.2.1 x.2.2.2 l.toNat).toNat)).2.2.1 ≤ 100 ∧ (iP x l.toNat (lbN x.1 x.2.1 (onF x.1 x.2.1 x.2.2.2 l.toNat).toNat)).2.2.2 ≤ 50
      then (((iP x l.toNat (lbN x.1 x.2.1 (onF x.1 x.2.1 x.2.2.2 l.toNat).toNat)).2.1 : Int), some (iP x l.toNat (lbN x.1 x.2.1 (onF x.1 x.2.1 x.2.2.2 l.toNat).toNat)), rn0) else (-1, some x, rn)) else (-2, some x, rn)
def aDrp (po : Option aPg) (rn : aRn) (l : Int) : Int × Option aPg × aRn := match po with
  | none => (-2, none, rn)
  | some x => if (0 ≤ l ∧ l < (x.2.1 : Int)) ∧ x.1 l.toNat 0 = 5 then
      (if drP x.1 x.2.1 l.toNat then (((dP x l.toNat).2.1 : Int), some (dP x l.toNat), rn0) else (-1, some x, rn)) else (-2, some x, rn)
section CD
variable {sa : Nat → Nat} {b : Nat} {E : Nat × mH} {d : Nat} {T : gT} {A : aSt} {a p : Nat} {c : Nat → Nat → Int} {n nv nf L : Nat}
/-- a frame that leaves the state: nothing of the program a that stands -/
theorem fr_A {T' : gT} {u : Nat → Nat} {m : Nat} {x : aPg} {rn : aRn} (h : rA T (u, m, some x, rn)) (ha : vI T 0 3 = (a : Int)) (hpa : p + a = 1) (hf : fr (Wk p) T T') : rA T' (u, m, some x, rn) := by
  obtain ⟨h1, h2, ⟨a', h3⟩, h4⟩ := h
  have : a' = a := by have := h3.2.1.2.1; omega
  subst this
  refine ⟨h1.of (fun i => hf.1 1 i (by unfold Wk; omega)) (hf.1 0 2 (by unfold Wk; omega)), by rw [hf.v (by unfold Wk; omega)]; exact h2, ⟨a', cp_P h3 hpa hf⟩, h4.of (hf.v (by unfold Wk; omega)) (hf.v (by unfold Wk; omega)) (by rw [hf.2]) (fun l => by rw [hf.2])⟩
/-- changed: the copy stands, or nothing has changed -/
theorem c_changed {u : Nat → Nat} {m : Nat} {rn : aRn} {y : aPg} {φ : Int → gT → Prop} (hA : rA T (u, m, some (c, n, nv, nf), rn)) (hp : rPa T a c n nv nf) (hL : L < n) (hy : (y.2.1 ≤ 200 ∧ y.2.2.1 ≤ 100 ∧ y.2.2.2 ≤ 50) → wP y.1 y.2.1 y.2.2.1 y.2.2.2) (hy0 : y.1 0 6 = -1) {R : Nat → Nat}
    (hX : ∀ T0, rPa T0 a c n nv nf → cpX sa b E (d + 810) T0 (1 - a) y.1 R (L : Int) 0 [] (fun _ => True) 0 0 0 y.2.1 y.2.2.1 y.2.2.2)
    (kY : (y.2.1 ≤ 200 ∧ y.2.2.1 ≤ 100 ∧ y.2.2.2 ≤ 50) → ∀ T', T'.2.2 = T.2.2 → rA T' (u, m, some y, rn0) → φ (y.2.1 : Int) T') (kN : ¬ (y.2.1 ≤ 200 ∧ y.2.2.1 ≤ 100 ∧ y.2.2.2 ≤ 50) → ∀ T', T'.2.2 = T.2.2 → rA T' (u, m, some (c, n, nv, nf), rn) → φ (-1) T') :
    gC (tP sa) lM b E (d + 811) mX7_changed [.ref (b + 0), .int (zI (L : Int))] T (fun r T' => pI r (fun v => φ v T')) := by
  obtain ⟨i1, i2, i3, i4, i5, _⟩ := hp.2.1
  have hn := hp.1.1
  obtain ⟨p, hpp⟩ : ∃ p, 1 - a = p := ⟨_, rfl⟩
  have hpa : p + a = 1 := by omega
  rw [hpp] at hX
  have e1p : 1 - vI T 0 3 = (p : Int) := by omega
  refine w_X7_changed (d := d + 810) ?_
  unfold f_X7_changed
  rw [e1p, Int.toNat_natCast]
  refine ⟨by omega, by omega, ?_⟩
  generalize hT1 : gI (gI (gI (gI T 2 p (zI 0)) 3 p (zI 0)) 0 48 (zI 0)) 0 49 (zI 0) = T1
  have f1 : fr (Wk p) T T1 := by rw [← hT1]; exact (((fr.refl.gI (Or.inr (Or.inl ⟨by omega, rfl⟩))).gI (Or.inr (Or.inl ⟨by omega, rfl⟩))).gI (Or.inl ⟨rfl, by omega⟩)).gI (Or.inl ⟨rfl, by omega⟩)
  have hS : cpS T T1 p 0 0 0 := by
    refine ⟨f1, ?_, by omega, ?_, by omega, ?_, by omega, ?_⟩
    · rw [← hT1, v_o (by omega), v_o (by omega), v_o (by omega), v_s (by omega)]; rfl
    · rw [← hT1, v_o (by omega), v_o (by omega), v_s (by omega)]; rfl
    · rw [← hT1, v_o (by omega), v_s (by omega)]; rfl
    · rw [← hT1, v_s (by omega)]
  have hx := hX T hp
  unfold cpX at hx
  rw [hy0] at hx
  refine hx T1 _ hS (fun y hy => by cases hy) (fun hfit T2 hS2 hCC hcE h27 => ⟨fun _ => ?_, fun z => absurd hS2.2.2.2.2.2.2.2 z⟩) (fun hno v T2 hF hv => ⟨fun z => by have := hF.2.1; omega, fun _ => ⟨_, rfl, kN hno T2 (by rw [hF.1.2]) (fr_A hA i2 hpa hF.1)⟩⟩)
  have hA2 := fr_A hA i2 hpa hS2.1
  have hT3 : vI T2 0 3 = (a : Int) := (cp_P hp hpa hS2.1).2.1.2.1
  refine (c_change (d := d + 806) (T := T2) (p := p) (c := y.1) (n := y.2.1) (nv := y.2.2.1) (nf := y.2.2.2) (hy hfit) (by omega) (by omega) hS2.2.1 hS2.2.2.2.1 (fun l w hl hw7 => hCC l (Nat.zero_le _) hl w hw7) (fun T3 hq hrn hf => ?_))
  obtain ⟨o1, o2, o3, _⟩ := hq.2.1
  rw [show (vI T3 0 3).toNat = p by omega, o3]
  refine ⟨by omega, by omega, _, rfl, kY hfit T3 (by rw [hf.2.2, hS2.1.2]) ⟨?_, by omega, ⟨p, hq⟩, hrn⟩⟩
  exact tx.of hA2.1 (fun i => hf.1 1 i (by unfold Wc; omega)) (hf.1 0 2 (by unfold Wc; omega))
theorem laN_0 {L eL E' : Nat} : laN L eL E' 0 = 0 := by unfold laN; rw [if_pos (Nat.zero_le _)]
theorem r_drop {l : Int} (hl : okI l) (h : rA T A) : gC (tP sa) lM b E (d + 813) mX7_drop [.ref (b + 0), .int (zI l)] T (qI T (aDrp A.2.2.1 A.2.2.2 l).1 (A.1, A.2.1, (aDrp A.2.2.1 A.2.2.2 l).2)) := by
  have h0 := h.t0
  obtain ⟨u, m, po, rn⟩ := A
  obtain ⟨h1, h2, h3, h4⟩ := id h0
  dsimp only at h1 h2 h3 h4 ⊢
  refine w_X7_drop (d := d + 811) ?_
  unfold f_X7_drop
  have no : (po = none ∨ ∃ x : aPg, po = some x ∧ ¬ ((0 ≤ l ∧ l < (x.2.1 : Int)) ∧ x.1 l.toNat 0 = 5)) → aDrp po rn l = (-2, po, rn) := fun q => by
    unfold aDrp
    rcases q with q | ⟨x, q, q2⟩
    · rw [q]
    · rw [q]; dsimp only; rw [if_neg q2]
  refine c_isLabel hl h2 h3 (fun x a hx hp l0 l1 => ⟨by omega, fun z => by omega, fun _ => ?_⟩) (fun q => ⟨by omega, fun _ => ⟨?_, rfl, ?_⟩, fun z => absurd rfl z⟩)
  · obtain ⟨c, n, nv, nf⟩ := x
    dsimp only at hp l1
    obtain ⟨L, rfl⟩ : ∃ k : Nat, l = (k : Int) := ⟨l.toNat, by omega⟩
    have hL : L < n := by omega
    obtain ⟨m1, m2, m3, m4, _⟩ := hp.2.1
    have hn := hp.1.1
    subst hx
    rw [show (vI (gI T 0 0 (zI 0)) 0 3).toNat = a by omega, Int.toNat_natCast, m4 L 0 hL (by omega)]
    refine ⟨by omega, by omega, fun k5 => ?_, fun k5 => ⟨?_, rfl, ?_⟩⟩
    · have ey : aDrp (some (c, n, nv, nf)) rn (L : Int) = if drP c n L then (((dP (c, n, nv, nf) L).2.1 : Int), some (dP (c, n, nv, nf) L), rn0) else (-1, some (c, n, nv, nf), rn) := by
        unfold aDrp; dsimp only; rw [Int.toNat_natCast, if_pos ⟨⟨l0, l1⟩, k5⟩]
      refine c_canDrop (d := d + 810) hp hL (fun hd => ⟨by omega, fun z => by omega, fun _ => ?_⟩) (fun hd => ⟨by omega, fun _ => ⟨?_, rfl, ?_⟩, fun z => absurd rfl z⟩)
      · rw [ey, if_pos hd]
        obtain ⟨f, vs, hwf, hle, h3', n1, n2, n3, n4, n5, n6, n7, _, _⟩ := nums hp.1 hL (Or.inl hd.1)
        obtain ⟨F, hF, cv, cf⟩ := hp.1.can
        have hwP := dP_wP hp.1 hL hd
        have mE := vcn_mono (c := c) hle
        have mF := fcn_mono (c := c) hle
        have hF2 := wf_fuel _ 200 _ _ _ _ _ _ _ _ (by omega) (wf_small _ _ _ _ _ _ _ _ _ hF)
        have hEL : L < dE c L := by unfold dE; omega
        have hC : ∀ j w, 0 ≤ j → j < n → (j < L ∨ en c L ≤ j) → w < 7 → dC c L (laN L (en c L) (dE c L) j) w = moC c L (en c L) (dE c L) (vcn c L) (vcn c (en c L)) (dV c L) j w := by
          intro j w _ j2 j3 hw7
          rcases j3 with z | z
          · have hla : laN L (en c L) (dE c L) j = j := by unfold laN; rw [if_pos (by omega)]
            rw [hla]; unfold dC; rw [if_pos z]
          · have hla : laN L (en c L) (dE c L) j = j + dE c L - en c L := by unfold laN; rw [if_neg (by omega)]
            rw [hla]; unfold dC
            rw [if_neg (by omega), if_neg (by omega), show j + dE c L - en c L + en c L - dE c L = j by omega]
        have hCL : dC c L L 6 = c L 6 := by
          unfold dC
          rw [if_neg (by omega), if_pos hEL, show L + (c L 4).toNat - L = (c L 4).toNat by omega, mvC_6, if_pos rfl]
        have hy0 : dC c L 0 6 = -1 := by
          by_cases z : L = 0
          · subst z; rw [hCL]; exact hp.1.flat.2.2.1
          · have := hC 0 6 (Nat.le_refl _) (by omega) (by omega) (by decide)
            rw [laN_0, moC_w (by decide), hp.1.flat.2.2.1, laM_lo (by omega)] at this
            exact this
        have hX : ∀ T0, rPa T0 a c n nv nf → cpX sa b E (d + 810) T0 (1 - a) (dC c L) (Rm c L (en c L) (dV c L)) (L : Int) 0 [] (fun _ => True) 0 0 0 (n + dE c L - en c L) (nv + dV c L - vcn c (en c L)) (nf + dF c L - fcn c (en c L)) := by
          intro T0 hp0
          have := cp_path (sa := sa) (b := b) (E := E) (d := d) (G := 402) (p := 1 - a) (C := dC c L) (L := L) (eL := en c L) (E' := dE c L) (V' := dV c L) (F' := dF c L) hp0 (by omega) (by omega) hL rfl (by unfold dV; omega) (by unfold dF; omega) hEL (fun us f9 h9 hus => seg_drop hp0 (by omega) hL hd f9 us h9 hus) hCL 200 0 n (-1) [] hF2 (fun x hx => by cases hx) (by omega) (by omega) (Nat.le_refl _) (Nat.zero_le _) hL hC
          rw [cv, cf] at this
          exact this.mono (by omega)
        refine (c_changed (d := d) (φ := fun v T' => qI T ((dP (c, n, nv, nf) L).2.1 : Int) (u, m, some (dP (c, n, nv, nf) L), rn0) (some (.int (zI v))) T') (y := dP (c, n, nv, nf) L) h0 hp hL (fun _ => hwP) hy0 hX (fun hfit T' ht hA' => ⟨rfl, ht, hA'⟩) (fun hno T' ht hA' => absurd ⟨hwP.1, hwP.2.1, hwP.2.2.1⟩ hno)).mono (by omega) (fun r T' hr => ?_)
        obtain ⟨v, rfl, hv⟩ := hr
        exact ⟨v, rfl, hv⟩
      · rw [ey, if_neg hd]
      · rw [ey, if_neg hd]; exact h0
    · rw [no (Or.inr ⟨_, rfl, fun q => k5 (by rw [Int.toNat_natCast] at q; exact q.2)⟩)]
    · rw [no (Or.inr ⟨_, rfl, fun q => k5 (by rw [Int.toNat_natCast] at q; exact q.2)⟩)]; exact h0
  · rw [no]
    rcases q with q | ⟨x, q, q2⟩
    · exact Or.inl q
    · exact Or.inr ⟨x, q, fun z => q2 z.1⟩
  · rw [no]
    · exact h0
    rcases q with q | ⟨x, q, q2⟩
    · exact Or.inl q
    · exact Or.inr ⟨x, q, fun z => q2 z.1⟩
theorem r_inline {l : Int} (hl : okI l) (h : rA T A) : gC (tP sa) lM b E (d + 815) mX7_inline [.ref (b + 0), .int (zI l)] T (qI T (aInl A.2.2.1 A.2.2.2 l).1 (A.1, A.2.1, (aInl A.2.2.1 A.2.2.2 l).2)) := by
  have h0 := h.t0
  obtain ⟨u, m, po, rn⟩ := A
  obtain ⟨h1, h2, h3, h4⟩ := id h0
  dsimp only at h1 h2 h3 h4 ⊢
  refine w_X7_inline (d := d + 813) ?_
  unfold f_X7_inline
  have no : (po = none ∨ ∃ x : aPg, po = some x ∧ ¬ ((0 ≤ l ∧ l < (x.2.1 : Int)) ∧ x.1 l.toNat 0 = 11)) → aInl po rn l = (-2, po, rn) := fun q => by
    unfold aInl
    rcases q with q | ⟨x, q, q2⟩
    · rw [q]
    · rw [q]; dsimp only; rw [if_neg q2]
  refine c_isLabel hl h2 h3 (fun x a hx hp l0 l1 => ⟨by omega, fun z => by omega, fun _ => ?_⟩) (fun q => ⟨by omega, fun _ => ⟨?_, rfl, ?_⟩, fun z => absurd rfl z⟩)
  · obtain ⟨c, n, nv, nf⟩ := x
    dsimp only at hp l1
    obtain ⟨L, rfl⟩ : ∃ k : Nat, l = (k : Int) := ⟨l.toNat, by omega⟩
    have hL : L < n := by omega
    obtain ⟨m1, m2, m3, m4, _⟩ := hp.2.1
    have hn := hp.1.1
    subst hx
    rw [show (vI (gI T 0 0 (zI 0)) 0 3).toNat = a by omega, Int.toNat_natCast, m4 L 0 hL (by omega)]
    refine ⟨by omega, by omega, fun k11 => ?_, fun k11 => ⟨?_, rfl, ?_⟩⟩
    · obtain ⟨g, hg0⟩ : ∃ g, g = lbN c n (onF c n nf L).toNat := ⟨_, rfl⟩
      have hg := hg0.symm
      have ey : aInl (some (c, n, nv, nf)) rn (L : Int) = if inP c n nf L ∧ (iP (c, n, nv, nf) L g).2.1 ≤ 200 ∧ (iP (c, n, nv, nf) L g).2.2.1 ≤ 100 ∧ (iP (c, n, nv, nf) L g).2.2.2 ≤ 50 then (((iP (c, n, nv, nf) L g).2.1 : Int), some (iP (c, n, nv, nf) L g), rn0) else (-1, some (c, n, nv, nf), rn) := by
        unfold aInl; dsimp only; rw [Int.toNat_natCast, if_pos ⟨⟨l0, l1⟩, k11⟩, hg0]
      refine c_canInline (d := d + 810) hp hL (fun T1 hf1 hi => ⟨by omega, fun z => by omega, fun _ => ?_⟩) (fun T1 hf1 hi => ⟨by omega, fun _ => ⟨?_, hf1.2.2, ?_⟩, fun z => absurd rfl z⟩)
      · rw [ey]
        have h01 := f15.st hf1 h0
        have hp1 := f15.p hf1 hp
        obtain ⟨t, t1, t2⟩ := onF_r hi.1
        obtain ⟨ga, gb, gc⟩ := lbN_ok (c := c) (n := n) (t := t) (by have := hp.1.flat.2.1; omega)
        have hgt : g = lbN c n t := by rw [← hg, t1, Int.toNat_natCast]
        rw [← hgt] at ga gb gc
        have hg2 : c g 0 = 2 := by rw [← hg]; exact hi.2.1
        have hfr : frc c g = 0 := by rw [← hg]; exact hi.2.2.1
        obtain ⟨f, vs, hwf, hle, h3', n1, n2, n3, n4, n5, n6, n7, _, _⟩ := nums hp.1 hL (Or.inr hi.1.1)
        obtain ⟨F, hF, cv, cf⟩ := hp.1.can
        have mE := vcn_mono (c := c) hle
        have mF := fcn_mono (c := c) hle
        have hF2 := wf_fuel _ 200 _ _ _ _ _ _ _ _ (by omega) (wf_small _ _ _ _ _ _ _ _ _ hF)
        have hEL : L < iE c L g := by unfold iE iK; omega
        have hC : ∀ j w, 0 ≤ j → j < n → (j < L ∨ en c L ≤ j) → w < 7 → iC c L g (laN L (en c L) (iE c L g) j) w = moC c L (en c L) (iE c L g) (vcn c L) (vcn c (en c L)) (iV c L g) j w := by
          intro j w _ j2 j3 hw7
          have eE : iE c L g = iK c L + (en c g - (g + 1)) := rfl
          have eK : L < iK c L := by unfold iK; omega
          rcases j3 with z | z
          · have hla : laN L (en c L) (iE c L g) j = j := by unfold laN; rw [if_pos (by omega)]
            rw [hla]; unfold iC; rw [if_pos z]
          · have hla : laN L (en c L) (iE c L g) j = j + iE c L g - en c L := by unfold laN; rw [if_neg (by omega)]
            rw [hla]; unfold iC
            rw [if_neg (by omega), if_neg (by omega), if_neg (by omega), if_neg (by omega), show j + iE c L g - en c L + en c L - iE c L g = j by omega]
        have hCL : iC c L g L 6 = c L 6 := by unfold iC; rw [if_neg (by omega), if_pos rfl]; rfl
        have hy0 : iC c L g 0 6 = -1 := by
          by_cases z : L = 0
          · subst z; rw [hCL]; exact hp.1.flat.2.2.1
          · have := hC 0 6 (Nat.le_refl _) (by omega) (by omega) (by decide)
            rw [laN_0, moC_w (by decide), hp.1.flat.2.2.1, laM_lo (by omega)] at this
            exact this
        have hX : ∀ T0, rPa T0 a c n nv nf → cpX sa b E (d + 2 + 810) T0 (1 - a) (iC c L g) (Rm c L (en c L) (iV c L g)) (L : Int) 0 [] (fun _ => True) 0 0 0 (n + iE c L g - en c L) (nv + iV c L g - vcn c (en c L)) (nf + iF c L g - fcn c (en c L)) := by
          intro T0 hp0
          have := cp_path (sa := sa) (b := b) (E := E) (d := d) (G := 404) (p := 1 - a) (C := iC c L g) (L := L) (eL := en c L) (E' := iE c L g) (V' := iV c L g) (F' := iF c L g) hp0 (by omega) (by omega) hL rfl (by unfold iV iW; omega) (by unfold iF; omega) hEL (fun us f9 h9 hus => seg_inl hp0 (by omega) hL hi hg.symm f9 us h9 hus) hCL 200 0 n (-1) [] hF2 (fun x hx => by cases hx) (by omega) (by omega) (Nat.le_refl _) (Nat.zero_le _) hL hC
          rw [cv, cf] at this
          exact this.mono (by omega)
        have hwP : ((iP (c, n, nv, nf) L g).2.1 ≤ 200 ∧ (iP (c, n, nv, nf) L g).2.2.1 ≤ 100 ∧ (iP (c, n, nv, nf) L g).2.2.2 ≤ 50) → wP (iP (c, n, nv, nf) L g).1 (iP (c, n, nv, nf) L g).2.1 (iP (c, n, nv, nf) L g).2.2.1 (iP (c, n, nv, nf) L g).2.2.2 := fun hfit => iP_wP hp.1 hL hi.1.1 ga hg2 hfr hfit.1 hfit.2.1 hfit.2.2
        refine (c_changed (d := d + 2) (φ := fun v T' => qI T (if inP c n nf L ∧ (iP (c, n, nv, nf) L g).2.1 ≤ 200 ∧ (iP (c, n, nv, nf) L g).2.2.1 ≤ 100 ∧ (iP (c, n, nv, nf) L g).2.2.2 ≤ 50 then (((iP (c, n, nv, nf) L g).2.1 : Int), some (iP (c, n, nv, nf) L g), rn0) else (-1, some (c, n, nv, nf), rn)).1 (u, m, (if inP c n nf L ∧ (iP (c, n, nv, nf) L g).2.1 ≤ 200 ∧ (iP (c, n, nv, nf) L g).2.2.1 ≤ 100 ∧ (iP (c, n, nv, nf) L g).2.2.2 ≤ 50 then (((iP (c, n, nv, nf) L g).2.1 : Int), some (iP (c, n, nv, nf) L g), rn0) else (-1, some (c, n, nv, nf), rn)).2) (some (.int (zI v))) T') (y := iP (c, n, nv, nf) L g) h01 hp1 hL hwP hy0 hX (fun hfit T' ht hA' => ?_) (fun hno T' ht hA' => ?_)).mono (by omega) (fun r T' hr => ?_)
        · rw [if_pos ⟨hi, hfit⟩]; exact ⟨rfl, ht.trans hf1.2.2, hA'⟩
        · rw [if_neg (fun q => hno q.2)]; exact ⟨rfl, ht.trans hf1.2.2, hA'⟩
        · obtain ⟨v, rfl, hv⟩ := hr
          exact ⟨v, rfl, hv⟩
      · rw [ey, if_neg (fun q => hi q.1)]
      · rw [ey, if_neg (fun q => hi q.1)]; exact f15.st hf1 h0
    · rw [no (Or.inr ⟨_, rfl, fun q => k11 (by rw [Int.toNat_natCast] at q; exact q.2)⟩)]
    · rw [no (Or.inr ⟨_, rfl, fun q => k11 (by rw [Int.toNat_natCast] at q; exact q.2)⟩)]; exact h0
  · rw [no]
    rcases q with q | ⟨x, q, q2⟩
    · exact Or.inl q
    · exact Or.inr ⟨x, q, fun z => q2 z.1⟩
  · rw [no]
    · exact h0
    rcases q with q | ⟨x, q, q2⟩
    · exact Or.inl q
    · exact Or.inr ⟨x, q, fun z => q2 z.1⟩
end CD
