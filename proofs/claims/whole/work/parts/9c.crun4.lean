section CM4
variable {sa : Nat → Nat} {b : Nat} {E : Nat × mH} {d : Nat} {T0 T T' : gT} {q most N N' : Nat} {c : Nat → Nat → Int} {n nv nf : Nat} {K : List mFr} {st : Nat} {us : Nat → Int64} {φ : gT → Prop}
theorem d_stk {l : Nat} (h : cB T0 T q most N K st us) (kk : ∀ T', cEn T0 T' q (2, (zI (l : Int)).toInt64, st, us) → φ T') : gC (tP sa) lD b E d mX2_end [.ref (b + 51), .int (zI 2), .long ((zI (l : Int)).toInt64)] T (fun r T' => pV r (φ T')) :=
  d_end (o := (2, (zI (l : Int)).toInt64, st, us)) h (by show okI 2; unfold okI; decide) (by show (2 : Int) ≠ -1; decide) rfl kk
theorem fit_cX {v : eT} {k : Int} {x : Int64} (hf : fit c n v none) (hX : cX T N v k x 0) : (isC v = none ∧ k = -1 ∧ nmV v = x) ∨ ∃ t e vs, isC v = some (t, e) ∧ k = (t : Int) ∧ t < fcn c n ∧ wAt c n (lbN c n t) vs ∧ fit c n e (some vs) ∧ ∃ r : Int, (-1 ≤ r ∧ r < (N : Int)) ∧ x = (zI r).toInt64 ∧ cX T N e 0 0 r := by
  rcases fit_isC hf with ⟨q, z, e, rfl⟩ | ⟨t, e, q, rfl, q2, vs, q3, q4⟩
  · rw [cX] at hX
    exact Or.inl ⟨q, hX.1, hX.2.symm⟩
  · rw [cX] at hX
    exact Or.inr ⟨t, e, vs, q, hX.1, q2, q3, q4, hX.2⟩
/-- next comes the expr m -/
theorem next_ok {m : Nat} {e v : eT} {W : Nat → Nat → Prop} (h : cB T0 T q most N K st us) (hm : m < 200) (he : cX T N e 0 0 (vI T 51 14)) : cCf T0 (gI T 51 13 (zI (m : Int))) q most (some (m, e), K, v, N, st, us) := by
  obtain ⟨hB, hc⟩ := h.fld (T' := gI T 51 13 (zI (m : Int))) (W := fun k i => k = 51 ∧ i = 13) (V := fun _ _ => False) (fG.refl.gI ⟨rfl, rfl⟩) (fun k i z => by omega) (fun k i z => z.elim)
  refine ⟨hB, v_s (by omega), ?_⟩
  rw [v_o (by omega)]; exact cX.of hc _ _ _ _ he
theorem i_rt : ∀ r : Fin 1001, (((zI ((r.val : Int) - 1)).toInt64).toInt32.toInt) = (r.val : Int) - 1 := by decide +kernel
theorem d_choose (hp : cPq T0 q c n nv nf) {l : Nat} {e v : eT} {h0 : Option eT} (h : cB T0 T q most N ((l, e, h0) :: K) st us) (hl : l < n) (hk : c l 0 = 4) (hv : cX T N v (vI T 51 15) (T.2.1 51 16) 0) (fv : fit c n v none) (he : cX T N e 0 0 (vI T 51 14)) (kk : ∀ T', cSt T0 T' q most (hd1 c n l e h0 K v N st us) → φ T') : gC (tP sa) lD b E (d + 2) mX2_choose [.ref (b + 51), .int (zI (l : Int))] T (fun r T' => pV r (φ T')) := by
  obtain ⟨b1, b2, b3, b4, b5, b6, b7, b8, b9⟩ := id h
  have hc := cP_of hp b1
  have hn := hc.1.1
  have hq := hc.2.1
  have r4 := (hc.1.flat.2.2.2 l hl).1.2.2.2.2.1 (by omega)
  have r5 := (hc.1.flat.2.2.2 l hl).1.2.2.2.2.2.1 hk
  rw [List.length_cons] at b4
  unfold hd1 at kk
  rw [if_pos hk] at kk
  refine w_X2_choose (d := d + 1) ?_
  unfold f_X2_choose
  obtain ⟨hP, hcc⟩ := h.pop
  have e12 : vI T 51 12 - 1 = (K.length : Int) := by omega
  rw [e12]
  have he' : cX (gI T 51 12 (zI (K.length : Int))) N e 0 0 (vI (gI T 51 12 (zI (K.length : Int))) 51 14) := by rw [v_o (by omega)]; exact cX.of hcc _ _ _ _ he
  have hcP := cP_of hp hP.1
  rcases fit_cX fv hv with ⟨y1, y2, y3⟩ | ⟨t, e', vs, y1, y2, _⟩
  · rw [y1] at kk
    dsimp only at kk
    rw [y3] at kk
    refine ⟨fun _ => ⟨q, hq, b8, fun z => ⟨by omega, rfl, ?_⟩, fun z => ⟨by omega, rfl, ?_⟩⟩, fun z => absurd y2 z⟩
    · rw [if_pos z] at kk
      rw [(cP_pt hcP hl).2.2, show c l 5 = ((c l 5).toNat : Int) by omega]
      exact kk _ (next_ok (W := fun _ _ => False) hP (by omega) he')
    · rw [if_neg z] at kk
      rw [(cP_pt hcP hl).2.1, show c l 4 = ((c l 4).toNat : Int) by omega]
      exact kk _ (next_ok (W := fun _ _ => False) hP (by omega) he')
  · rw [y1] at kk
    exact ⟨fun z => by omega, fun _ => d_stk h (fun T' hT => ⟨rfl, kk T' hT⟩)⟩
theorem d_reckon {l : Nat} {e w v : eT} {kw : Int} {xw : Int64} (h : cB T0 T q most N ((l, e, some w) :: K) st us) (hk : c l 0 ≠ 4 ∧ c l 0 ≠ 5 ∧ c l 0 ≠ 11) (ok : okI (c l 0)) (hkw : okI kw) (hv : cX T N v (vI T 51 15) (T.2.1 51 16) 0) (hw : cX T N w kw xw 0) (fv : fit c n v none) (fw : fit c n w none) (kk : ∀ T', cSt T0 T' q most (hd1 c n l e (some w) K v N st us) → φ T') : gC (tP sa) lD b E (d + 2) mX2_reckon [.ref (b + 51), .int (zI (l : Int)), .int (zI (c l 0)), .int (zI kw), .long xw] T (fun r T' => pV r (φ T')) := by
  obtain ⟨b1, b2, b3, b4, b5, b6, b7, b8, b9⟩ := id h
  rw [List.length_cons] at b4
  unfold hd1 at kk
  rw [if_neg hk.1, if_neg hk.2.1] at kk
  dsimp only at kk
  rw [if_neg hk.2.2] at kk
  refine w_X2_reckon (d := d + 1) ?_
  unfold f_X2_reckon
  have e12 : vI T 51 12 - 1 = (K.length : Int) := by omega
  rw [e12]
  obtain ⟨hP, hcc⟩ := h.pop
  refine ⟨hkw, fun z => ?_, fun z => ⟨fun z2 => ⟨ok, ?_⟩, fun z2 => ?_⟩⟩
  · rcases fit_cX fw hw with ⟨y1, y2, y3⟩ | ⟨t, e', vs, y1, y2, _⟩
    · exact absurd y2 z
    · refine d_stk h (fun T' hT => ⟨rfl, kk T' ?_⟩)
      rcases fit_cX fv hv with ⟨u1, _⟩ | ⟨t', e'', vs', u1, _⟩
      · rw [u1, y1]; exact hT
      · rw [u1]; exact hT
  · rcases fit_cX fw hw with ⟨y1, y2, y3⟩ | ⟨t, e', vs, y1, y2, _⟩
    · rcases fit_cX fv hv with ⟨u1, u2, u3⟩ | ⟨t', e'', vs', u1, u2, _⟩
      · rw [u1, y1] at kk
        dsimp only at kk
        rw [y3, u3] at kk
        have fin : ∀ x, opV (c l 0) xw (T.2.1 51 16) = x → gC (tP sa) lD b E (d + 1) mX2_come [.ref (b + 51), .int (zI (-1)), .long x] (gI T 51 12 (zI (K.length : Int))) (fun r T' => pV r ((fun r T' => pV r (φ T')) none T')) := by
          intro x hx
          rw [hx] at kk
          refine d_come hP (by unfold okI; omega) (w := vN x) ?_ (fun T' hT => ⟨rfl, kk T' hT⟩)
          unfold vN; rw [cX, Int64.ofInt_toInt]; exact ⟨rfl, rfl⟩
        refine ⟨fun k6 => fin _ ?_, fun k7 => fin _ ?_, fun k8 => fin _ ?_, fun k9 => ⟨fun y => fin _ ?_, fun y => fin _ ?_⟩, fun kz => ⟨fun y => fin _ ?_, fun y => fin _ ?_⟩⟩ <;> unfold opV
        · rw [if_pos k6]
        · rw [if_neg (by omega), if_pos k7]
        · rw [if_neg (by omega), if_neg (by omega), if_pos k8]
        · rw [if_neg (by omega), if_neg (by omega), if_neg (by omega), if_pos k9, if_neg y]
        · rw [if_neg (by omega), if_neg (by omega), if_neg (by omega), if_pos k9, if_pos y]
        · rw [if_neg kz.1, if_neg kz.2.1, if_neg kz.2.2.1, if_neg kz.2.2.2, if_neg y]
        · rw [if_neg kz.1, if_neg kz.2.1, if_neg kz.2.2.1, if_neg kz.2.2.2, if_pos y]
      · omega
    · omega
  · rcases fit_cX fv hv with ⟨u1, u2, u3⟩ | ⟨t', e'', vs', u1, u2, _⟩
    · exact absurd u2 z2
    · rw [u1] at kk
      exact d_stk h (fun T' hT => ⟨rfl, kk T' hT⟩)
theorem d_enter (hp : cPq T0 q c n nv nf) {l : Nat} {e w v : eT} {kw : Int} {xw : Int64} (h : cB T0 T q most N ((l, e, some w) :: K) st us) (hl : l < n) (hk : c l 0 = 11) (hkw : okI kw) (hN : N < 1000) (hv : cX T N v (vI T 51 15) (T.2.1 51 16) 0) (hw : cX T N w kw xw 0) (fv : fit c n v none) (fw : fit c n w none) (kk : ∀ T', cSt T0 T' q most (hd1 c n l e (some w) K v N st us) → φ T') : gC (tP sa) lD b E (d + 2) mX2_enter [.ref (b + 51), .int (zI (l : Int)), .int (zI kw), .long xw] T (fun r T' => pV r (φ T')) := by
  obtain ⟨b1, b2, b3, b4, b5, b6, b7, b8, b9⟩ := id h
  have hc := cP_of hp b1
  have hn := hc.1.1
  have hnv := hc.1.2.1
  have hnf := hc.1.2.2.1
  have hq := hc.2.1
  rw [List.length_cons] at b4
  unfold hd1 at kk
  rw [if_neg (by omega), if_neg (by omega)] at kk
  dsimp only at kk
  rw [if_pos hk] at kk
  refine w_X2_enter (d := d + 1) ?_
  unfold f_X2_enter
  rcases fit_cX fw hw with ⟨y1, y2, y3⟩ | ⟨t, e', vs, y1, y2, y4, y5, y6, r, y7, y8, y9⟩
  · rw [y1] at kk
    exact ⟨hkw, fun z => absurd y2 z, fun _ => d_stk h (fun T' hT => ⟨rfl, kk T' hT⟩)⟩
  · rw [y1] at kk
    dsimp only at kk
    obtain ⟨a1, a2, a3⟩ := lbN_ok y4
    have fl1 := hc.1.flat
    have r1 := (fl1.2.2.2 _ a1).1.2.1 (by rcases a2 with z | z; exact Or.inr (Or.inl z); exact Or.inr (Or.inr (Or.inl z)))
    have r3 := (fl1.2.2.2 _ a1).1.2.2.2.1 (by rcases a2 with z | z <;> omega)
    have ht50 : t < 50 := by have := fl1.2.1; omega
    obtain ⟨x, hx⟩ : ∃ x : Nat, c (lbN c n t) 1 = (x : Int) := ⟨(c (lbN c n t) 1).toNat, by omega⟩
    subst y2
    refine ⟨hkw, fun _ => ⟨by omega, fun z => by omega, fun _ => ⟨fun z => by omega, fun _ => ⟨by omega, by omega, ?_⟩⟩⟩, fun z => by omega⟩
    rw [Int.toNat_natCast, sh2 ⟨t, ht50⟩]
    generalize hT1 : gJ T 52 l ((T.2.1 52 l) ||| lJ (2 ^ t)) = T1
    have i1 : T1.1 = T.1 := by rw [← hT1]; rfl
    have v1 : ∀ {k i}, vI T1 k i = vI T k i := by intro k i; unfold vI; rw [i1]
    have j1 : ∀ {k i}, k ≠ 52 → T1.2.1 k i = T.2.1 k i := fun z => by rw [← hT1, gJ_J, if_neg (fun q => z q.1)]
    have c1 : bhS T N T1 N := ⟨Nat.le_refl _, fun i _ => ⟨v1, v1, j1 (by decide), v1⟩⟩
    have hB1 : cB T0 T1 q most N ((l, e, some w) :: K) st (uSet us l t) := by
      refine ⟨by rw [← hT1]; exact b1.gJ (Or.inr (Or.inl rfl)), v1.trans b2, b3.of c1 (fun i hi => ⟨v1, v1, v1, v1, j1 (by decide)⟩), by rw [v1, List.length_cons]; exact b4, v1.trans b5, fun l2 hl2 => ?_, v1.trans b7, v1.trans b8, v1.trans b9⟩
      rw [← hT1, gJ_J]
      unfold uSet
      by_cases z : l2 = l
      · rw [if_pos ⟨rfl, z⟩, if_pos z, b6 l (by omega)]
      · rw [if_neg (fun y => z y.2), if_neg z]; exact b6 l2 hl2
    obtain ⟨hP, hcc⟩ := hB1.pop
    have e12 : vI T1 51 12 - 1 = (K.length : Int) := by rw [v1]; omega
    have hcP := cP_of hp hP.1
    have el := (hcP.2.2.2.2.2.2.1 t (by have := fl1.2.1; omega)).1
    have cl := hcP.2.2.2.2.2.1 _ a1
    refine w_X2_enter_36 (d := d + 1) ?_
    unfold f_X2_enter_36
    rw [e12]
    have er : (xw.toInt32.toInt) = r := by
      rw [y8]
      have := i_rt ⟨(r + 1).toNat, by omega⟩
      rw [show (((r + 1).toNat : Nat) : Int) - 1 = r by omega] at this
      exact this
    refine ⟨q, hq, by rw [v1]; exact b8, by omega, q, hq, by rw [v1]; exact b8, ?_⟩
    rw [aI_n ht50, el, aI_n (show lbN c n t < 200 by omega), cl.2.1, hx, er]
    have cP0 : bhS T N (gI T1 51 12 (zI (K.length : Int))) N := ⟨Nat.le_refl _, fun i hi => by
      obtain ⟨d1, d2, d3, d4⟩ := hcc.2 i hi
      obtain ⟨g1, g2, g3, g4⟩ := c1.2 i hi
      exact ⟨d1.trans g1, d2.trans g2, d3.trans g3, d4.trans g4⟩⟩
    refine d_bind (w := v) (e := e') hP hN (show x < 1000 by omega) ⟨vI_lo _ _ _, vI_hi _ _ _⟩ ?_ (cX.of cP0 _ _ _ _ y9) y7 (fun T2 hB2 hE hb2 h51 => ⟨q, hq, by rw [h51, v_o (by omega), v1]; exact b8, rfl, ?_⟩)
    · rw [v1, j1 (by decide)]; exact cX.of cP0 _ _ _ _ hv
    · obtain ⟨hB3, hc3⟩ := hB2.fld (T' := gI T2 51 14 (zI (N : Int))) (W := fun k i => k = 51 ∧ i = 14) (V := fun _ _ => False) (fG.refl.gI ⟨rfl, rfl⟩) (fun k i z => by omega) (fun k i z => z.elim)
      have hcP3 := cP_of hp hB3.1
      have e3 := (cP_pt hcP3 a1).1
      rw [e3, show c (lbN c n t) 3 = ((c (lbN c n t) 3).toNat : Int) by omega]
      unfold cBd at kk
      rw [hx, Int.toNat_natCast] at kk
      refine kk _ (next_ok (W := fun _ _ => False) hB3 (by omega) ?_)
      rw [v_s (by omega)]
      refine cX.of hc3 _ _ _ _ ?_
      by_cases k3 : c (lbN c n t) 0 = 3
      · rw [if_pos k3]; exact (hE t).2
      · rw [if_neg k3]; exact (hE t).1
theorem d_hand (hp : cPq T0 q c n nv nf) {l : Nat} {e v : eT} {h0 : Option eT} (h : cCf T0 T q most (none, (l, e, h0) :: K, v, N, st, us)) (hI : iCf c n most (none, (l, e, h0) :: K, v, N, st, us)) (hm : most ≤ 2000) (kk : ∀ T', cSt T0 T' q most (hd1 c n l e h0 K v N st us) → φ T') : gC (tP sa) lD b E (d + 3) mX2_hand [.ref (b + 51), .int (zI (K.length : Int))] T (fun r T' => pV r (φ T')) := by
  obtain ⟨hB, h13, hv⟩ := h
  dsimp only at hB h13 hv
  obtain ⟨⟨⟨k4, vs, w1, w2⟩, hh, hKf⟩, i2, i3, i4, _⟩ := hI
  have fv := i4 rfl
  dsimp only at fv i2 i3
  rw [if_pos rfl, crd] at i2
  dsimp only at i2
  have hcr := (cr1_ge h0).1
  have hln := crd_len K
  obtain ⟨b1, b2, b3, b4, b5, b6, b7, b8, b9⟩ := id hB
  obtain ⟨f1, f2, f3⟩ := b3.1
  dsimp only at f1 f2 f3
  have hc := cP_of hp b1
  have hn := hc.1.1
  have hnv := hc.1.2.1
  have hq := hc.2.1
  have hl := w1.lt
  have wfl := (hc.1.flat.2.2.2 l hl).1
  have l200 : l < 200 := by omega
  obtain ⟨a1, a2, a3, a4, a5, _⟩ := hc.2.2.2.2.2.1 l hl
  have ix := cX.ix w2 f2
  have okl : okI (c l 0) := by have := wfl.1; unfold okI; omega
  have g59 := And.intro (vI_lo T 59 K.length) (vI_hi T 59 K.length)
  refine w_X2_hand (d := d + 2) ?_
  unfold f_X2_hand
  rw [Int.toNat_natCast, f1]
  -- scope
  obtain ⟨hB1, hc1⟩ := hB.fld (T' := gI T 51 14 (zI (vI T 59 K.length))) (W := fun k i => k = 51 ∧ i = 14) (V := fun _ _ => False) (fG.refl.gI ⟨rfl, rfl⟩) (fun k i z => by omega) (fun k i z => z.elim)
  have e14 : vI (gI T 51 14 (zI (vI T 59 K.length))) 51 14 = vI T 59 K.length := v_s g59
  have v14 : ∀ {k i}, ¬ (k = 51 ∧ i = 14) → vI (gI T 51 14 (zI (vI T 59 K.length))) k i = vI T k i := fun z => v_o z
  have he1 : cX (gI T 51 14 (zI (vI T 59 K.length))) N e 0 0 (vI (gI T 51 14 (zI (vI T 59 K.length))) 51 14) := by rw [e14]; exact cX.of hc1 _ _ _ _ f2
  have hv1 : cX (gI T 51 14 (zI (vI T 59 K.length))) N v (vI (gI T 51 14 (zI (vI T 59 K.length))) 51 15) ((gI T 51 14 (zI (vI T 59 K.length))).2.1 51 16) 0 := by rw [v14 (by omega), gI_J]; exact cX.of hc1 _ _ _ _ hv
  refine ⟨by omega, by clear hh; omega, q, hq, b8, ?_⟩
  rw [aI_n l200, a1]
  refine ⟨fun z4 => ⟨fun z5 => ⟨fun z60 => ⟨fun z11 => ?_, fun z11 => ?_⟩, fun z60 => ⟨q, hq, b8, rfl, ?_⟩⟩, fun z5 => ⟨q, hq, b8, ?_⟩⟩, fun z4 => ?_⟩
  · cases h0 with
    | none => exact absurd f3 z60
    | some w => exact d_reckon (d := d) hB1 ⟨z4, z5, z11⟩ okl ⟨vI_lo _ _ _, vI_hi _ _ _⟩ hv1 (cX.of hc1 _ _ _ _ f3.2) fv (hh w rfl).2 (fun T' hT => ⟨rfl, kk T' hT⟩)
  · cases h0 with
    | none => exact absurd f3 z60
    | some w =>
      have e2 : cr1 (some w) = 2 := rfl
      exact d_enter (d := d) hp hB1 hl z11 ⟨vI_lo _ _ _, vI_hi _ _ _⟩ (by clear hh; omega) hv1 (cX.of hc1 _ _ _ _ f3.2) fv (hh w rfl).2 (fun T' hT => ⟨rfl, kk T' hT⟩)
  · cases h0 with
    | some w => rw [f3.1] at z60; exact absurd z60 (by decide)
    | none =>
      have r4 := wfl.2.2.2.2.1 (by omega)
      unfold hd1 at kk
      rw [if_neg z4, if_neg z5] at kk
      dsimp only at kk
      generalize hT2 : gJ (gI (gI (gI T 51 14 (zI (vI T 59 K.length))) 60 K.length (zI 1)) 61 K.length (zI (vI T 51 15))) 62 K.length (T.2.1 51 16) = T2
      have ff : fG (fun k i => i = K.length ∧ (k = 60 ∨ k = 61)) (fun k i => k = 62 ∧ i = K.length) (gI T 51 14 (zI (vI T 59 K.length))) T2 := by rw [← hT2]; exact ((fG.refl.gI ⟨rfl, by omega⟩).gI ⟨rfl, by omega⟩).gJ ⟨rfl, rfl⟩
      have qq : ∀ {k i}, ¬ (i = K.length ∧ (k = 60 ∨ k = 61)) → vI T2 k i = vI (gI T 51 14 (zI (vI T 59 K.length))) k i := fun z => ff.v z
      have jj : ∀ {k i}, ¬ (k = 62 ∧ i = K.length) → T2.2.1 k i = (gI T 51 14 (zI (vI T 59 K.length))).2.1 k i := fun z => ff.2.1 _ _ z
      obtain ⟨d1, d2, d3, d4, d5, d6, d7, d8, d9⟩ := hB1
      have c2 : bhS (gI T 51 14 (zI (vI T 59 K.length))) N T2 N := ⟨Nat.le_refl _, fun i _ => ⟨qq (by omega), qq (by omega), jj (by omega), qq (by omega)⟩⟩
      have hB2 : cB T0 T2 q most N ((l, e, some v) :: K) st us := by
        refine ⟨d1.trans (ff.mono (fun k i z => by unfold Wz; omega) (fun k i z => by unfold Vz; omega)), by rw [qq (by omega)]; exact d2, ⟨⟨?_, ?_, ?_, ?_⟩, d3.2.of c2 (fun i hi => ⟨qq (by omega), qq (by omega), qq (by omega), qq (by omega), jj (by omega)⟩)⟩, by rw [qq (by omega)]; exact d4, by rw [qq (by omega)]; exact d5, fun l2 hl2 => by rw [jj (by omega)]; exact d6 l2 hl2, by rw [qq (by omega)]; exact d7, by rw [qq (by omega)]; exact d8, by rw [qq (by omega)]; exact d9⟩
        · rw [qq (by omega), v14 (by omega)]; exact f1
        · rw [qq (by omega), v14 (by omega)]; exact cX.of c2 _ _ _ _ (cX.of hc1 _ _ _ _ f2)
        · rw [← hT2, vI_gJ, v_o (by omega), v_s (by omega)]
        · have e61 : vI T2 61 K.length = vI T 51 15 := by rw [← hT2, vI_gJ, v_s ⟨vI_lo _ _ _, vI_hi _ _ _⟩]
          have e62 : T2.2.1 62 K.length = T.2.1 51 16 := by rw [← hT2, gJ_J, if_pos ⟨rfl, rfl⟩]
          show cX T2 N v _ _ _
          rw [e61, e62]
          exact cX.of c2 _ _ _ _ (cX.of hc1 _ _ _ _ hv)
      have hcP := cP_of hp hB2.1
      rw [(cP_pt hcP hl).2.1, show c l 4 = ((c l 4).toNat : Int) by omega]
      refine kk _ (next_ok (W := fun _ _ => False) hB2 (by omega) ?_)
      rw [qq (by omega)]
      exact cX.of c2 _ _ _ _ he1
  · have r4 := wfl.2.2.2.2.1 (by omega)
    have r1 := wfl.2.1 (by omega)
    obtain ⟨x, hx⟩ : ∃ x : Nat, c l 1 = (x : Int) := ⟨(c l 1).toNat, by omega⟩
    unfold hd1 at kk
    rw [if_neg z4, if_pos z5, hx, Int.toNat_natCast] at kk
    obtain ⟨hP, hcc⟩ := hB1.pop
    have hcP := cP_of hp hP.1
    have cl := hcP.2.2.2.2.2.1 _ hl
    rw [aI_n l200, cl.2.1, hx]
    have cP0 : bhS T N (gI (gI T 51 14 (zI (vI T 59 K.length))) 51 12 (zI (K.length : Int))) N := ⟨Nat.le_refl _, fun i hi => by
      obtain ⟨d1, d2, d3, d4⟩ := hcc.2 i hi
      obtain ⟨g1, g2, g3, g4⟩ := hc1.2 i hi
      exact ⟨d1.trans g1, d2.trans g2, d3.trans g3, d4.trans g4⟩⟩
    refine d_bind (w := v) (e := e) hP (by clear hh; omega) (show x < 1000 by omega) ⟨vI_lo _ _ _, vI_hi _ _ _⟩ (cX.of cP0 _ _ _ _ hv) (cX.of cP0 _ _ _ _ f2) ix (fun T2 hB2 hE hb2 h51 => ⟨q, hq, by rw [h51, v_o (by omega), v14 (by omega)]; exact b8, rfl, ?_⟩)
    obtain ⟨hB3, hc3⟩ := hB2.fld (T' := gI T2 51 14 (zI (N : Int))) (W := fun k i => k = 51 ∧ i = 14) (V := fun _ _ => False) (fG.refl.gI ⟨rfl, rfl⟩) (fun k i z => by omega) (fun k i z => z.elim)
    have hcP3 := cP_of hp hB3.1
    rw [(cP_pt hcP3 hl).2.1, show c l 4 = ((c l 4).toNat : Int) by omega]
    refine kk _ (next_ok (W := fun _ _ => False) hB3 (by omega) ?_)
    rw [v_s (by clear hh; omega)]
    exact cX.of hc3 _ _ _ _ (hE 0).1
  · exact d_choose (d := d) hp hB1 hl z4 hv1 fv he1 (fun T' hT => ⟨rfl, kk T' hT⟩)
end CM4
