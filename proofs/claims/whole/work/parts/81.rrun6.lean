section RI
variable {sa : Nat → Nat} {b : Nat} {E : Nat × mH} {d : Nat} {T0 T T' : gT} {A : aSt} {a : Nat} {c : Nat → Nat → Int} {n nv nf most : Nat} {φ : gT → Prop}
theorem crd_len : ∀ (K : List mFr), K.length ≤ crd K := by
  intro K
  induction K with
  | nil => exact Nat.le_refl _
  | cons p K ih =>
    have := (cr1_ge p.2.2).1
    rw [List.length_cons, crd]; omega
theorem run_en {o : mOu} {l1 l2 : Int} {Q : Option Value → gT → Prop} (h : rEn T0 T o) (k : Q (some (.int (zI o.1))) T) : gW (tP sa) lM b E (d + 1) mX7_run 85 [some (.ref (b + 0)), some (.int (zI l1)), some (.int (zI l2))] [] T Q := by
  obtain ⟨h1, h2, h3, _⟩ := h
  have f154 : gW (tP sa) lM b E (d + 1) mX7_run 154 [some (.ref (b + 0)), some (.int (zI l1)), some (.int (zI l2))] [] T Q := by
    refine w_X7_run_154 (d := d) ?_
    unfold f_X7_run_154
    rw [h2]
    exact ⟨fun _ => k, fun z => absurd z h3⟩
  refine w_X7_run_85 (d := d) ?_
  unfold f_X7_run_85
  exact ⟨fun _ => f154, fun _ => ⟨fun _ => f154, fun z => absurd (h2.symm.trans z) h3⟩⟩
theorem run_lp (hp : rPa T0 a c n nv nf) (hm : most ≤ 2000) {l2 : Int} {Q : Option Value → gT → Prop} {O : mOu} (k : ∀ T', rEn T0 T' O → Q (some (.int (zI O.1))) T') :
    ∀ (f : Nat) (s : mCf) (T : gT), rCf T0 T c n s → iCf c n most s → msr most s < f → rnF c n most f s = O → gW (tP sa) lM b E (d + 5) mX7_run 85 [some (.ref (b + 0)), some (.int (zI (most : Int))), some (.int (zI l2))] [] T Q := by
  intro f
  induction f with
  | zero => intro s T _ _ h; omega
  | succ f ih =>
    intro s T hR hI hmr hO
    obtain ⟨cu, K, v, nb, st, us⟩ := s
    rw [rnF] at hO
    have hst := hI.2.2.1
    have hcr := hI.2.1
    have hlen := crd_len K
    dsimp only at hst hcr
    cases cu with
    | some p =>
      obtain ⟨l, e⟩ := p
      rw [if_neg (by intro q; cases q)] at hcr
      obtain ⟨N, hB, c1, c2, c3, c4⟩ := rCf_iff.mp hR
      obtain ⟨b1, b2, b3, b4, b5, b6, b7, b8, b9⟩ := id hB
      obtain ⟨vs, w1, w2⟩ := hI.2.2.2.2 l e rfl
      refine w_X7_run_85 (d := d + 4) ?_
      unfold f_X7_run_85
      rw [c1, show (K.length : Int) + 1 - 1 = (K.length : Int) by omega, Int.toNat_natCast, c4, b5, b7]
      refine ⟨fun z => by omega, fun _ => ⟨fun z => absurd rfl z, fun _ => ⟨by omega, by omega, fun z => absurd rfl z, fun _ => ⟨by omega, fun z => ?_, fun z => ?_⟩⟩⟩⟩
      · rw [st1, if_neg (by omega)] at hO
        dsimp only at hO
        have hR1 : rCf T0 (gI T 0 17 (zI ((st : Int) + 1))) c n (some (l, e), K, v, nb, st + 1, us) := by
          have qv : ∀ {k i}, ¬ (k = 0 ∧ i = 17) → vI (gI T 0 17 (zI ((st : Int) + 1))) k i = vI T k i := fun z => v_o z
          have cc : chS T N (gI T 0 17 (zI ((st : Int) + 1))) N := ⟨Nat.le_refl _, fun q _ => ⟨qv (by omega), qv (by omega), rfl, qv (by omega), qv (by omega)⟩⟩
          refine rCf_iff.mpr ⟨N, ⟨b1.gI (Or.inl ⟨rfl, by omega⟩), by rw [qv (by omega)]; exact b2, b3, b4.of cc (fun i hi => ⟨qv (by omega), qv (by omega), qv (by omega), qv (by omega), rfl, qv (by omega)⟩), by rw [v_s (by omega)]; omega, b6, by rw [qv (by omega)]; exact b7, by rw [qv (by omega)]; exact b8, b9⟩, ?_⟩
          exact ⟨by rw [qv (by omega)]; exact c1, by rw [qv (by omega)]; exact c2, by rw [qv (by omega)]; exact rX.of cc e 0 0 _ c3, by rw [qv (by omega)]; exact c4⟩
        refine c_work (d := d + 2) hp hR1 w1 w2 (by omega) (by omega) (fun T' hT => ?_)
        have hmr1 := bg1_m (c := c) (n := n) (l := l) (e := e) (K := K) (v := v) (nb := nb) (st := st) (most := most) (us := us) (by omega)
        exact ih _ T' hT (bg1_i hp.1 hI (by omega)) (by omega) hO
      · rw [st1, if_pos (by omega)] at hO
        dsimp only at hO
        subst hO
        have en : rEn T0 (gI T 0 46 (zI 3)) (3, 0, st, us) := by
          refine ⟨b1.gI (Or.inl ⟨rfl, by omega⟩), v_s (by omega), by show (3 : Int) ≠ -1; decide, b9, ?_, b6, ?_⟩
          · rw [v_o (by omega)]; exact b5
          · rw [v_o (by omega)]; exact b8
        exact run_en en (k _ en)
    | none =>
      rw [if_pos rfl] at hcr
      cases K with
      | nil =>
        obtain ⟨N, hB, c1, c2⟩ := rCf_iff.mp hR
        obtain ⟨b1, b2, b3, b4, b5, b6, b7, b8, b9⟩ := id hB
        rw [st1] at hO
        dsimp only at hO
        refine w_X7_run_85 (d := d + 4) ?_
        unfold f_X7_run_85
        rw [c1]
        refine ⟨fun _ => ?_, fun z => absurd (by rw [List.length_nil]; decide) z⟩
        refine w_X7_run_154 (d := d + 4) ?_
        unfold f_X7_run_154
        rw [b7]
        refine ⟨fun z => absurd rfl z, fun _ => ?_⟩
        have fin : rEn T0 (gJ (gI T 0 46 (zI (vI T 0 43))) 0 18 (T.2.1 0 44)) O ∧ vI T 0 43 = O.1 := by
          have fv := hI.2.2.2.1 rfl
          dsimp only at fv
          rcases fit_isC fv with ⟨q, z, e9, rfl⟩ | ⟨t, e9, q, rfl, q2⟩
          · rw [q] at hO
            dsimp only at hO
            rw [rX] at c2
            subst hO
            refine ⟨⟨(b1.gI (Or.inl ⟨rfl, by omega⟩)).gJ (Or.inl ⟨rfl, by omega⟩), ?_, by show (0 : Int) ≠ -1; decide, ?_, ?_, fun l hl => ?_, ?_⟩, c2.1⟩
            · rw [vI_gJ, c2.1, v_s (by decide)]
            · rw [gJ_J, if_pos ⟨rfl, rfl⟩, c2.2]; rfl
            · rw [vI_gJ, v_o (by decide)]; exact b5
            · rw [gJ_J, if_neg (fun z => by cases z.1)]; exact b6 l hl
            · rw [vI_gJ, v_o (by decide)]; exact b8
          · rw [q] at hO
            dsimp only at hO
            rw [rX] at c2
            subst hO
            refine ⟨⟨(b1.gI (Or.inl ⟨rfl, by omega⟩)).gJ (Or.inl ⟨rfl, by omega⟩), ?_, by show (1 : Int) ≠ -1; decide, ?_, ?_, fun l hl => ?_, ?_⟩, c2.1⟩
            · rw [vI_gJ, c2.1, v_s (by decide)]
            · rw [gJ_J, if_pos ⟨rfl, rfl⟩, c2.2.1]
            · rw [vI_gJ, v_o (by decide)]; exact b5
            · rw [gJ_J, if_neg (fun z => by cases z.1)]; exact b6 l hl
            · rw [vI_gJ, v_o (by decide)]; exact b8
        rw [show zI (vI T 0 43) = zI O.1 by rw [fin.2]]
        rw [show zI O.1 = zI (vI T 0 43) by rw [fin.2]]
        have := k _ fin.1
        rw [← fin.2] at this
        exact this
      | cons p K =>
        obtain ⟨l, e, h⟩ := p
        obtain ⟨N, hB, c1, c2⟩ := rCf_iff.mp hR
        obtain ⟨b1, b2, b3, b4, b5, b6, b7, b8, b9⟩ := id hB
        have f3 := b4.1.2.2
        rw [List.length_cons] at c1 hlen
        rw [st1] at hO
        refine w_X7_run_85 (d := d + 4) ?_
        unfold f_X7_run_85
        rw [c1, b7]
        rw [show ((K.length + 1 : Nat) : Int) - 1 = (K.length : Int) by omega, Int.toNat_natCast]
        have st0 : ¬ vI T 18 K.length = 0 := by
          cases h with
          | none => dsimp only at f3; omega
          | some w => dsimp only at f3; omega
        refine ⟨fun z => by omega, fun _ => ⟨fun z => absurd rfl z, fun _ => ⟨by omega, by omega, fun _ => ?_, fun z => absurd z st0⟩⟩⟩
        refine c_goOn (d := d) hp hR hI (by omega) (by omega) (fun T' hT => ?_)
        cases hh : hd1 c n l e h K v nb st us with
        | inl s' =>
          rw [hh] at hT hO
          have := hd1_m (most := most) hh
          exact ih s' T' hT (hd1_i hp.1 hI hh) (by omega) hO
        | inr o =>
          rw [hh] at hT hO
          dsimp only at hO
          subst hO
          exact run_en hT (k _ hT)
end RI
