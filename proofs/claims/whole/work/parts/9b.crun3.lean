section CM3
variable {sa : Nat → Nat} {b : Nat} {E : Nat × mH} {d : Nat} {T0 T T' : gT} {q most N N' : Nat} {c : Nat → Nat → Int} {n nv nf : Nat} {K : List mFr} {st : Nat} {us : Nat → Int64} {φ : gT → Prop}
theorem d_recall (hp : cPq T0 q c n nv nf) {l : Nat} {e v : eT} {vs : List Nat} (h : cCf T0 T q most (some (l, e), K, v, N, st, us)) (hw : wAt c n l vs) (hf : fit c n e (some vs)) (hk : c l 0 = 0) (hN : N ≤ 1000) (kk : ∀ T', cCf T0 T' q most (none, K, lkE c n (c l 1).toNat e, N, st, us) → φ T') : gC (tP sa) lD b E (d + 2) mX2_recall [.ref (b + 51), .int (zI (c l 1))] T (fun r T' => pV r (φ T')) := by
  obtain ⟨hB, h13, h14⟩ := h
  dsimp only at h13 h14 hB
  obtain ⟨b1, b2, b3, b4, b5, b6, b7, b8, b9⟩ := id hB
  have hc := cP_of hp b1
  have hwp := hc.1
  have hn := hwp.1
  have hnv := hwp.2.1
  have hq := hc.2.1
  have hl := hw.lt
  obtain ⟨x, x1, x2⟩ := hw.parts.1 hk
  have hxv := (hwp.flat.2.2.2 l hl).1.2.1 (Or.inl hk)
  have ix := cX.ix hf h14
  rw [x2, Int.toNat_natCast] at kk
  rw [x2]
  -- the binder
  obtain ⟨g, hg, hb⟩ : ∃ g, g < n ∧ bdr c g x := by
    obtain ⟨f9, e9, up9, v09, v19, f09, f19, q1, q2, q3⟩ := hw
    obtain ⟨f, vs2, v0, v1, f0, f1, w1, w2, w3, w4, w5, w6, w7⟩ := hwp.at hl
    have hd := (wf_hd w1).2.2.2 hk
    obtain ⟨x', y1, y2⟩ := hd
    obtain rfl : x' = x := by omega
    obtain ⟨_, j, j1, j2, j3⟩ := w6 x' y1
    exact ⟨j, by omega, j3⟩
  have hbN := bdN_ok hwp hg hb
  obtain ⟨a1, a2, a3, a4, a5, a6, a7, a8, a9, a10⟩ := hc.2.2.2.2.2.1 g hg
  have ebd : aI T (q + 8) 100 (x : Int) = (g : Int) := by rw [aI_n (show x < 100 by omega), (hc.2.2.2.2.2.2.2 x (by omega)).1, hbN]
  have g200 : g < 200 := by omega
  refine w_X2_recall (d := d + 1) ?_
  unfold f_X2_recall
  refine ⟨q, hq, b8, by omega, q, hq, b8, ?_⟩
  rw [ebd, aI_n g200, a3]
  refine ⟨fun z => ?_, fun z => ⟨q, hq, b8, ?_⟩⟩
  · -- bound itself
    have hb' : (c g 0 = 2 ∨ c g 0 = 3 ∨ c g 0 = 5) ∧ c g 1 = (x : Int) := by
      rcases hb with y | y
      · exact y
      · exact absurd y.2 z
    refine w_X0_find ?_
    unfold f_X0_find
    refine find_x (w := e) hwp b2 hN hg hb' (fun p hp1 hX => ?_) e vs _ 0 hf x1 h14 (by omega) rfl
    refine w_X0_functionAt (d := d + 0) ?_
    unfold f_X0_functionAt
    refine ⟨by omega, _, rfl, ?_⟩
    refine w_X0_numberAt (d := d + 0) ?_
    unfold f_X0_numberAt
    rw [aI_n (show p < 1000 by omega), aJ_n (show p < 1000 by omega)]
    refine ⟨by omega, _, rfl, ?_⟩
    exact d_come hB ⟨vI_lo _ _ _, vI_hi _ _ _⟩ hX (fun T' hT => ⟨rfl, kk T' hT⟩)
  · -- the f of a fix
    have k3 : c g 0 = 3 := by
      by_cases y : c g 0 = 3
      · exact y
      · have := (hwp.flat.2.2.2 g hg).1.2.2.2.2.2.2.2.2.2.1 y
        omega
    have r1 := (hwp.flat.2.2.2 g hg).1.2.1 (by omega)
    obtain ⟨y, hy⟩ : ∃ y : Nat, c g 1 = (y : Int) := ⟨(c g 1).toNat, by omega⟩
    rw [aI_n g200, a2, hy]
    refine w_X0_find ?_
    unfold f_X0_find
    refine find_f (w := e) hwp b2 hN hg k3 hy z (fun p hp1 hX => ⟨q, hq, b8, ?_⟩) e vs _ 0 hf x1 h14 (by omega) rfl
    refine w_X0_roundOf (d := d + 0) ?_
    unfold f_X0_roundOf
    rw [aI_n (show p < 1000 by omega), aI_n g200, a5]
    refine ⟨by omega, _, rfl, ?_⟩
    have hfo : foN c g = (fcn c g : Int) := by unfold foN; rw [if_pos (Or.inr k3)]
    rw [hfo]
    have h50 := fcn_50 hwp hg (Or.inr k3)
    exact d_come hB (by unfold okI; omega) hX (fun T' hT => ⟨rfl, kk T' hT⟩)
theorem d_await (hp : cPq T0 q c n nv nf) {l : Nat} {e v : eT} (h : cCf T0 T q most (some (l, e), K, v, N, st, us)) (hl : l < n) (hk : 4 ≤ c l 0) (hK : K.length < 2000) (kk : ∀ T', cCf T0 T' q most (some ((c l 3).toNat, e), (l, e, none) :: K, v, N, st, us) → φ T') : gC (tP sa) lD b E (d + 1) mX2_await [.ref (b + 51), .int (zI (l : Int))] T (fun r T' => pV r (φ T')) := by
  obtain ⟨hB, h13, h14⟩ := h
  dsimp only at h13 h14 hB
  obtain ⟨b1, b2, b3, b4, b5, b6, b7, b8, b9⟩ := id hB
  have hc := cP_of hp b1
  have hn := hc.1.1
  have hq := hc.2.1
  have r3 := (hc.1.flat.2.2.2 l hl).1.2.2.2.1 (by omega)
  refine w_X2_await ?_
  unfold f_X2_await

  rw [b4, Int.toNat_natCast]
  refine ⟨fun z => by omega, fun _ => ⟨by omega, by omega, q, hq, b8, by omega, rfl, ?_⟩⟩
  generalize hT1 : gI (gI (gI (gI T 58 K.length (zI (l : Int))) 59 K.length (zI (vI T 51 14))) 60 K.length (zI 0)) 51 12 (zI ((K.length : Int) + 1)) = T1
  have f1 : fG (fun k i => (i = K.length ∧ (k = 58 ∨ k = 59 ∨ k = 60)) ∨ (k = 51 ∧ i = 12)) (fun _ _ => False) T T1 := by
    rw [← hT1]; exact (((fG.refl.gI (Or.inl ⟨rfl, by omega⟩)).gI (Or.inl ⟨rfl, by omega⟩)).gI (Or.inl ⟨rfl, by omega⟩)).gI (Or.inr ⟨rfl, rfl⟩)
  have qq : ∀ {k i}, ¬ ((i = K.length ∧ (k = 58 ∨ k = 59 ∨ k = 60)) ∨ (k = 51 ∧ i = 12)) → vI T1 k i = vI T k i := fun z => f1.v z
  have hc1 := cP_of hp (b1.trans (f1.mono (fun k i z => by unfold Wz; omega) (fun k i z => z.elim)))
  rw [(cP_pt hc1 hl).1]
  refine kk _ ⟨⟨(b1.trans (f1.mono (fun k i z => by unfold Wz; omega) (fun k i z => z.elim))).gI (Or.inl rfl), ?_, ⟨⟨?_, ?_, ?_⟩, ?_⟩, ?_, ?_, fun l2 hl2 => ?_, ?_, ?_, ?_⟩, ?_, ?_⟩
  all_goals have hcc : bhS T N (gI T1 51 13 (zI (c l 3))) N := ⟨Nat.le_refl _, fun i _ => ⟨by rw [v_o (by omega), qq (by omega)], by rw [v_o (by omega), qq (by omega)], by rw [gI_J]; exact f1.2.1 _ _ id, by rw [v_o (by omega), qq (by omega)]⟩⟩
  · rw [v_o (by omega), qq (by omega)]; exact b2
  · rw [v_o (by omega), ← hT1, v_o (by omega), v_o (by omega), v_o (by omega), v_s (by omega)]
  · have e59 : vI (gI T1 51 13 (zI (c l 3))) 59 K.length = vI T 51 14 := by rw [v_o (by omega), ← hT1, v_o (by omega), v_o (by omega), v_s ⟨vI_lo _ _ _, vI_hi _ _ _⟩]
    rw [e59]; exact cX.of hcc _ _ _ _ h14
  · show vI _ 60 K.length = 0
    rw [v_o (by omega), ← hT1, v_o (by omega), v_s (by omega)]
  · exact b3.of hcc (fun i hi => ⟨by rw [v_o (by omega), qq (by omega)], by rw [v_o (by omega), qq (by omega)], by rw [v_o (by omega), qq (by omega)], by rw [v_o (by omega), qq (by omega)], by rw [gI_J]; exact f1.2.1 _ _ id⟩)
  · rw [v_o (by omega), ← hT1, v_s (by omega), List.length_cons]; omega
  · rw [v_o (by omega), qq (by omega)]; exact b5
  · rw [gI_J, f1.2.1 _ _ id]; exact b6 l2 hl2
  · rw [v_o (by omega), qq (by omega)]; exact b7
  · rw [v_o (by omega), qq (by omega)]; exact b8
  · rw [v_o (by omega), qq (by omega)]; exact b9
  · rw [v_s (by omega)]; omega
  · rw [v_o (by omega), qq (by omega)]; exact cX.of hcc _ _ _ _ h14
/-- a step begins -/
theorem d_begin (hp : cPq T0 q c n nv nf) {l : Nat} {e v : eT} {vs : List Nat} (h : cCf T0 T q most (some (l, e), K, v, N, st, us)) (hw : wAt c n l vs) (hf : fit c n e (some vs)) (hK : K.length ≤ st) (hN : N ≤ 1000) (hst : st ≤ most) (hm : most ≤ 2000) (kk : ∀ T', cSt T0 T' q most (st1 c n most (some (l, e), K, v, N, st, us)) → φ T') : gC (tP sa) lD b E (d + 3) mX2_begin [.ref (b + 51), .int (zI (l : Int))] T (fun r T' => pV r (φ T')) := by
  obtain ⟨hB, h13, h14⟩ := id h
  dsimp only at h13 h14 hB
  obtain ⟨b1, b2, b3, b4, b5, b6, b7, b8, b9⟩ := id hB
  have hc := cP_of hp b1
  have hn := hc.1.1
  have hq := hc.2.1
  have hl := hw.lt
  have w1 := (hc.1.flat.2.2.2 l hl).1
  rw [st1] at kk
  refine w_X2_begin (d := d + 2) ?_
  unfold f_X2_begin
  rw [b5, b9]
  refine ⟨fun z => ⟨q, hq, b8, by omega, ?_⟩, fun z => ?_⟩
  · rw [if_neg (by omega)] at kk
    generalize hT1 : gI T 51 0 (zI ((st : Int) + 1)) = T1
    have qq : ∀ {k i}, ¬ (k = 51 ∧ i = 0) → vI T1 k i = vI T k i := fun z => by rw [← hT1]; exact v_o z
    have jj : T1.2 = T.2 := by rw [← hT1]; rfl
    have hcc : bhS T N T1 N := ⟨Nat.le_refl _, fun i _ => ⟨qq (by omega), qq (by omega), by rw [jj], qq (by omega)⟩⟩
    have h1 : cCf T0 T1 q most (some (l, e), K, v, N, st + 1, us) := by
      refine ⟨⟨by rw [← hT1]; exact b1.gI (Or.inl rfl), by rw [qq (by omega)]; exact b2, b3.of hcc (fun i hi => ⟨qq (by omega), qq (by omega), qq (by omega), qq (by omega), by rw [jj]⟩), by rw [qq (by omega)]; exact b4, ?_, fun l2 hl2 => by rw [jj]; exact b6 l2 hl2, by rw [qq (by omega)]; exact b7, by rw [qq (by omega)]; exact b8, by rw [qq (by omega)]; exact b9⟩, by rw [qq (by omega)]; exact h13, by rw [qq (by omega)]; exact cX.of hcc _ _ _ _ h14⟩
      rw [← hT1, v_s (by omega)]; dsimp only; omega
    have hc1 := cP_of hp h1.1.1
    obtain ⟨a1, a2, a3, a4, a5, _⟩ := hc1.2.2.2.2.2.1 l hl
    have l200 : l < 200 := by omega
    rw [aI_n l200, a1]
    unfold bg1 at kk
    refine ⟨fun k0 => ⟨q, hq, b8, ?_⟩, fun k1 => ⟨q, hq, b8, ?_⟩, fun k2 => ⟨q, hq, b8, ?_⟩, fun k4 => ?_⟩
    · rw [if_pos k0] at kk
      rw [aI_n l200, a2]
      exact d_recall (d := d) hp h1 hw hf k0 hN (fun T' hT => ⟨rfl, kk T' hT⟩)
    · rw [if_neg (by omega), if_pos k1] at kk
      rw [aI_n l200, a2]
      refine d_come h1.1 (by unfold okI; omega) (w := vN (zI (c l 1)).toInt64) ?_ (fun T' hT => ⟨rfl, kk T' hT⟩)
      unfold vN; rw [cX, Int64.ofInt_toInt]; exact ⟨rfl, rfl⟩
    · rw [if_neg (by omega), if_neg (by omega), if_pos k2] at kk
      have ix := cX.ix hf h1.2.2
      have h50 := fcn_50 hc.1 hl k2
      have hfo : foN c l = (fcn c l : Int) := by unfold foN; rw [if_pos k2]
      rw [aI_n l200, a5, hfo]
      refine d_come h1.1 (by unfold okI; omega) (w := vC (fcn c l) e) ?_ (fun T' hT => ⟨rfl, kk T' hT⟩)
      unfold vC
      rw [cX]
      have e14 : vI T 51 14 = vI T1 51 14 := (qq (by omega)).symm
      exact ⟨rfl, vI T 51 14, by rw [e14]; exact ix, rfl, by rw [e14]; exact h1.2.2⟩
    · rw [if_neg (by omega), if_neg (by omega), if_neg (by omega)] at kk
      exact d_await hp h1 hl (by have := w1.1; omega) (by omega) (fun T' hT => ⟨rfl, kk T' hT⟩)
  · rw [if_pos (by omega)] at kk
    exact d_end (o := (3, 0, st, us)) hB (by show okI 3; unfold okI; decide) (by show (3 : Int) ≠ -1; decide) rfl (fun T' hT => ⟨rfl, kk T' hT⟩)
end CM3
