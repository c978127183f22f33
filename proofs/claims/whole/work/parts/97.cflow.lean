/-! THE CLASS: its program at place q -/
/-- where a variable is bound -/
def bdN (c : Nat → Nat → Int) : Nat → Nat → Nat
  | 0, _ => 0
  | l + 1, v => if (c l 0 = 2 ∨ c l 0 = 3 ∨ c l 0 = 5) ∧ (c l 1 = (v : Int) ∨ c l 2 = (v : Int)) then l else bdN c l v
/-- the exprs and what is found of them -/
def cPl (T : gT) (q : Nat) (c : Nat → Nat → Int) (n i : Nat) : Prop := ∀ l, l < i → vI T (q + 1) l = c l 0 ∧ vI T (q + 2) l = c l 1 ∧ vI T (q + 3) l = c l 2 ∧ vI T (q + 4) l = c l 6 ∧ vI T (q + 5) l = foN c l ∧ vI T (q + 6) l = wi c l ∧ vI T (q + 13) l = c l 3 ∧ vI T (q + 14) l = c l 4 ∧ vI T (q + 15) l = c l 5 ∧ vI T (q + 17) l = (en c l : Int)
def cPq (T : gT) (q : Nat) (c : Nat → Nat → Int) (n nv nf : Nat) : Prop := wP c n nv nf ∧ (q = 2 ∨ q = 21) ∧ vI T q 0 = (n : Int) ∧ vI T q 1 = (nf : Int) ∧ vI T q 2 = (nv : Int) ∧ cPl T q c n n ∧ (∀ t, t < nf → vI T (q + 7) t = (lbN c n t : Int) ∧ vI T (q + 10) t = (frc c (lbN c n t) : Int)) ∧ ∀ v, v < nv → vI T (q + 8) v = (bdN c n v : Int) ∧ vI T (q + 9) v = (mcn c v n : Int)
theorem cPq.of {T T' : gT} {q : Nat} {c : Nat → Nat → Int} {n nv nf : Nat} (h : cPq T q c n nv nf) (hf : ∀ k i, q ≤ k → k ≤ q + 18 → vI T' k i = vI T k i) : cPq T' q c n nv nf := by
  obtain ⟨h1, h2, h3, h4, h5, h6, h7, h8⟩ := h
  refine ⟨h1, h2, (hf _ _ (by omega) (by omega)).trans h3, (hf _ _ (by omega) (by omega)).trans h4, (hf _ _ (by omega) (by omega)).trans h5, fun l hl => ?_, fun t ht => ?_, fun v hv => ?_⟩
  · obtain ⟨a1, a2, a3, a4, a5, a6, a7, a8, a9, a10⟩ := h6 l hl
    exact ⟨(hf _ _ (by omega) (by omega)).trans a1, (hf _ _ (by omega) (by omega)).trans a2, (hf _ _ (by omega) (by omega)).trans a3, (hf _ _ (by omega) (by omega)).trans a4, (hf _ _ (by omega) (by omega)).trans a5, (hf _ _ (by omega) (by omega)).trans a6, (hf _ _ (by omega) (by omega)).trans a7, (hf _ _ (by omega) (by omega)).trans a8, (hf _ _ (by omega) (by omega)).trans a9, (hf _ _ (by omega) (by omega)).trans a10⟩
  · exact ⟨(hf _ _ (by omega) (by omega)).trans (h7 t ht).1, (hf _ _ (by omega) (by omega)).trans (h7 t ht).2⟩
  · exact ⟨(hf _ _ (by omega) (by omega)).trans (h8 v hv).1, (hf _ _ (by omega) (by omega)).trans (h8 v hv).2⟩
section CF
variable {sa : Nat → Nat} {b : Nat} {E : Nat × mH} {d : Nat} {T : gT} {q : Nat} {c : Nat → Nat → Int} {n nv nf l : Nat} {s : fS} {φ : gT → Prop}
theorem aI_n {k m : Nat} (h : l < m) : aI T k m (l : Int) = vI T k l := by rw [aI_in (by omega), Int.toNat_natCast]
theorem aJ_n {k m : Nat} (h : l < m) : aJ T k m (l : Int) = T.2.1 k l := by rw [aJ_in (by omega), Int.toNat_natCast]
theorem aP_n {i : Nat} (h : l < 200) (hi : i < 3) : aP T q (l : Int) (i : Int) = vI T (q + 13 + i) l := by
  unfold aP; rw [if_pos (by omega), Int.toNat_natCast, Int.toNat_natCast]
theorem cP_pt (h : cPq T q c n nv nf) (hl : l < n) : aP T q (l : Int) 0 = c l 3 ∧ aP T q (l : Int) 1 = c l 4 ∧ aP T q (l : Int) 2 = c l 5 := by
  have hn := h.1.1
  obtain ⟨a1, a2, a3, a4, a5, a6, a7, a8, a9, a10⟩ := h.2.2.2.2.2.1 l hl
  have e0 := aP_n (T := T) (q := q) (l := l) (i := 0) (by omega) (by omega)
  have e1 := aP_n (T := T) (q := q) (l := l) (i := 1) (by omega) (by omega)
  have e2 := aP_n (T := T) (q := q) (l := l) (i := 2) (by omega) (by omega)
  exact ⟨e0.trans a7, e1.trans a8, e2.trans a9⟩
abbrev cFw (T : gT) (s : fS) : Prop := mFw 48 49 47 3 T s
abbrev cFf (T T' : gT) : Prop := fF 48 49 47 3 T T'
theorem cFf.p {T T' : gT} (h : cFf T T') (hc : cPq T q c n nv nf) : cPq T' q c n nv nf := hc.of (fun k i h1 h2 => h.v (by have := hc.2.1; unfold Wm; omega))
theorem d_intoE {x : Nat} (h : cFw T s) (hl : l < 200) (hx : x < 2 ^ 50) (k : ∀ T', cFw T' (jE s l x) → cFf T T' → φ T') : gC (tP sa) lD b E d mX1_intoExpr [.ref (b + 47), .int (zI (l : Int)), .long (lJ x)] T (fun r T' => pV r (φ T')) := by
  refine w_X1_intoExpr ?_
  unfold f_X1_intoExpr
  have hb := h.2.2.2.1 l
  rw [Int.toNat_natCast, h.1 l hl, bit_n hx hb, lJ_or]
  refine ⟨by omega, fun z => by omega, fun _ => ⟨fun z => by omega, fun _ => ⟨by omega, by omega, fun z => ⟨rfl, k T ?_ fG.refl⟩, fun z => ⟨rfl, k _ (h.uE (by decide) hl hx z) fF.uE⟩⟩⟩⟩
  unfold jE; rw [if_pos z]; exact h
theorem d_intoV {x : Nat} (h : cFw T s) (hl : l < 100) (hx : x < 2 ^ 50) (k : ∀ T', cFw T' (jV s l x) → cFf T T' → φ T') : gC (tP sa) lD b E d mX1_intoVariable [.ref (b + 47), .int (zI (l : Int)), .long (lJ x)] T (fun r T' => pV r (φ T')) := by
  refine w_X1_intoVariable ?_
  unfold f_X1_intoVariable
  have hb := h.2.2.2.2 l
  rw [Int.toNat_natCast, h.2.1 l hl, bit_n hx hb, lJ_or]
  refine ⟨by omega, fun z => by omega, fun _ => ⟨fun z => by omega, fun _ => ⟨by omega, by omega, fun z => ⟨rfl, k T ?_ fG.refl⟩, fun z => ⟨rfl, k _ (h.uV (by decide) hl hx z) fF.uV⟩⟩⟩⟩
  unfold jV; rw [if_pos z]; exact h
theorem d_ofPart {i m : Nat} {ψ : Int64 → gT → Prop} (hq : q = 2 ∨ q = 21) (h : cFw T s) (hl : l < 200) (hi : i < 3) (hm : aP T q (l : Int) (i : Int) = (m : Int)) (hm2 : m < 200) (k : ψ (lJ (s.1 m)) T) : gC (tP sa) lD b E (d + 1) mX1_ofPart [.ref (b + 47), .ref (b + q), .int (zI (l : Int)), .int (zI (i : Int))] T (fun r T' => pJ r (fun v => ψ v T')) := by
  refine w_X1_ofPart hq ?_
  unfold f_X1_ofPart
  rw [hm, aJ_n hm2, h.1 m hm2]
  exact ⟨by omega, by omega, _, rfl, k⟩
theorem d_pC (hc : cPq T q c n nv nf) (hl : l < n) (hk : c l 0 = 11) {all : Nat} 
    (k : ∀ T', cFw T' (fCl c n l all (fcn c n) 0 s) → cFf T T' → φ T') : ∀ (j t : Nat) (T1 : gT) (s1 : fS) (L6 : Option Value), (L6 = none ∨ ∃ z, L6 = some (.int (zI z))) → j + t = fcn c n → cFw T1 s1 → cFf T T1 → fCl c n l all j t s1 = fCl c n l all (fcn c n) 0 s →
    gW (tP sa) lD b E (d + 2) mX1_pourCall 11 [some (.ref (b + 47)), some (.ref (b + q)), some (.int (zI (l : Int))), some (.long (lJ all)), none, some (.int (zI (t : Int))), L6] [] T1 (fun r T' => pV r (φ T')) := by
  have hw := hc.1
  have hq := hc.2.1
  obtain ⟨g1, g2, g3, g4⟩ := hw.flat
  have hn := hw.1
  have hnv := hw.2.1
  have hnf := hw.2.2.1
  obtain ⟨q1, _⟩ := g4 l hl
  have q4 := q1.2.2.2.2.1 (by omega)
  intro j
  induction j with
  | zero =>
    intro t T1 s1 L6 h6 hj hs hf he
    have hc1 := cFf.p hf hc
    have e1 := hc1.2.2.2.1
    rcases h6 with h6 | ⟨z, h6⟩ <;> subst h6
    · refine w_X1_pourCall_11 hq ?_
      unfold f_X1_pourCall_11
      exact ⟨by omega, fun _ => ⟨rfl, k T1 (by rw [← he]; exact hs) hf⟩, fun z => absurd z (by omega)⟩
    · refine w_X1_pourCall_11b hq ?_
      unfold f_X1_pourCall_11b
      exact ⟨by omega, fun _ => ⟨rfl, k T1 (by rw [← he]; exact hs) hf⟩, fun z => absurd z (by omega)⟩
  | succ j ih =>
    intro t T1 s1 L6 h6 hj hs hf he
    have hc1 := cFf.p hf hc
    have e1 := hc1.2.2.2.1
    rw [fCl] at he
    have en1 : (t : Int) + 1 = ((t + 1 : Nat) : Int) := by omega
    obtain ⟨a1, a2, a3⟩ := lbN_ok (c := c) (n := n) (t := t) (by omega)
    have r3 := (g4 _ a1).1.2.2.2.1 (by rcases a2 with z | z <;> omega)
    have r1 := (g4 _ a1).1.2.1 (by rcases a2 with z | z; exact Or.inr (Or.inl z); exact Or.inr (Or.inr (Or.inl z)))
    have el := (hc1.2.2.2.2.2.2.1 t (by omega)).1
    have cl := hc1.2.2.2.2.2.1 _ a1
    obtain ⟨x, hx⟩ : ∃ x : Nat, c (lbN c n t) 1 = (x : Int) := ⟨(c (lbN c n t) 1).toNat, by omega⟩
    have ea : aI T1 (q + 2) 200 (aI T1 (q + 7) 50 (t : Int)) = (x : Int) := by
      rw [aI_n (show t < 50 by omega), el, aI_n (show lbN c n t < 200 by omega), cl.2.1, hx]
    have eb : aI T1 (q + 7) 50 (t : Int) = (lbN c n t : Int) := by rw [aI_n (show t < 50 by omega), el]
    have step : all.testBit t = true → gC (tP sa) lD b E (d + 1) mX1_ofPart [.ref (b + 47), .ref (b + q), .int (zI (l : Int)), .int (zI 1)] T1 (fun r T56 => pJ r (fun v56 => gC (tP sa) lD b E (d + 1) mX1_intoVariable [.ref (b + 47), .int (zI (aI T1 (q + 2) 200 (aI T1 (q + 7) 50 (t : Int)))), .long v56] T56 (fun r T59 => pV r (gC (tP sa) lD b E (d + 1) mX1_ofPart [.ref (b + 47), .ref (b + q), .int (zI (aI T1 (q + 7) 50 (t : Int))), .int (zI 0)] T59 (fun r T69 => pJ r (fun v69 => gC (tP sa) lD b E (d + 1) mX1_intoExpr [.ref (b + 47), .int (zI (l : Int)), .long v69] T69 (fun r T72 => pV r (gW (tP sa) lD b E (d + 1 + 1) mX1_pourCall 11 [some (.ref (b + 47)), some (.ref (b + q)), some (.int (zI (l : Int))), some (.long (lJ all)), none, some (.int (zI ((t : Int) + 1))), some (.int (zI (aI T1 (q + 7) 50 (t : Int))))] [] T72 (fun r T' => pV r (φ T')))))))))) := by
      intro z
      rw [if_pos z] at he
      unfold fC1 at he
      rw [hx, Int.toNat_natCast] at he
      rw [ea, eb]
      refine d_ofPart (i := 1) (m := (c l 4).toNat) hq hs (by omega) (by omega) (by rw [show ((1 : Nat) : Int) = 1 from rfl, (cP_pt hc1 hl).2.1]; omega) (by omega) ?_
      refine d_intoV hs (by omega) (hs.2.2.2.1 _) (fun T2 hs2 hf2 => ?_)
      have hc2 := cFf.p hf2 hc1
      refine d_ofPart (i := 0) (m := (c (lbN c n t) 3).toNat) hq hs2 (by omega) (by omega) (by rw [show ((0 : Nat) : Int) = 0 from rfl, (cP_pt hc2 a1).1]; omega) (by omega) ?_
      refine d_intoE hs2 (by omega) (hs2.2.2.2.1 _) (fun T3 hs3 hf3 => ?_)
      rw [en1]
      exact ih (t + 1) T3 _ _ (Or.inr ⟨_, rfl⟩) (by omega) hs3 (hf.trans (hf2.trans hf3)) he
    rcases h6 with h6 | ⟨z6, h6⟩ <;> subst h6
    · refine w_X1_pourCall_11 hq ?_
      unfold f_X1_pourCall_11
      rw [bit_u (by omega)]
      refine ⟨by omega, fun z => absurd z (by omega), fun _ => ⟨fun z => ?_, fun z => step z⟩⟩
      rw [if_neg z] at he
      rw [en1]
      exact ih (t + 1) T1 s1 none (Or.inl rfl) (by omega) hs hf he
    · refine w_X1_pourCall_11b hq ?_
      unfold f_X1_pourCall_11b
      rw [bit_u (by omega)]
      refine ⟨by omega, fun z => absurd z (by omega), fun _ => ⟨fun z => ?_, fun z => step z⟩⟩
      rw [if_neg z] at he
      rw [en1]
      exact ih (t + 1) T1 s1 _ (Or.inr ⟨_, rfl⟩) (by omega) hs hf he
theorem d_pour (hc : cPq T q c n nv nf) (hl : l < n) (h : cFw T s) (k : ∀ T', cFw T' (fl c n l s) → cFf T T' → φ T') : gC (tP sa) lD b E (d + 3) mX1_pour [.ref (b + 47), .ref (b + q), .int (zI (l : Int))] T (fun r T' => pV r (φ T')) := by
  have hw := hc.1
  have hq := hc.2.1
  obtain ⟨g1, g2, g3, g4⟩ := hw.flat
  have hn := hw.1
  have hnv := hw.2.1
  have hnf := hw.2.2.1
  obtain ⟨q1, _⟩ := g4 l hl
  obtain ⟨a1, a2, a3, a4, a5, a6, a7, a8, a9, a10⟩ := hc.2.2.2.2.2.1 l hl
  obtain ⟨p0, p1, p2⟩ := cP_pt hc hl
  have l200 : l < 200 := by omega
  refine w_X1_pour (d := d + 2) hq ?_
  unfold f_X1_pour
  rw [aI_n l200, a1, aI_n l200, a2, aI_n l200, a5]
  have hfo : isFn c l → foN c l = (fcn c l : Int) := fun z => by unfold foN; rw [if_pos z]
  refine ⟨by omega, fun k0 => ?_, fun k2 => ?_, fun k3 => ?_, fun k4 => ?_, fun k5 => ?_, fun k11 => ?_, fun kk => ?_⟩
  · have r1 := q1.2.1 (by omega)
    rw [aJ_in (by omega), h.2.1 _ (by omega)]
    refine d_intoE h l200 (h.2.2.2.2 _) (fun T1 hs1 hf1 => ⟨rfl, k T1 ?_ hf1⟩)
    unfold fl; rw [if_pos k0]; exact hs1
  · have h50 := fcn_50 hw hl (Or.inl k2)
    rw [hfo (Or.inl k2), sh2 ⟨fcn c l, h50⟩]
    refine d_intoE h l200 (two_lt h50) (fun T1 hs1 hf1 => ⟨rfl, k T1 ?_ hf1⟩)
    unfold fl; rw [if_neg (by omega), if_pos k2]; exact hs1
  · have h50 := fcn_50 hw hl (Or.inr k3)
    rw [hfo (Or.inr k3), sh2 ⟨fcn c l, h50⟩]
    refine d_intoE h l200 (two_lt h50) (fun T1 hs1 hf1 => ?_)
    have hc1 := cFf.p hf1 hc
    obtain ⟨b1, b2, b3, b4, b5, _⟩ := hc1.2.2.2.2.2.1 l hl
    have r2 := q1.2.2.1 k3
    obtain ⟨x, hx⟩ : ∃ x : Nat, c l 2 = (x : Int) := ⟨(c l 2).toNat, by omega⟩
    rw [aI_n l200, b3, aI_n l200, b5, hfo (Or.inr k3), sh2 ⟨fcn c l, h50⟩, hx]
    refine d_intoV hs1 (by omega) (two_lt h50) (fun T2 hs2 hf2 => ⟨rfl, k T2 ?_ (hf1.trans hf2)⟩)
    unfold fl; rw [if_neg (by omega), if_neg (by omega), if_pos k3, hx, Int.toNat_natCast]; exact hs2
  · have r4 := q1.2.2.2.2.1 (by omega)
    have r5 := q1.2.2.2.2.2.1 k4
    refine d_ofPart (i := 1) (m := (c l 4).toNat) hq h l200 (by omega) (by rw [show ((1 : Nat) : Int) = 1 from rfl, p1]; omega) (by omega) ?_
    refine d_ofPart (i := 2) (m := (c l 5).toNat) hq h l200 (by omega) (by rw [show ((2 : Nat) : Int) = 2 from rfl, p2]; omega) (by omega) ?_
    rw [lJ_or]
    refine d_intoE h l200 (Nat.or_lt_two_pow (h.2.2.2.1 _) (h.2.2.2.1 _)) (fun T1 hs1 hf1 => ⟨rfl, k T1 ?_ hf1⟩)
    unfold fl; rw [if_neg (by omega), if_neg (by omega), if_neg (by omega), if_pos k4]; exact hs1
  · have r3 := q1.2.2.2.1 (by omega)
    have r4 := q1.2.2.2.2.1 (by omega)
    have r1 := q1.2.1 (by omega)
    obtain ⟨x, hx⟩ : ∃ x : Nat, c l 1 = (x : Int) := ⟨(c l 1).toNat, by omega⟩
    refine d_ofPart (i := 0) (m := (c l 3).toNat) hq h l200 (by omega) (by rw [show ((0 : Nat) : Int) = 0 from rfl, p0]; omega) (by omega) ?_
    rw [hx]
    refine d_intoV h (by omega) (h.2.2.2.1 _) (fun T1 hs1 hf1 => ?_)
    have hc1 := cFf.p hf1 hc
    refine d_ofPart (i := 1) (m := (c l 4).toNat) hq hs1 l200 (by omega) (by rw [show ((1 : Nat) : Int) = 1 from rfl, (cP_pt hc1 hl).2.1]; omega) (by omega) ?_
    refine d_intoE hs1 l200 (hs1.2.2.2.1 _) (fun T2 hs2 hf2 => ⟨rfl, k T2 ?_ (hf1.trans hf2)⟩)
    unfold fl; rw [if_neg (by omega), if_neg (by omega), if_neg (by omega), if_neg (by omega), if_pos k5, hx, Int.toNat_natCast]; exact hs2
  · have r3 := q1.2.2.2.1 (by omega)
    refine w_X1_pourCall (d := d + 1) hq ?_
    unfold f_X1_pourCall
    refine d_ofPart (i := 0) (m := (c l 3).toNat) hq h l200 (by omega) (by rw [show ((0 : Nat) : Int) = 0 from rfl, p0]; omega) (by omega) ?_
    refine d_pC (s := s) (φ := fun T' => (fun r T' => pV r (φ T')) none T') hc hl k11 (fun T' hs' hf' => ⟨rfl, k T' ?_ hf'⟩) _ 0 T s none (Or.inl rfl) (Nat.add_zero _) h fG.refl rfl
    unfold fl; rw [if_neg (by omega), if_neg (by omega), if_neg (by omega), if_neg (by omega), if_neg (by omega), if_pos k11]; exact hs'
  · refine ⟨rfl, k T ?_ fG.refl⟩
    unfold fl; rw [if_neg kk.1, if_neg kk.2.1, if_neg kk.2.2.1, if_neg kk.2.2.2.1, if_neg kk.2.2.2.2.1, if_neg kk.2.2.2.2.2]; exact h
end CF
