section CM5
variable {sa : Nat → Nat} {b : Nat} {E : Nat × mH} {d : Nat} {T0 T T' : gT} {q most N N' : Nat} {c : Nat → Nat → Int} {n nv nf : Nat} {K : List mFr} {st : Nat} {us : Nat → Int64} {φ : gT → Prop}
theorem d_forget (k : ∀ T', fG (fun k i => k = 51 ∧ i = 0) (fun k i => (k = 51 ∧ i = 2) ∨ k = 52) T T' → vI T' 51 0 = 0 → T'.2.1 51 2 = 0 → (∀ l, l < 200 → T'.2.1 52 l = 0) → φ T') : gC (tP sa) lD b E d mX2_forget [.ref (b + 51)] T (fun r T' => pV r (φ T')) := by
  refine w_X2_forget ?_
  unfold f_X2_forget
  have lp : ∀ (j i : Nat) (T1 : gT), j + i = 200 → fG (fun k i => k = 51 ∧ i = 0) (fun k i => (k = 51 ∧ i = 2) ∨ k = 52) T T1 → vI T1 51 0 = 0 → T1.2.1 51 2 = 0 → (∀ l, l < i → T1.2.1 52 l = 0) → gW (tP sa) lD b E d mX2_forget 12 [some (.ref (b + 51)), some (.int (zI (i : Int)))] [] T1 (fun r T' => pV r (φ T')) := by
    intro j
    induction j with
    | zero =>
      intro i T1 hj hf h1 h2 h3
      refine w_X2_forget_12 ?_
      unfold f_X2_forget_12
      exact ⟨by omega, fun _ => ⟨rfl, k T1 hf h1 h2 (fun l hl => h3 l (by omega))⟩, fun z => absurd z (by omega)⟩
    | succ j ih =>
      intro i T1 hj hf h1 h2 h3
      refine w_X2_forget_12 ?_
      unfold f_X2_forget_12
      rw [Int.toNat_natCast, show (i : Int) + 1 = ((i + 1 : Nat) : Int) by omega]
      refine ⟨by omega, fun z => absurd z (by omega), fun _ => ⟨by omega, by omega, ih (i + 1) _ (by omega) (hf.gJ (Or.inr rfl)) h1 ?_ (fun l hl => ?_)⟩⟩
      · rw [gJ_J, if_neg (by omega)]; exact h2
      · rw [gJ_J]
        by_cases e : l = i
        · rw [if_pos ⟨rfl, e⟩]
        · rw [if_neg (fun y => e y.2)]; exact h3 l (by omega)
  refine lp 200 0 _ rfl ((fG.refl.gI ⟨rfl, rfl⟩).gJ (Or.inl ⟨rfl, rfl⟩)) ?_ ?_ (fun l hl => by omega)
  · rw [vI_gJ, v_s (by omega)]
  · rw [gJ_J, if_pos ⟨rfl, rfl⟩]
theorem cs_end {o : mOu} {l2 l3 : Int} (hq : q = 2 ∨ q = 21) (h3 : okI l3) (h : cEn T0 T q o) (k : φ T) : gW (tP sa) lD b E (d + 1) mX2_start 49 [some (.ref (b + 51)), some (.ref (b + q)), some (.int (zI l2)), some (.int (zI l3))] [] T (fun r T' => pV r (φ T')) := by
  obtain ⟨h1, h2, h4, _⟩ := h
  refine w_X2_start_49 hq ?_
  unfold f_X2_start_49
  rw [h2]
  exact ⟨h3, fun _ => ⟨rfl, k⟩, fun _ => ⟨fun _ => ⟨rfl, k⟩, fun z => absurd z h4⟩⟩
theorem cs_lp (hp : cPq T0 q c n nv nf) (hm : most ≤ 2000) {l2 : Int} {O : mOu} (k : ∀ T', cEn T0 T' q O → φ T') :
    ∀ (f : Nat) (s : mCf) (T : gT) (t : Nat), cCf T0 T q most s → iCf c n most s → msr most s < f → msr most s + t < 8000 → rnF c n most f s = O → gW (tP sa) lD b E (d + 4) mX2_start 49 [some (.ref (b + 51)), some (.ref (b + q)), some (.int (zI l2)), some (.int (zI (t : Int)))] [] T (fun r T' => pV r (φ T')) := by
  have hq := hp.2.1
  have hn := hp.1.1
  intro f
  induction f with
  | zero => intro s T t _ _ h; omega
  | succ f ih =>
    intro s T t hR hI hmr ht hO
    obtain ⟨cu, K, v, nb, st, us⟩ := s
    rw [rnF] at hO
    have hst := hI.2.2.1
    have hcr := hI.2.1
    have hlen := crd_len K
    dsimp only at hst hcr
    obtain ⟨hB, hC⟩ := id hR
    dsimp only at hB hC
    obtain ⟨b1, b2, b3, b4, b5, b6, b7, b8, b9⟩ := id hB
    have fin : ∀ (T' : gT) (y : mCf ⊕ mOu), st1 c n most (cu, K, v, nb, st, us) = y → cSt T0 T' q most y → gW (tP sa) lD b E (d + 4) mX2_start 49 [some (.ref (b + 51)), some (.ref (b + q)), some (.int (zI l2)), some (.int (zI ((t : Int) + 1)))] [] T' (fun r T' => pV r (φ T')) := by
      intro T' y hy hT
      rw [hy] at hO
      cases y with
      | inl s' =>
        obtain ⟨q1, q2⟩ := st1_i hp.1 hI hy
        rw [show (t : Int) + 1 = ((t + 1 : Nat) : Int) by omega]
        exact ih s' T' (t + 1) hT q1 (by omega) (by omega) hO
      | inr o =>
        dsimp only at hO
        subst hO
        exact cs_end hq (by unfold okI; omega) hT (k T' hT)
    refine w_X2_start_49 (d := d + 3) hq ?_
    unfold f_X2_start_49
    rw [b7, b4]
    refine ⟨by omega, fun z => by omega, fun _ => ⟨fun z => absurd rfl z, fun _ => ?_⟩⟩
    cases cu with
    | some p =>
      obtain ⟨l, e⟩ := p
      rw [if_neg (by intro y; cases y)] at hcr
      obtain ⟨c1, c2⟩ := hC
      dsimp only at c1 c2
      obtain ⟨vs, w1, w2⟩ := hI.2.2.2.2 l e rfl
      rw [c1]
      refine ⟨fun z => by omega, fun _ => ?_⟩
      exact d_begin (d := d) hp hR w1 w2 (by omega) (by omega) hst hm (fun T' hT => fin T' _ rfl hT)
    | none =>
      rw [if_pos rfl] at hcr
      obtain ⟨c1, c2⟩ := hC
      rw [c1]
      refine ⟨fun _ => ?_, fun z => absurd rfl z⟩
      have fv := hI.2.2.2.1 rfl
      dsimp only at fv
      cases K with
      | nil =>
        have fin' := fun T' => fin T' _ rfl
        rw [st1] at fin'
        rw [List.length_nil]
        refine ⟨fun _ => ?_, fun z => absurd (by decide) z⟩
        rcases fit_cX fv c2 with ⟨y1, y2, y3⟩ | ⟨t', e', vs, y1, y2, y4, _⟩
        · rw [y1] at fin'
          dsimp only at fin'
          rw [y2]
          refine ⟨fun z => absurd rfl z, fun _ => ?_⟩
          refine w_X2_start_117 (d := d + 3) hq ?_
          unfold f_X2_start_117
          rw [y2]
          refine ⟨fun z => absurd rfl z, fun _ => ?_⟩
          refine d_end (o := (0, T.2.1 51 16, st, us)) hB (by show okI 0; unfold okI; decide) (by show (0 : Int) ≠ -1; decide) rfl (fun T' hT => fin' T' ?_)
          rw [y3]; exact hT
        · rw [y1] at fin'
          dsimp only at fin'
          rw [y2]
          refine ⟨fun _ => ?_, fun z => by omega⟩
          refine w_X2_start_117 (d := d + 3) hq ?_
          unfold f_X2_start_117
          rw [y2]
          refine ⟨fun _ => ?_, fun z => by omega⟩
          exact d_end (o := (1, (zI (t' : Int)).toInt64, st, us)) hB (by show okI 1; unfold okI; decide) (by show (1 : Int) ≠ -1; decide) rfl (fun T' hT => fin' T' hT)
      | cons p K =>
        obtain ⟨l, e, h0⟩ := p
        have fin' := fun T' => fin T' _ rfl
        rw [st1] at fin'
        rw [List.length_cons] at hlen ⊢
        refine ⟨fun z => by omega, fun _ => ?_⟩
        rw [show ((K.length + 1 : Nat) : Int) - 1 = (K.length : Int) by omega]
        exact d_hand (d := d) hp hR hI hm (fun T' hT => fin' T' hT)
theorem d_start (hp : cPq T q c n nv nf) (hm : 1 ≤ most ∧ most ≤ 2000) (k : ∀ T', cEn T T' q (rnP c n most) → φ T') : gC (tP sa) lD b E (d + 4) mX2_start [.ref (b + 51), .ref (b + q), .int (zI (most : Int))] T (fun r T' => pV r (φ T')) := by
  have hq := hp.2.1
  have hw := hp.1
  have hn := hw.1
  refine w_X2_start (d := d + 3) hq ?_
  unfold f_X2_start
  refine d_forget (fun T1 hf h0 h2 h52 => ⟨by omega, ?_⟩)
  refine w_X0_empty ?_
  unfold f_X0_empty
  refine ⟨rfl, ?_⟩
  rw [if_neg (by omega)]
  generalize hT2 : gI (gI (gI (gI (gI (gI (gI T1 51 4 (nI q)) 51 5 (zI (most : Int))) 51 1 (zI (-1))) 53 4 (zI 0)) 51 12 (zI 0)) 51 13 (zI 0)) 51 14 (zI (-1)) = T2
  have f2 : fG Wz Vz T T2 := by
    rw [← hT2]
    refine (((((((hf.mono (fun k i z => ?_) (fun k i z => ?_)).gI ?_).gI ?_).gI ?_).gI ?_).gI ?_).gI ?_).gI ?_
    · unfold Wz; omega
    · unfold Vz; omega
    all_goals unfold Wz; omega
  have e4 : vI T2 51 4 = (q : Int) := by
    rw [← hT2]; rw [v_o (by omega), v_o (by omega), v_o (by omega), v_o (by omega), v_o (by omega), v_o (by omega), zI_nat, v_s (by omega)]
  have hB : cB T T2 q most 0 [] 0 (fun _ => 0) := by
    refine ⟨f2, ?_, trivial, ?_, ?_, fun l hl => ?_, ?_, e4, ?_⟩
    · rw [← hT2, v_o (by omega), v_o (by omega), v_o (by omega), v_s (by omega)]; rfl
    · rw [← hT2, v_o (by omega), v_o (by omega), v_s (by omega)]; rfl
    · rw [← hT2, v_o (by omega), v_o (by omega), v_o (by omega), v_o (by omega), v_o (by omega), v_o (by omega), v_o (by omega), h0]; rfl
    · rw [← hT2]; exact h52 l hl
    · rw [← hT2, v_o (by omega), v_o (by omega), v_o (by omega), v_o (by omega), v_s (by omega)]
    · rw [← hT2, v_o (by omega), v_o (by omega), v_o (by omega), v_o (by omega), v_o (by omega), v_s (by omega)]
  have hC : cCf T T2 q most cf0 := by
    refine ⟨hB, ?_, ?_⟩
    · rw [← hT2, v_o (by omega), v_s (by omega)]; rfl
    · rw [← hT2, v_s (by omega), cX]
  -- the first turn
  have g0 : st1 c n most cf0 = .inl (bg1 c n 0 .nil [] .nil 0 1 (fun _ => 0)) := by unfold cf0; rw [st1, if_neg (by omega)]
  obtain ⟨i0, m0⟩ := st1_i hw (cf0_i hw (most := most)) g0
  have m1 : msr most (bg1 c n 0 .nil [] .nil 0 1 (fun _ => 0)) + 2 ≤ 4 * most := by
    have := bg1_m (c := c) (n := n) (l := 0) (e := .nil) (K := []) (v := .nil) (nb := 0) (st := 0) (most := most) (us := fun _ => 0) (by omega)
    have e : msr most (some (0, .nil), [], .nil, 0, 0, fun _ => 0) = 4 * (most - 0) + 0 := rfl
    rw [show (0 : Nat) + 1 = 1 from rfl] at this
    omega
  have hO : rnF c n most (4 * most + 1) (bg1 c n 0 .nil [] .nil 0 1 (fun _ => 0)) = rnP c n most := by
    have := rnP_eq hw (most := most) (by omega) (f := 4 * most + 1 + 1) (by omega)
    rw [rnF, g0] at this
    exact this
  obtain ⟨vs, w1, w2⟩ := (cf0_i hw (most := most)).2.2.2.2 0 .nil rfl
  refine w_X2_start_49 (d := d + 3) hq ?_
  unfold f_X2_start_49
  obtain ⟨c1, c2⟩ := hC.2
  dsimp only at c1
  rw [hB.2.2.2.2.2.2.1, c1]
  refine ⟨by omega, fun z => by omega, fun _ => ⟨fun z => absurd rfl z, fun _ => ⟨fun z => absurd z (by decide), fun _ => ?_⟩⟩⟩
  refine d_begin (d := d) hp hC w1 w2 (Nat.le_refl _) (by decide) (by omega) (by omega) (fun T' hT => ?_)
  have hT' : cSt T T' q most (st1 c n most cf0) := hT
  rw [g0] at hT'
  exact cs_lp (T0 := T) hp hm.2 (O := rnP c n most) k (4 * most + 1) _ T' 1 hT' i0 (by omega) (by omega) hO
end CM5
