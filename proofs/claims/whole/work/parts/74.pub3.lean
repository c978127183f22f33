section PC
variable {sa : Nat → Nat} {b : Nat} {E : Nat × mH} {d : Nat} {T : gT} {A : aSt} {a : Nat} {c : Nat → Nat → Int} {n nv nf : Nat}
theorem sm_b1 {P : Nat → Prop} [∀ l, Decidable (P l)] : ∀ k, sm (fun l => b1 (P l)) k ≤ k := by
  intro k
  have := sm_bd (f := fun l => b1 (P l)) (k := k) (m := 1) (fun i _ => by unfold b1; split <;> omega)
  omega
/-- told: the counting -/
theorem told_end {x : aPg} {w : Int} {N l3 : Int} {φ : Int → gT → Prop} (hw : 0 ≤ w ∧ w ≤ 7) (hp : rPa T a x.1 x.2.1 x.2.2.1 x.2.2.2) (k : φ (if w = 0 then (x.2.1 : Int) else if w = 1 then (x.2.2.2 : Int) else if w = 2 then (x.2.2.1 : Int) else if w = 7 then vI T 0 17 else N) T) : f_X7_told_129 sa b E d w N l3 T (fun r T' => pI r (fun v => φ v T')) := by
  obtain ⟨h1, h2, h3, h4, h5, _⟩ := hp.2.1
  have hf := hp.1.flat.2.1
  have hv := hp.2.2.1
  unfold f_X7_told_129
  rw [show (vI T 0 3).toNat = a by omega, h3, hv, h5, hf]
  refine ⟨by omega, fun z => ⟨fun z1 => ⟨fun z2 => ⟨fun z7 => ?_, fun z7 => ?_⟩, fun z2 => ?_⟩, fun z1 => ?_⟩, fun z => ?_⟩
  · rw [if_neg z, if_neg z1, if_neg z2, if_neg z7] at k; exact ⟨_, rfl, k⟩
  · rw [if_neg z, if_neg z1, if_neg z2, if_pos z7] at k; exact ⟨_, rfl, k⟩
  · rw [if_neg z, if_neg z1, if_pos z2] at k; exact ⟨by omega, by omega, _, rfl, k⟩
  · rw [if_neg z, if_pos z1] at k; exact ⟨_, rfl, k⟩
  · rw [if_pos z] at k; exact ⟨by omega, by omega, _, rfl, k⟩
/-- one label of told, whatever its fourth local -/
theorem told_one {w : Int} {i : Nat} {φ : Int → gT → Prop} (h : rPa T a c n nv nf) (hi : i < n) {N : Nat}
    (ih : ∀ (T' : gT) (l4 : Int) , f15 T T' → gW (tP sa) lM b E (d + 6) mX7_told 29 [some (.ref (b + 0)), some (.int (zI w)), some (.int (zI ((N + b1 (tdP c n nf w i) : Nat) : Int))), some (.int (zI ((i : Int) + 1))), some (.int (zI l4))] [] T' (fun r T' => pI r (fun v => φ v T'))) (h3 : ¬ w < 3) (h6 : ¬ 6 < w) :
    (¬ w = 3 → ((¬ w = 4 → ((¬ w = 5 → gC (tP sa) lM b E (d + 4 + 1) mX7_canDrop [.ref (b + 0), .int (zI (i : Int))] T (fun r T105 => pI r (fun v105 => (-2147483648 ≤ v105 ∧ v105 < 2147483648) ∧ ((v105 = 0 → gW (tP sa) lM b E (d + 4 + 1 + 1) mX7_told 29 [some (.ref (b + 0)), some (.int (zI w)), some (.int (zI ((N : Int) + 0))), some (.int (zI ((i : Int) + 1))), some (.int (zI v105))] [] T105 (fun r T' => pI r (fun v => φ v T'))) ∧ (¬ v105 = 0 → gW (tP sa) lM b E (d + 4 + 1 + 1) mX7_told 29 [some (.ref (b + 0)), some (.int (zI w)), some (.int (zI ((N : Int) + 1))), some (.int (zI ((i : Int) + 1))), some (.int (zI v105))] [] T105 (fun r T' => pI r (fun v => φ v T'))))))) ∧ (w = 5 → gC (tP sa) lM b E (d + 4 + 1) mX7_canInline [.ref (b + 0), .int (zI (i : Int))] T (fun r T97 => pI r (fun v97 => (-2147483648 ≤ v97 ∧ v97 < 2147483648) ∧ ((v97 = 0 → gW (tP sa) lM b E (d + 4 + 1 + 1) mX7_told 29 [some (.ref (b + 0)), some (.int (zI w)), some (.int (zI ((N : Int) + 0))), some (.int (zI ((i : Int) + 1))), some (.int (zI v97))] [] T97 (fun r T' => pI r (fun v => φ v T'))) ∧ (¬ v97 = 0 → gW (tP sa) lM b E (d + 4 + 1 + 1) mX7_told 29 [some (.ref (b + 0)), some (.int (zI w)), some (.int (zI ((N : Int) + 1))), some (.int (zI ((i : Int) + 1))), some (.int (zI v97))] [] T97 (fun r T' => pI r (fun v => φ v T')))))))) ) ∧ (w = 4 → gC (tP sa) lM b E (d + 4 + 1) mX7_isSingle [.ref (b + 0), .int (zI (i : Int))] T (fun r T84 => pI r (fun v84 => (-2147483648 ≤ v84 ∧ v84 < 2147483648) ∧ ((v84 = 0 → gW (tP sa) lM b E (d + 4 + 1 + 1) mX7_told 29 [some (.ref (b + 0)), some (.int (zI w)), some (.int (zI ((N : Int) + 0))), some (.int (zI ((i : Int) + 1))), some (.int (zI v84))] [] T84 (fun r T' => pI r (fun v => φ v T'))) ∧ (¬ v84 = 0 → gW (tP sa) lM b E (d + 4 + 1 + 1) mX7_told 29 [some (.ref (b + 0)), some (.int (zI w)), some (.int (zI ((N : Int) + 1))), some (.int (zI ((i : Int) + 1))), some (.int (zI v84))] [] T84 (fun r T' => pI r (fun v => φ v T')))))))) ) ∧ (w = 3 → (vI T 0 3 = 0 ∨ vI T 0 3 = 1) ∧ (0 ≤ (i : Int) ∧ (i : Int) < 200) ∧ ((¬ (cV T (vI T 0 3).toNat (i : Int).toNat 0) = 11 → gW (tP sa) lM b E (d + 4 + 1 + 1) mX7_told 29 [some (.ref (b + 0)), some (.int (zI w)), some (.int (zI ((N : Int) + 0))), some (.int (zI ((i : Int) + 1))), some (.int (zI 0))] [] T (fun r T' => pI r (fun v => φ v T'))) ∧ ((cV T (vI T 0 3).toNat (i : Int).toNat 0) = 11 → gW (tP sa) lM b E (d + 4 + 1 + 1) mX7_told 29 [some (.ref (b + 0)), some (.int (zI w)), some (.int (zI ((N : Int) + 1))), some (.int (zI ((i : Int) + 1))), some (.int (zI 1))] [] T (fun r T' => pI r (fun v => φ v T'))))) := by
  obtain ⟨h1, h2, hx3, h4, h5, _⟩ := h.2.1
  have hn := h.1.1
  have y1 : tdP c n nf w i → ((N + b1 (tdP c n nf w i) : Nat) : Int) = (N : Int) + 1 := fun q => by unfold b1; rw [if_pos q]; omega
  have y0 : ¬ tdP c n nf w i → ((N + b1 (tdP c n nf w i) : Nat) : Int) = (N : Int) + 0 := fun q => by unfold b1; rw [if_neg q]; omega
  refine ⟨fun w3 => ⟨fun w4 => ⟨fun w5 => ?_, fun w5 => ?_⟩, fun w4 => ?_⟩, fun w3 => ?_⟩
  · have e : tdP c n nf w i ↔ drP c n i := by unfold tdP; rw [if_neg w3, if_neg w4, if_neg w5]
    refine c_canDrop (d := d + 3) h hi (fun q => ⟨by omega, fun z => by omega, fun _ => ?_⟩) (fun q => ⟨by omega, fun _ => ?_, fun z => absurd rfl z⟩)
    · have := ih T 1 fG.refl; rw [y1 (e.mpr q)] at this; exact this
    · have := ih T 0 fG.refl; rw [y0 (fun z => q (e.mp z))] at this; exact this
  · have e : tdP c n nf w i ↔ inP c n nf i := by unfold tdP; rw [if_neg w3, if_neg w4, if_pos w5]
    refine c_canInline (d := d + 1) h hi (fun T' hf q => ⟨by omega, fun z => by omega, fun _ => ?_⟩) (fun T' hf q => ⟨by omega, fun _ => ?_, fun z => absurd rfl z⟩)
    · have := ih T' 1 hf; rw [y1 (e.mpr q)] at this; exact this
    · have := ih T' 0 hf; rw [y0 (fun z => q (e.mp z))] at this; exact this
  · have e : tdP c n nf w i ↔ sgP c n nf i := by unfold tdP; rw [if_neg w3, if_pos w4]
    refine c_isSingle (d := d + 3) h hi (fun q => ⟨by omega, fun z => by omega, fun _ => ?_⟩) (fun q => ⟨by omega, fun _ => ?_, fun z => absurd rfl z⟩)
    · have := ih T 1 fG.refl; rw [y1 (e.mpr q)] at this; exact this
    · have := ih T 0 fG.refl; rw [y0 (fun z => q (e.mp z))] at this; exact this
  · have e : tdP c n nf w i ↔ c i 0 = 11 := by unfold tdP; rw [if_pos w3]
    rw [show (vI T 0 3).toNat = a by omega, Int.toNat_natCast, h4 i 0 hi (by omega)]
    refine ⟨by omega, by omega, fun q => ?_, fun q => ?_⟩
    · have := ih T 0 fG.refl; rw [y0 (fun z => q (e.mp z))] at this; exact this
    · have := ih T 1 fG.refl; rw [y1 (e.mpr q)] at this; exact this
theorem told_lp {w : Int} (hw : 0 ≤ w ∧ w ≤ 7) {φ : Int → gT → Prop} (hp : rPa T a c n nv nf)
    (k : ∀ T', f15 T T' → φ (if w = 0 then (n : Int) else if w = 1 then (nf : Int) else if w = 2 then (nv : Int) else if w = 7 then vI T 0 17 else ((sm (fun l => b1 (tdP c n nf w l)) n : Nat) : Int)) T') :
    ∀ (j i : Nat) (T1 : gT) (l4 : Int), j + i = n → f15 T T1 → gW (tP sa) lM b E (d + 6) mX7_told 29 [some (.ref (b + 0)), some (.int (zI w)), some (.int (zI ((sm (fun l => b1 (tdP c n nf w l)) i : Nat) : Int))), some (.int (zI (i : Int))), some (.int (zI l4))] [] T1 (fun r T' => pI r (fun v => φ v T')) := by
  have hn := hp.1.1
  have fin : ∀ (T1 : gT) (N l3 l4 : Int), f15 T T1 → (¬ w = 0 → ¬ w = 1 → ¬ w = 2 → ¬ w = 7 → N = ((sm (fun l => b1 (tdP c n nf w l)) n : Nat) : Int)) → gW (tP sa) lM b E (d + 6) mX7_told 129 [some (.ref (b + 0)), some (.int (zI w)), some (.int (zI N)), some (.int (zI l3)), some (.int (zI l4))] [] T1 (fun r T' => pI r (fun v => φ v T')) := by
    intro T1 N l3 l4 hf hN
    refine w_X7_told_129b (d := d + 4) ?_
    refine told_end (sa := sa) (b := b) (E := E) (d := d + 4) (l3 := l3) (x := (c, n, nv, nf)) hw (f15.p hf hp) ?_
    have e17 : vI T1 0 17 = vI T 0 17 := hf.v (by decide)
    have := k T1 hf
    dsimp only
    rw [e17]
    by_cases z0 : w = 0
    · rw [if_pos z0] at this ⊢; exact this
    rw [if_neg z0] at this ⊢
    by_cases z1 : w = 1
    · rw [if_pos z1] at this ⊢; exact this
    rw [if_neg z1] at this ⊢
    by_cases z2 : w = 2
    · rw [if_pos z2] at this ⊢; exact this
    rw [if_neg z2] at this ⊢
    by_cases z7 : w = 7
    · rw [if_pos z7] at this ⊢; exact this
    rw [if_neg z7] at this ⊢
    rw [hN z0 z1 z2 z7]; exact this
  intro j
  induction j with
  | zero =>
    intro i T1 l4 hj hf
    obtain rfl : i = n := by omega
    obtain ⟨h1, h2, h3, h4, h5, _⟩ := (f15.p hf hp).2.1
    refine w_X7_told_29b (d := d + 4) ?_
    unfold f_X7_told_29b
    rw [show (vI T1 0 3).toNat = a by omega, h3]
    refine ⟨by omega, by omega, by omega, fun _ => fin T1 _ _ _ hf (fun _ _ _ _ => rfl), fun z => absurd z (by omega)⟩
  | succ j ih =>
    intro i T1 l4 hj hf
    have hp1 := f15.p hf hp
    obtain ⟨h1, h2, h3, h4, h5, _⟩ := hp1.2.1
    refine w_X7_told_29b (d := d + 4) ?_
    unfold f_X7_told_29b
    rw [show (vI T1 0 3).toNat = a by omega, h3]
    refine ⟨by omega, by omega, by omega, fun z => absurd z (by omega), fun _ => ⟨by omega, fun z => fin T1 _ _ _ hf (fun _ _ _ _ => by omega), fun z => ⟨fun z2 => fin T1 _ _ _ hf (fun _ _ _ _ => by omega), fun z2 => ?_⟩⟩⟩
    have := told_one (sa := sa) (b := b) (E := E) (d := d) (T := T1) (w := w) (i := i) (N := sm (fun l => b1 (tdP c n nf w l)) i) (φ := φ) hp1 (by omega) (fun T' l4 hf' => ?_) z z2
    · rw [show (vI T1 0 3).toNat = a by omega] at this
      exact this
    · exact ih (i + 1) T' l4 (by omega) (fG.trans hf hf')
theorem r_told {w : Int} (hw : okI w) (h : rA T A) : gC (tP sa) lM b E (d + 6) mX7_told [.ref (b + 0), .int (zI w)] T (qI T (aTold A.2.2.1 A.2.2.2 w) A) := by
  have h0 := h.t0
  obtain ⟨h1, h2, h3, h4⟩ := id h0
  refine w_X7_told (d := d + 4) ?_
  unfold f_X7_told
  have q04 : vI (gI T 0 0 (zI 0)) 0 4 = vI T 0 4 := v_o (by omega)
  revert h3
  cases hA : A.2.2.1 with
  | none =>
    intro h3
    have h3' : vI (gI T 0 0 (zI 0)) 0 4 = 0 := h3
    exact ⟨fun _ => ⟨rfl, rfl, h0⟩, fun z => absurd (q04 ▸ h3') z⟩
  | some x =>
    rintro ⟨a, hp⟩
    obtain ⟨c, n, nv, nf⟩ := x
    dsimp only at hp
    have e4 := hp.2.2.2.1
    have hn := hp.1.1
    have e17 := h4.1
    unfold aTold
    dsimp only
    refine ⟨fun z => by omega, fun _ => ⟨hw, fun z => ?_, fun z => ⟨fun z2 => ?_, fun z2 => ?_⟩⟩⟩
    · rw [if_neg (by omega), if_neg (by omega), if_neg (by omega), if_neg (by omega), if_neg (by omega)]; exact ⟨rfl, rfl, h0⟩
    · have hw2 : 0 ≤ w ∧ w ≤ 7 := by omega
      have K : ∀ T', f15 (gI T 0 0 (zI 0)) T' → (fun v T' => qI T (if w = 0 then (n : Int) else if w = 1 then (nf : Int) else if w = 2 then (nv : Int) else if w = 7 then (A.2.2.2.1 : Int) else if 3 ≤ w ∧ w ≤ 6 then ((sm (fun l => b1 (tdP c n nf w l)) n : Nat) : Int) else -2) A (some (.int (zI v))) T') (if w = 0 then (n : Int) else if w = 1 then (nf : Int) else if w = 2 then (nv : Int) else if w = 7 then vI (gI T 0 0 (zI 0)) 0 17 else ((sm (fun l => b1 (tdP c n nf w l)) n : Nat) : Int)) T' := by
        intro T' hf
        refine ⟨?_, hf.2.2, f15.st hf h0⟩
        rw [e17]
        by_cases z0 : w = 0
        · rw [if_pos z0, if_pos z0]
        by_cases z1 : w = 1
        · rw [if_neg z0, if_pos z1, if_neg z0, if_pos z1]
        by_cases z3 : w = 2
        · rw [if_neg z0, if_neg z1, if_pos z3, if_neg z0, if_neg z1, if_pos z3]
        by_cases z7 : w = 7
        · rw [if_neg z0, if_neg z1, if_neg z3, if_pos z7, if_neg z0, if_neg z1, if_neg z3, if_pos z7]
        · rw [if_neg z0, if_neg z1, if_neg z3, if_neg z7, if_neg z0, if_neg z1, if_neg z3, if_neg z7, if_pos (by omega)]
      have toQ : ∀ {M : mM} {pc : Nat} {L : mL} {T1 : gT}, gW (tP sa) lM b E (d + 4 + 1 + 1) M pc L [] T1 (fun r T' => pI r (fun v => qI T (if w = 0 then (n : Int) else if w = 1 then (nf : Int) else if w = 2 then (nv : Int) else if w = 7 then (A.2.2.2.1 : Int) else if 3 ≤ w ∧ w ≤ 6 then ((sm (fun l => b1 (tdP c n nf w l)) n : Nat) : Int) else -2) A (some (.int (zI v))) T')) → gW (tP sa) lM b E (d + 4 + 1 + 1) M pc L [] T1 (qI T (if w = 0 then (n : Int) else if w = 1 then (nf : Int) else if w = 2 then (nv : Int) else if w = 7 then (A.2.2.2.1 : Int) else if 3 ≤ w ∧ w ≤ 6 then ((sm (fun l => b1 (tdP c n nf w l)) n : Nat) : Int) else -2) A) :=
        fun hh => hh.mono (Nat.le_refl _) (fun r T' hr => by obtain ⟨v, rfl, hv⟩ := hr; exact hv)
      apply toQ
      obtain ⟨i1, i2, i3, i4, i5, _⟩ := hp.2.1
      obtain ⟨g1, g2, _⟩ := hp.1.flat
      refine w_X7_told_29 (d := d + 4) ?_
      unfold f_X7_told_29
      rw [show (vI (gI T 0 0 (zI 0)) 0 3).toNat = a by omega, i3]
      have fin : ∀ (N l3 : Int), (¬ w = 0 → ¬ w = 1 → ¬ w = 2 → ¬ w = 7 → N = ((sm (fun l => b1 (tdP c n nf w l)) n : Nat) : Int)) → gW (tP sa) lM b E (d + 4 + 1 + 1) mX7_told 129 [some (.ref (b + 0)), some (.int (zI w)), some (.int (zI N)), some (.int (zI l3)), none] [] (gI T 0 0 (zI 0)) (fun r T' => pI r (fun v => qI T (if w = 0 then (n : Int) else if w = 1 then (nf : Int) else if w = 2 then (nv : Int) else if w = 7 then (A.2.2.2.1 : Int) else if 3 ≤ w ∧ w ≤ 6 then ((sm (fun l => b1 (tdP c n nf w l)) n : Nat) : Int) else -2) A (some (.int (zI v))) T')) := by
        intro N l3 hN
        refine w_X7_told_129 (d := d + 4) ?_
        refine told_end (sa := sa) (b := b) (E := E) (d := d + 4) (l3 := l3) (x := (c, n, nv, nf)) (a := a) hw2 hp ?_
        have e : (if w = 0 then (n : Int) else if w = 1 then (nf : Int) else if w = 2 then (nv : Int) else if w = 7 then vI (gI T 0 0 (zI 0)) 0 17 else N) = (if w = 0 then (n : Int) else if w = 1 then (nf : Int) else if w = 2 then (nv : Int) else if w = 7 then vI (gI T 0 0 (zI 0)) 0 17 else ((sm (fun l => b1 (tdP c n nf w l)) n : Nat) : Int)) := by
          by_cases z0 : w = 0
          · rw [if_pos z0, if_pos z0]
          rw [if_neg z0, if_neg z0]
          by_cases z1 : w = 1
          · rw [if_pos z1, if_pos z1]
          rw [if_neg z1, if_neg z1]
          by_cases z2 : w = 2
          · rw [if_pos z2, if_pos z2]
          rw [if_neg z2, if_neg z2]
          by_cases z7 : w = 7
          · rw [if_pos z7, if_pos z7]
          rw [if_neg z7, if_neg z7, hN z0 z1 z2 z7]
        dsimp only
        rw [e]
        exact K _ fG.refl
      refine ⟨by omega, by omega, by omega, fun z => by omega, fun _ => ⟨by omega, fun z => fin _ _ (fun _ _ _ _ => by omega), fun z => ⟨fun z3 => fin _ _ (fun _ _ _ _ => by omega), fun z3 => ?_⟩⟩⟩
      have := told_one (sa := sa) (b := b) (E := E) (d := d) (T := gI T 0 0 (zI 0)) (w := w) (i := 0) (N := 0) (φ := fun v T' => qI T (if w = 0 then (n : Int) else if w = 1 then (nf : Int) else if w = 2 then (nv : Int) else if w = 7 then (A.2.2.2.1 : Int) else if 3 ≤ w ∧ w ≤ 6 then ((sm (fun l => b1 (tdP c n nf w l)) n : Nat) : Int) else -2) A (some (.int (zI v))) T') hp g1 (fun T' l4 hf' => ?_) z z3
      · rw [show (vI (gI T 0 0 (zI 0)) 0 3).toNat = a by omega] at this
        exact this
      · exact told_lp (T := gI T 0 0 (zI 0)) hw2 hp K (n - 1) 1 T' l4 (by omega) hf'
    · rw [if_neg (by omega), if_neg (by omega), if_neg (by omega), if_neg (by omega), if_neg (by omega)]; exact ⟨rfl, rfl, h0⟩
theorem r_function {t w : Int} (ht : okI t) (hw : okI w) (h : rA T A) : gC (tP sa) lM b E (d + 4) mX7_function [.ref (b + 0), .int (zI t), .int (zI w)] T (qI T (aFun A.2.2.1 t w) A) := by
  have h0 := h.t0
  obtain ⟨h1, h2, h3, h4⟩ := id h0
  refine w_X7_function (d := d + 2) ?_
  unfold f_X7_function
  refine c_isFunction ht h3 (fun x a hx hp l0 l1 => ⟨by omega, fun z => by omega, fun _ => ?_⟩) (fun q => ⟨by omega, fun _ => ⟨?_, rfl, h0⟩, fun z => absurd rfl z⟩)
  · obtain ⟨c, n, nv, nf⟩ := x
    dsimp only at hp l1
    unfold aFun
    rw [hx]
    dsimp only
    rw [if_pos ⟨l0, l1⟩]
    obtain ⟨t, rfl⟩ : ∃ m : Nat, t = (m : Int) := ⟨t.toNat, by omega⟩
    rw [Int.toNat_natCast]
    obtain ⟨m1, m2, m3, m4, m5, m6, m7, m8, m9⟩ := hp.2.1
    obtain ⟨g1, g2, g3, g4⟩ := hp.1.flat
    have hn := hp.1.1
    have hnf := hp.1.2.2.1
    obtain ⟨a1, a2, a3⟩ := lbN_ok (c := c) (n := n) (t := t) (by omega)
    have el := m7 _ a1 a2
    rw [a3] at el
    rw [el]
    have hFx := hp.2.2.2.2.1
    have hRx := hp.2.2.2.2.2.2
    refine ⟨hw, fun z => ?_, fun z => ⟨fun z2 => ⟨by omega, by omega, ?_⟩, fun z2 => ?_⟩⟩
    · rw [if_neg (by omega), if_neg (by omega), if_neg (by omega), if_neg (by omega), if_neg (by omega), if_neg (by omega), if_neg (by omega)]; exact ⟨rfl, rfl, h0⟩
    · have lp : ∀ (j i : Nat), j + i = n → gW (tP sa) lM b E (d + 2 + 1 + 1) mX7_function 39 [some (.ref (b + 0)), some (.int (zI (t : Int))), some (.int (zI w)), some (.int (zI (lbN c n t : Int))), some (.int (zI ((sm (fun l => b1 (c l 0 = 11 ∧ (opF c n l).testBit t = true)) i : Nat) : Int))), some (.int (zI (i : Int)))] [] (gI T 0 0 (zI 0)) (qI T (if w = 0 then (lbN c n t : Int) else if w = 1 then c (lbN c n t) 3 else if w = 2 then c (lbN c n t) 1 else if w = 3 then c (lbN c n t) 2 else if w = 4 then (frc c (lbN c n t) : Int) else if w = 5 then ((sm (fun l => b1 (c l 0 = 11 ∧ (opF c n l).testBit t = true)) n : Nat) : Int) else if w = 6 then (b1 ((Rx c n nf t).testBit t = true) : Int) else -2) A) := by
        intro j
        induction j with
        | zero =>
          intro i hj
          obtain rfl : i = n := by omega
          refine w_X7_function_39 (d := d + 2) ?_
          unfold f_X7_function_39
          rw [show (vI (gI T 0 0 (zI 0)) 0 3).toNat = a by omega, m3, Int.toNat_natCast, Int.toNat_natCast, m4 _ 3 a1 (by omega), m4 _ 1 a1 (by omega), m4 _ 2 a1 (by omega), (hRx t (by omega)).1, bit_iv (by omega)]
          refine ⟨by omega, by omega, by omega, fun _ => ⟨hw, fun e => ?_, fun e => ?_, fun e => ?_, fun e => ?_, fun e => ?_, fun e => ?_, fun e => ?_⟩, fun z => absurd z (by omega)⟩
          · rw [if_pos e]; exact ⟨rfl, rfl, h0⟩
          · rw [if_neg (by omega), if_pos e]; exact ⟨by omega, by omega, rfl, rfl, h0⟩
          · rw [if_neg (by omega), if_neg (by omega), if_pos e]; exact ⟨by omega, by omega, rfl, rfl, h0⟩
          · rw [if_neg (by omega), if_neg (by omega), if_neg (by omega), if_pos e]; exact ⟨by omega, by omega, rfl, rfl, h0⟩
          · rw [if_neg (by omega), if_neg (by omega), if_neg (by omega), if_neg (by omega), if_pos e]
            exact c_freeOf (d := d) hp (by omega) (fun T' hf => ⟨rfl, hf.2.2, f15.st hf h0⟩)
          · rw [if_neg (by omega), if_neg (by omega), if_neg (by omega), if_neg (by omega), if_neg (by omega), if_pos e]; exact ⟨rfl, rfl, h0⟩
          · rw [if_neg (by omega), if_neg (by omega), if_neg (by omega), if_neg (by omega), if_neg (by omega), if_neg (by omega), if_pos (by omega)]; exact ⟨by omega, by omega, rfl, rfl, h0⟩
        | succ j ih =>
          intro i hj
          have hi : i < n := by omega
          have := ih (i + 1) (by omega)
          rw [sm] at this
          refine w_X7_function_39 (d := d + 2) ?_
          unfold f_X7_function_39
          rw [show (vI (gI T 0 0 (zI 0)) 0 3).toNat = a by omega, m3]
          rw [show (i : Int).toNat = i from Int.toNat_natCast _, m4 i 0 hi (by omega), m4 i 3 hi (by omega), show (i : Int) + 1 = ((i + 1 : Nat) : Int) by omega]
          refine ⟨by omega, by omega, by omega, fun z => absurd z (by omega), fun _ => ⟨by omega, by omega, fun z => ?_, fun z => ?_⟩⟩
          · unfold b1 at this ⊢; rw [if_neg (fun q => z q.1)] at this; exact this
          · have q3 := (g4 i hi).1.2.2.2.1 (by omega)
            rw [hFx _ (by omega), bit_r (by omega)]
            refine ⟨by omega, by omega, by omega, fun z2 => ?_, fun z2 => ?_⟩
            · unfold b1 at this ⊢; rw [if_neg (fun q => z2 q.2)] at this; exact this
            · unfold b1 at this ⊢; rw [if_pos ⟨z, z2⟩] at this
              rw [show ∀ x : Nat, ((x + 1 : Nat) : Int) = (x : Int) + 1 from fun x => by omega] at this
              rw [show ((i + 1 : Nat) : Int) = (i : Int) + 1 by omega]
              exact this
      exact lp n 0 rfl
    · rw [if_neg (by omega), if_neg (by omega), if_neg (by omega), if_neg (by omega), if_neg (by omega), if_neg (by omega), if_neg (by omega)]; exact ⟨rfl, rfl, h0⟩
  · unfold aFun
    rcases q with q | ⟨x, q, q2⟩
    · rw [q]
    · rw [q]; dsimp only; rw [if_neg q2]
end PC
