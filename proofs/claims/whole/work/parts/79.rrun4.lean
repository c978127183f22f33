section RG
variable {sa : Nat → Nat} {b : Nat} {E : Nat × mH} {d : Nat} {T0 T T' : gT} {a : Nat} {c : Nat → Nat → Int} {n nv nf N N' : Nat} {K : List mFr} {nb st : Nat} {us : Nat → Int64} {φ : gT → Prop}
/-- the run has ended -/
def rEn (T0 T : gT) (o : mOu) : Prop := fG Wr Vr T0 T ∧ vI T 0 46 = o.1 ∧ o.1 ≠ -1 ∧ T.2.1 0 18 = o.2.1 ∧ vI T 0 17 = (o.2.2.1 : Int) ∧ (∀ l, l < 200 → T.2.1 12 l = o.2.2.2 l) ∧ vI T 0 16 = 1
theorem c_stuck {l : Nat} (h : rB T0 T c n N K nb st us) (k : ∀ T', rEn T0 T' (2, (zI (l : Int)).toInt64, st, us) → φ T') : gC (tP sa) lM b E d mX7_stuck [.ref (b + 0), .int (zI (l : Int))] T (fun r T' => pV r (φ T')) := by
  obtain ⟨h1, h2, h3, h4, h5, h6, h7, h8, h9⟩ := h
  refine w_X7_stuck ?_
  unfold f_X7_stuck
  refine ⟨rfl, k _ ⟨(h1.gI (Or.inl ⟨rfl, by omega⟩)).gJ (Or.inl ⟨rfl, by omega⟩), ?_, by show (2 : Int) ≠ -1; decide, ?_, ?_, fun l hl => ?_, ?_⟩⟩
  · rw [vI_gJ, v_s (by omega)]
  · rw [gJ_J, if_pos ⟨rfl, rfl⟩]
  · rw [vI_gJ, v_o (by omega)]; exact h5
  · rw [gJ_J, if_neg (by omega)]; exact h6 l hl
  · rw [vI_gJ, v_o (by omega)]; exact h8
/-- what one turn comes to -/
def rSt (T0 T : gT) (c : Nat → Nat → Int) (n : Nat) : mCf ⊕ mOu → Prop
  | .inl s => rCf T0 T c n s
  | .inr o => rEn T0 T o
theorem t_i32 : ∀ t : Fin 50, ((zI (t.val : Int)).toInt64.toInt32.toInt) = (t.val : Int) := by decide +kernel
/-- the waiting expr goes -/
theorem rB.pop {p : mFr} (h : rB T0 T c n N (p :: K) nb st us) : rB T0 T c n N K nb st us := by
  obtain ⟨h1, h2, h3, h4, h5⟩ := h
  exact ⟨h1, h2, h3, h4.2, h5⟩
theorem rB.cnt {nb' : Nat} (h : rB T0 T c n N K nb st us) (hN : N ≤ 2 * nb') : rB T0 T c n N K nb' st us := by
  obtain ⟨h1, h2, h3, h4, h5⟩ := h
  exact ⟨h1, h2, hN, h4, h5⟩
/-- behind chain -/
theorem rB.chain {nb' : Nat} (h : rB T0 T c n N K nb st us) (hf : fG (fun k i => (i = N ∧ 22 ≤ k) ∨ (k = 0 ∧ i = 42)) (fun k i => k = 24 ∧ i = N) T T') (hc : chS T N T' (N + 1)) (h42 : vI T' 0 42 = ((N + 1 : Nat) : Int)) (hN : N + 1 ≤ 2 * nb') : rB T0 T' c n (N + 1) K nb' st us := by
  obtain ⟨h1, h2, h3, h4, h5, h6, h7, h8, h9⟩ := h
  have q : ∀ {k i}, ¬ ((i = N ∧ 22 ≤ k) ∨ (k = 0 ∧ i = 42)) → vI T' k i = vI T k i := fun z => hf.v z
  have j : ∀ {k i}, ¬ (k = 24 ∧ i = N) → T'.2.1 k i = T.2.1 k i := fun z => hf.2.1 _ _ z
  refine ⟨h1.trans (hf.mono (fun k i z => by unfold Wr; omega) (fun k i z => by unfold Vr; omega)), h42, hN, h4.of hc (fun i hi => ⟨q (by omega), q (by omega), q (by omega), q (by omega), j (by omega), q (by omega)⟩), by rw [q (by omega)]; exact h5, fun l hl => by rw [j (by omega)]; exact h6 l hl, by rw [q (by omega)]; exact h7, by rw [q (by omega)]; exact h8, by rw [j (by omega)]; exact h9⟩
theorem c_reckon {l : Nat} {e w v : eT} (h : rB T0 T c n N ((l, e, some w) :: K) nb st us) (h36 : vI T 0 36 = (K.length : Int) + 1) (hK : K.length < 2098) (hv : rX T c n N v (vI T 0 43) (T.2.1 0 44) (vI T 0 45)) (fv : fit c n v none) (fw : fit c n w none) (hl : c l 0 ≠ 4 ∧ c l 0 ≠ 5 ∧ c l 0 ≠ 11) (hk : okI (c l 0)) (k : ∀ T', rSt T0 T' c n (hd1 c n l e (some w) K v nb st us) → φ T') : gC (tP sa) lM b E (d + 1) mX7_reckon [.ref (b + 0), .int (zI (l : Int)), .int (zI (c l 0)), .int (zI (K.length : Int))] T (fun r T' => pV r (φ T')) := by
  obtain ⟨f1, f2, f3, f4⟩ := h.2.2.2.1.1

  unfold hd1 at k
  rw [if_neg hl.1, if_neg hl.2.1] at k
  dsimp only at k
  rw [if_neg hl.2.2] at k
  refine w_X7_reckon (d := d) ?_
  unfold f_X7_reckon
  rcases fit_isC fv with ⟨q, z, e1, rfl⟩ | ⟨t, e1, q, rfl, q2⟩
  · rw [q] at k
    rw [rX] at hv
    refine ⟨fun z => by omega, fun _ => ⟨by omega, by omega, ?_⟩⟩
    rw [Int.toNat_natCast]
    rcases fit_isC fw with ⟨q', z', e1', rfl⟩ | ⟨t', e1', q', rfl, q2'⟩
    · rw [q'] at k
      rw [rX] at f4
      have n1 : nmV (.nest z e1) = T.2.1 0 44 := hv.2.symm
      have n2 : nmV (.nest z' e1') = T.2.1 20 K.length := f4.2.symm
      dsimp only at k
      rw [n1, n2] at k
      have fin : ∀ y, opV (c l 0) (T.2.1 20 K.length) (T.2.1 0 44) = y → φ (gI (gI (gJ T 0 44 y) 0 43 (zI 0)) 0 36 (zI ((vI T 0 36) - 1))) := by
        intro y hy
        rw [hy] at k
        refine k _ (rCf_iff.mpr ⟨N, (h.pop).of (W := fun k i => k = 0 ∧ (i = 43 ∨ i = 36)) (V := fun k i => k = 0 ∧ i = 44) (((fG.refl.gJ ⟨rfl, rfl⟩).gI ⟨rfl, by omega⟩).gI ⟨rfl, by omega⟩) (fun k i z => by unfold Wr; omega) (fun k i z => by unfold Vr; omega), ?_, ?_⟩)
        · rw [v_s (by omega)]; omega
        · unfold vN
          rw [rX, v_o (by omega), v_s (by omega), gI_J, gI_J, gJ_J, if_pos ⟨rfl, rfl⟩, Int64.ofInt_toInt]
          exact ⟨rfl, rfl⟩
      refine ⟨fun _ => ⟨hk, fun k6 => ⟨fun k7 => ⟨fun k8 => ⟨fun k9 => ⟨fun y => ⟨rfl, fin _ ?_⟩, fun y => ⟨rfl, fin _ ?_⟩⟩, fun k9 => ⟨fun y => ⟨rfl, fin _ ?_⟩, fun y => ⟨rfl, fin _ ?_⟩⟩⟩, fun k8 => ⟨rfl, fin _ ?_⟩⟩, fun k7 => ⟨rfl, fin _ ?_⟩⟩, fun k6 => ⟨rfl, fin _ ?_⟩⟩, fun z => by omega⟩ <;> unfold opV
      · rw [if_neg k6, if_neg k7, if_neg k8, if_neg k9, if_neg y]
      · rw [if_neg k6, if_neg k7, if_neg k8, if_neg k9, if_pos y]
      · rw [if_neg k6, if_neg k7, if_neg k8, if_pos k9, if_neg y]
      · rw [if_neg k6, if_neg k7, if_neg k8, if_pos k9, if_pos y]
      · rw [if_neg k6, if_neg k7, if_pos k8]
      · rw [if_neg k6, if_pos k7]
      · rw [if_pos k6]
    · rw [q'] at k
      rw [rX] at f4
      exact ⟨fun z => absurd f4.1 z, fun _ => c_stuck h (fun T' hT => ⟨rfl, k T' hT⟩)⟩
  · rw [q] at k
    rw [rX] at hv
    exact ⟨fun _ => c_stuck h (fun T' hT => ⟨rfl, k T' hT⟩), fun z => absurd hv.1 z⟩
end RG
