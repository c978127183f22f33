section RW
variable {sa : Nat → Nat} {b : Nat} {E : Nat × mH} {d : Nat} {T0 T T' : gT} {a : Nat} {c : Nat → Nat → Int} {n nv nf N N' : Nat} {K : List mFr} {nb st : Nat} {us : Nat → Int64} {φ : gT → Prop}
theorem rP_of (hp : rPa T0 a c n nv nf) (hf : fG Wr Vr T0 T) : rPa T a c n nv nf := by
  have ha := hp.2.1.1
  exact hp.of (fun k j z => hf.v (by unfold Wr; omega)) (fun k j z z2 => hf.2.1 k j (by unfold Vr; omega))
/-- a value comes: the expr goes -/
theorem rCf_come {l : Nat} {e v w : eT} {k r : Int} {x : Int64} (h : rCf T0 T c n (some (l, e), K, v, nb, st, us)) (hv : rX T c n N w k x r) (hN : vI T 0 42 = (N : Int)) (hk : okI k) (hr : okI r) :
    rCf T0 (gI (gI (gJ (gI T 0 43 (zI k)) 0 44 x) 0 45 (zI r)) 0 36 (zI ((vI T 0 36) - 1))) c n (none, K, w, nb, st, us) := by
  obtain ⟨M, hB, hC⟩ := rCf_iff.mp h
  obtain rfl : M = N := by have := hB.2.1; omega
  obtain ⟨c1, c2, c3, c4⟩ := hC
  refine rCf_iff.mpr ⟨M, hB.of (W := fun k i => k = 0 ∧ (i = 43 ∨ i = 45 ∨ i = 36)) (V := fun k i => k = 0 ∧ i = 44) ((((fG.refl.gI ⟨rfl, by omega⟩).gJ ⟨rfl, rfl⟩).gI ⟨rfl, by omega⟩).gI ⟨rfl, by omega⟩) (fun k i z => by unfold Wr; omega) (fun k i z => by unfold Vr; omega), ?_, ?_⟩
  · rw [v_s (by have := vI_lo T 0 36; have := vI_hi T 0 36; omega)]; omega
  · have hc : chS T M (gI (gI (gJ (gI T 0 43 (zI k)) 0 44 x) 0 45 (zI r)) 0 36 (zI ((vI T 0 36) - 1))) M := by
      refine ⟨Nat.le_refl _, fun q _ => ⟨?_, ?_, ?_, ?_, ?_⟩⟩
      · rw [v_o (by omega), v_o (by omega), vI_gJ, v_o (by omega)]
      · rw [v_o (by omega), v_o (by omega), vI_gJ, v_o (by omega)]
      · rw [gI_J, gI_J, gJ_J, if_neg (by omega), gI_J]
      · rw [v_o (by omega), v_o (by omega), vI_gJ, v_o (by omega)]
      · rw [v_o (by omega), v_o (by omega), vI_gJ, v_o (by omega)]
    have e1 : vI (gI (gI (gJ (gI T 0 43 (zI k)) 0 44 x) 0 45 (zI r)) 0 36 (zI ((vI T 0 36) - 1))) 0 43 = k := by rw [v_o (by omega), v_o (by omega), vI_gJ, v_s hk]
    have e2 : vI (gI (gI (gJ (gI T 0 43 (zI k)) 0 44 x) 0 45 (zI r)) 0 36 (zI ((vI T 0 36) - 1))) 0 45 = r := by rw [v_o (by omega), v_s hr]
    have e3 : (gI (gI (gJ (gI T 0 43 (zI k)) 0 44 x) 0 45 (zI r)) 0 36 (zI ((vI T 0 36) - 1))).2.1 0 44 = x := by rw [gI_J, gI_J, gJ_J, if_pos ⟨rfl, rfl⟩]
    rw [e1, e2, e3]
    exact rX.of hc w k x r hv
/-- looking a variable up -/
theorem work_lk (hp : rPa T a c n nv nf) {l x : Nat} (hl : l < n) (hx : c l 1 = (x : Int)) (hN2 : N < 4200) {w : eT} {l2 l3 : Int} (k : ∀ (k : Int) (y : Int64) (r : Int), okI k → okI r → rX T c n N (lkE c n x w) k y r → φ (gI (gI (gJ (gI T 0 43 (zI k)) 0 44 y) 0 45 (zI r)) 0 36 (zI ((vI T 0 36) - 1)))) :
    ∀ (e : eT) (vs : List Nat) (r : Int), fit c n e (some vs) → x ∈ vs → rX T c n N e 0 0 r → lkE c n x e = lkE c n x w → gW (tP sa) lM b E (d + 2) mX7_work 38 [some (.ref (b + 0)), some (.int (zI (l : Int))), some (.int (zI l2)), some (.int (zI l3)), some (.int (zI r))] [] T (fun r T' => pV r (φ T'))
  | .nil, vs, r, hf, hv, _, _ => by
    rw [fit] at hf
    rw [hf] at hv; cases hv
  | .append (.tag v u) (.nest z e), vs, r, hf, hv, hX, he => by
    have hn := hp.1.1
    obtain ⟨m1, m2, m3, m4, _⟩ := hp.2.1
    rw [fit] at hf
    obtain ⟨f2, vs', f3, f4⟩ := hf
    rw [rX] at hX
    obtain ⟨q, h1, h2, h3, h4, h5⟩ := hX
    subst h1
    rw [lkE] at he
    refine w_X7_work_38 (d := d) ?_
    unfold f_X7_work_38
    rw [show (vI T 0 3).toNat = a by omega, Int.toNat_natCast, Int.toNat_natCast, m4 l 1 hl (by omega), hx, h3]
    refine ⟨by omega, by omega, by omega, by omega, fun z => ?_, fun z => ?_⟩
    · rw [if_pos (by omega)] at he
      rw [he] at h4
      exact ⟨rfl, k _ _ _ ⟨vI_lo _ _ _, vI_hi _ _ _⟩ ⟨vI_lo _ _ _, vI_hi _ _ _⟩ h4⟩
    · rw [if_neg (by omega)] at he
      refine work_lk hp hl hx hN2 k e vs' _ f4.1 ?_ h5 he
      rw [f3] at hv
      rcases List.mem_cons.mp hv with y | y
      · exact absurd (by rw [y]) z
      · exact y
  | .append (.tag v u) (.tag t e), vs, r, hf, hv, hX, he => by
    have hn := hp.1.1
    obtain ⟨m1, m2, m3, m4, _⟩ := hp.2.1
    rw [fit] at hf
    obtain ⟨f2, f3, f4, f5, vs', y, f6, f7, f8, f9⟩ := hf
    rw [rX] at hX
    obtain ⟨q, s, h1, h2, h3, h4, h5, h6, h7, h8, h9, h10, h11⟩ := hX
    subst h1
    rw [lkE] at he
    refine w_X7_work_38 (d := d) ?_
    unfold f_X7_work_38
    rw [show (vI T 0 3).toNat = a by omega, Int.toNat_natCast, Int.toNat_natCast, m4 l 1 hl (by omega), hx, h3]
    refine ⟨by omega, by omega, by omega, by omega, fun z => ?_, fun z => ?_⟩
    · rw [if_pos (by omega)] at he
      rw [he] at h4
      exact ⟨rfl, k _ _ _ ⟨vI_lo _ _ _, vI_hi _ _ _⟩ ⟨vI_lo _ _ _, vI_hi _ _ _⟩ h4⟩
    · rw [if_neg (by omega)] at he
      rw [h5]
      refine w_X7_work_38 (d := d) ?_
      unfold f_X7_work_38
      rw [show (vI T 0 3).toNat = a by omega, Int.toNat_natCast, Int.toNat_natCast, m4 l 1 hl (by omega), hx, h7]
      refine ⟨by omega, by omega, by omega, by omega, fun z2 => ?_, fun z2 => ?_⟩
      · rw [if_pos z2] at he
        refine ⟨rfl, k _ _ _ ⟨vI_lo _ _ _, vI_hi _ _ _⟩ ⟨vI_lo _ _ _, vI_hi _ _ _⟩ ?_⟩
        rw [← he, rX]
        exact ⟨h8, h9, by rw [h10]; exact h11⟩
      · rw [if_neg z2] at he
        refine work_lk hp hl hx hN2 k e vs' _ f9 ?_ h11 he
        rw [f7] at hv
        rcases List.mem_cons.mp hv with y' | y'
        · exact absurd (by rw [y']) z
        · rcases List.mem_cons.mp y' with y' | y'
          · exact absurd (by rw [f6, y']) z2
          · exact y'
theorem c_work (hp : rPa T0 a c n nv nf) {l : Nat} {e v : eT} {vs : List Nat} (h : rCf T0 T c n (some (l, e), K, v, nb, st, us)) (hw : wAt c n l vs) (hf : fit c n e (some vs)) (hK : K.length < 2098) (hnb : nb ≤ 2000) (k : ∀ T', rCf T0 T' c n (bg1 c n l e K v nb st us) → φ T') : gC (tP sa) lM b E (d + 2) mX7_work [.ref (b + 0)] T (fun r T' => pV r (φ T')) := by
  obtain ⟨N, hB, hC⟩ := rCf_iff.mp h
  obtain ⟨c1, c2, c3, c4⟩ := id hC
  have hp1 := rP_of hp hB.1
  obtain ⟨m1, m2, m3, m4, m5, m6, _⟩ := hp1.2.1
  have hn := hp1.1.1
  have hl := hw.lt
  have w1 := (hp1.1.flat.2.2.2 l hl).1.1
  have hN := hB.2.2.1
  have ix := rX.ix hf c3
  dsimp only at c2
  refine w_X7_work (d := d) ?_
  unfold f_X7_work
  rw [c1, show (K.length : Int) + 1 - 1 = (K.length : Int) by omega, Int.toNat_natCast, c2, Int.toNat_natCast, show (vI T 0 3).toNat = a by omega, m4 l 0 hl (by omega), m4 l 1 hl (by omega), m4 l 3 hl (by omega)]
  unfold bg1 at k
  have fn : (c l 0 = 2 ∨ c l 0 = 3) → gW (tP sa) lM b E (d + 1 + 1) mX7_work 156 [some (.ref (b + 0)), some (.int (zI (l : Int))), some (.int (zI (vI T 17 K.length))), some (.int (zI (c l 0))), none] [] T (fun r T' => pV r (φ T')) := by
    intro hk
    rw [if_neg (by omega), if_neg (by omega), if_pos hk] at k
    refine w_X7_work_156 (d := d) ?_
    unfold f_X7_work_156
    rw [Int.toNat_natCast, m6 l hl]
    refine ⟨by omega, by omega, rfl, k _ ?_⟩
    refine rCf_come h ?_ hB.2.1 (by unfold okI; omega) ⟨vI_lo _ _ _, vI_hi _ _ _⟩
    unfold vC
    rw [rX]
    refine ⟨rfl, ?_, c3⟩
    unfold foN; rw [if_pos hk]
  refine ⟨by omega, by omega, by omega, by omega, fun k0 => ⟨fun k1 => ⟨fun k2 => fn (Or.inl k2), fun k2 => ⟨fun k3 => ⟨by omega, ?_⟩, fun k3 => fn (Or.inr k3)⟩⟩, fun k1 => ⟨by omega, rfl, ?_⟩⟩, fun k0 => ?_⟩
  · rw [if_neg k0, if_neg k1, if_neg (by omega)] at k
    obtain ⟨p1, m, p2, p3, _⟩ := hw.parts.2.2.2 (by omega)
    rw [p2, Int.toNat_natCast] at k
    rw [p2]
    have hl3 := p3.lt
    have hb2 : rB T0 (gI T 18 K.length (zI 1)) c n N ((l, e, none) :: K) nb st us := by
      have := hB.of (T' := gI T 18 K.length (zI 1)) (W := fun k i => k = 18 ∧ i = K.length) (V := fun _ _ => False) (fG.refl.gI ⟨rfl, rfl⟩) (fun k i z => by unfold Wr; omega) (fun k i z => z.elim)
      obtain ⟨b1, b2, b3, b4, b5⟩ := this
      refine ⟨b1, b2, b3, ⟨⟨?_, ?_, ?_⟩, b4⟩, b5⟩
      · rw [v_o (by omega)]; exact c2
      · rw [v_o (by omega)]
        have hc : chS T N (gI T 18 K.length (zI 1)) N := by
          refine ⟨Nat.le_refl _, fun q _ => ⟨?_, ?_, rfl, ?_, ?_⟩⟩ <;> rw [v_o (by omega)]
        exact rX.of hc e 0 0 _ c3
      · exact v_s (by omega)
    refine c_push (d := d + 1) (v := v) hb2 ?_ (by rw [List.length_cons]; omega) ?_ ⟨vI_lo _ _ _, vI_hi _ _ _⟩ (by omega) (fun T' hT => ⟨rfl, k T' hT⟩)
    · rw [v_o (by omega), c1, List.length_cons]; omega
    · have hc : chS T N (gI T 18 K.length (zI 1)) N := by
        refine ⟨Nat.le_refl _, fun q _ => ⟨?_, ?_, rfl, ?_, ?_⟩⟩ <;> rw [v_o (by omega)]
      exact rX.of hc e 0 0 _ c3
  · rw [if_neg k0, if_pos k1] at k
    have hv : rX T c n N (vN (zI (c l 1)).toInt64) 0 ((zI (c l 1)).toInt64) (vI T 0 45) := by
      unfold vN; rw [rX, Int64.ofInt_toInt]; exact ⟨rfl, rfl⟩
    have := rCf_come (k := 0) (r := vI T 0 45) h hv hB.2.1 (by unfold okI; omega) ⟨vI_lo _ _ _, vI_hi _ _ _⟩
    rw [c1, show (K.length : Int) + 1 - 1 = (K.length : Int) by omega] at this
    have e45 : gI (gJ (gI T 0 43 (zI 0)) 0 44 ((zI (c l 1)).toInt64)) 0 45 (zI (vI T 0 45)) = gJ (gI T 0 43 (zI 0)) 0 44 ((zI (c l 1)).toInt64) := by
      apply gI_same
      rw [zI_v, gJ_I, gI_I, if_neg (by omega)]
    rw [e45] at this
    exact k _ this
  · rw [if_pos k0] at k
    obtain ⟨x, x1, x2⟩ := hw.parts.1 k0
    rw [x2, Int.toNat_natCast] at k
    refine work_lk (w := e) hp1 hl x2 (by omega) (fun k9 y r hk9 hr hX => ?_) e vs _ hf x1 c3 rfl
    exact k _ (rCf_come h hX hB.2.1 hk9 hr)
end RW
