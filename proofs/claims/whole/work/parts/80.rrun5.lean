section RH
variable {sa : Nat → Nat} {b : Nat} {E : Nat × mH} {d : Nat} {T0 T T' : gT} {a : Nat} {c : Nat → Nat → Int} {n nv nf N N' : Nat} {K : List mFr} {nb st : Nat} {us : Nat → Int64} {φ : gT → Prop}
theorem call_112 (hp : rPa T0 a c n nv nf) {g x m nb1 : Nat} {v env : eT} {l1 l2 l3 l5 l8 l9 : Int} {l6 : Int64} (h : rB T0 T c n N K nb st us) (h36 : vI T 0 36 = (K.length : Int) + 1) (hK : K.length < 2098) (hN : N + 1 ≤ 2 * nb1) (hN2 : N < 4200) (hg : g < n) (hx : c g 1 = (x : Int)) (hx2 : x < 1000) (hm : c g 3 = (m : Int)) (hm2 : m < 200)
    (hv : rX T c n N v l5 l6 l8) (h5 : okI l5) (h8 : okI l8) (h9 : okI l9) (hE : ∀ T', chS T N T' (N + 1) → vI T' 22 N = (x : Int) → rX T' c n (N + 1) v (vI T' 23 N) (T'.2.1 24 N) (vI T' 25 N) → vI T' 26 N = l9 → rX T' c n (N + 1) env 0 0 (N : Int))
    (k : ∀ T', rCf T0 T' c n (some (m, env), K, v, nb1, st, us) → φ T') : gW (tP sa) lM b E (d + 2) mX7_call 112 [some (.ref (b + 0)), some (.int (zI l1)), some (.int (zI l2)), some (.int (zI l3)), some (.int (zI (g : Int))), some (.int (zI l5)), some (.long l6), none, some (.int (zI l8)), some (.int (zI l9))] [] T (fun r T' => pV r (φ T')) := by
  have hp1 := rP_of hp h.1
  obtain ⟨m1, m2, m3, m4, _⟩ := hp1.2.1
  have hn := hp1.1.1
  refine w_X7_call_112 (d := d) ?_
  unfold f_X7_call_112
  rw [show (vI T 0 3).toNat = a by omega, Int.toNat_natCast, m4 g 1 hg (by omega), hx]
  refine ⟨by omega, by omega, ?_⟩
  generalize hT2 : gI (gJ (gI T 0 43 (zI l5)) 0 44 l6) 0 45 (zI l8) = T2
  have f2 : fG (fun k i => k = 0 ∧ (i = 43 ∨ i = 45)) (fun k i => k = 0 ∧ i = 44) T T2 := by rw [← hT2]; exact ((fG.refl.gI ⟨rfl, by omega⟩).gJ ⟨rfl, rfl⟩).gI ⟨rfl, by omega⟩
  have q2 : ∀ {k i}, ¬ (k = 0 ∧ (i = 43 ∨ i = 45)) → vI T2 k i = vI T k i := fun z => f2.v z
  have j2 : ∀ {k i}, ¬ (k = 0 ∧ i = 44) → T2.2.1 k i = T.2.1 k i := fun z => f2.2.1 _ _ z
  have b2 : rB T0 T2 c n N K nb st us := h.of f2 (fun k i z => by unfold Wr; omega) (fun k i z => by unfold Vr; omega)
  have e43 : vI T2 0 43 = l5 := by rw [← hT2, v_o (by omega), vI_gJ, v_s h5]
  have e44 : T2.2.1 0 44 = l6 := by rw [← hT2, gI_J, gJ_J, if_pos ⟨rfl, rfl⟩]
  have e45 : vI T2 0 45 = l8 := by rw [← hT2, v_s h8]
  have c2 : chS T N T2 N := ⟨Nat.le_refl _, fun q _ => ⟨q2 (by omega), q2 (by omega), j2 (by omega), q2 (by omega), q2 (by omega)⟩⟩
  refine c_chain (d := d + 1) (N := N) b2.2.1 hN2 hx2 h9 (fun T3 f3 c3 h42 h22 h23 h24 h25 h26 => ?_)
  have q3 : ∀ {k i}, ¬ ((i = N ∧ 22 ≤ k) ∨ (k = 0 ∧ i = 42)) → vI T3 k i = vI T2 k i := fun z => f3.v z
  have b3 : rB T0 T3 c n (N + 1) K nb1 st us := b2.chain f3 c3 h42 hN
  obtain ⟨m1', m2', m3', m4', _⟩ := (rP_of hp b3.1).2.1
  have c13 : chS T N T3 (N + 1) := ⟨c3.1, fun q hq => by
    obtain ⟨a1, a2, a3, a4, a5⟩ := c2.2 q hq
    obtain ⟨d1, d2, d3, d4, d5⟩ := c3.2 q hq
    exact ⟨d1.trans a1, d2.trans a2, d3.trans a3, d4.trans a4, d5.trans a5⟩⟩
  rw [show (vI T3 0 3).toNat = a by omega, m4' g 3 hg (by omega), hm]
  refine ⟨by omega, by omega, ?_⟩
  have e36 : vI T3 0 36 = (K.length : Int) + 1 := by rw [q3 (by omega), q2 (by omega)]; exact h36
  have b4 : rB T0 (gI T3 0 36 (zI (vI T3 0 36 - 1))) c n (N + 1) K nb1 st us := b3.of (W := fun k i => k = 0 ∧ i = 36) (V := fun _ _ => False) (fG.refl.gI ⟨rfl, rfl⟩) (fun k i z => by unfold Wr; omega) (fun k i z => z.elim)
  refine c_push (d := d + 1) (v := v) b4 ?_ (by omega) ?_ (by unfold okI; omega) hm2 (fun T' hT => ⟨rfl, k T' hT⟩)
  · rw [v_s (by omega)]; omega
  · have hc : chS T3 (N + 1) (gI T3 0 36 (zI (vI T3 0 36 - 1))) (N + 1) := by
      refine ⟨Nat.le_refl _, fun q _ => ⟨?_, ?_, rfl, ?_, ?_⟩⟩ <;> rw [v_o (by omega)]
    refine rX.of hc env 0 0 _ (hE T3 c13 h22 ?_ h26)
    rw [h23, h24, h25, e43, e44, e45]
    exact rX.of c13 v _ _ _ hv
theorem c_call (hp : rPa T0 a c n nv nf) {l : Nat} {e w v : eT} (h : rB T0 T c n N ((l, e, some w) :: K) nb st us) (h36 : vI T 0 36 = (K.length : Int) + 1) (hK : K.length < 2098) (hnb : nb ≤ 2000) (hv : rX T c n N v (vI T 0 43) (T.2.1 0 44) (vI T 0 45)) (fv : fit c n v none) (fw : fit c n w none) (hl : l < n) (hk : c l 0 = 11) (k : ∀ T', rSt T0 T' c n (hd1 c n l e (some w) K v nb st us) → φ T') : gC (tP sa) lM b E (d + 2) mX7_call [.ref (b + 0), .int (zI (l : Int)), .int (zI (K.length : Int))] T (fun r T' => pV r (φ T')) := by
  obtain ⟨f1, f2, f3, f4⟩ := h.2.2.2.1.1
  have hp1 := rP_of hp h.1
  obtain ⟨m1, m2, m3, m4, m5, m6, m7, _⟩ := hp1.2.1
  obtain ⟨g1, g2, g3, g4⟩ := hp1.1.flat
  have hn := hp1.1.1
  have hnv := hp1.1.2.1
  have hnf := hp1.1.2.2.1
  have hN := h.2.2.1
  unfold hd1 at k
  rw [if_neg (by omega), if_neg (by omega)] at k
  dsimp only at k
  rw [if_pos hk] at k
  refine w_X7_call (d := d) ?_
  unfold f_X7_call
  rw [Int.toNat_natCast]
  rcases fit_isC fw with ⟨q, z, e1, rfl⟩ | ⟨t, e1, q, rfl, q2, vs, q3, q4⟩
  · rw [q] at k
    rw [rX] at f4
    exact ⟨by omega, by omega, fun z => absurd f4.1 z, fun _ => c_stuck h (fun T' hT => ⟨rfl, k T' hT⟩)⟩
  · rw [q] at k
    dsimp only at k
    rw [rX] at f4
    obtain ⟨f5, f6, f7⟩ := f4
    obtain ⟨a1, a2, a3⟩ := lbN_ok q2
    have el := m7 _ a1 a2
    rw [a3] at el
    have q1 := (g4 _ a1).1.2.1 (by rcases a2 with z | z; exact Or.inr (Or.inl z); exact Or.inr (Or.inr (Or.inl z)))
    have q3' := (g4 _ a1).1.2.2.2.1 (by rcases a2 with z | z <;> omega)
    have ix := rX.ix q4 f7
    rw [f6, t_i32 ⟨t, by omega⟩, Int.toNat_natCast, el, show (vI T 0 3).toNat = a by omega, Int.toNat_natCast, m4 _ 0 a1 (by omega), m4 _ 2 a1 (by omega), sh2 ⟨t, by omega⟩, Int.toNat_natCast]
    obtain ⟨x, hx⟩ : ∃ x : Nat, c (lbN c n t) 1 = (x : Int) := ⟨(c (lbN c n t) 1).toNat, by omega⟩
    obtain ⟨m, hm⟩ : ∃ x : Nat, c (lbN c n t) 3 = (x : Int) := ⟨(c (lbN c n t) 3).toNat, by omega⟩
    unfold cBd at k
    rw [hx, hm, Int.toNat_natCast, Int.toNat_natCast] at k
    -- the used bit
    generalize hT1 : gJ T 12 l ((T.2.1 12 l) ||| lJ (2 ^ t)) = T1
    have i1 : T1.1 = T.1 := by rw [← hT1]; rfl
    have v1 : ∀ {k i}, vI T1 k i = vI T k i := by intro k i; unfold vI; rw [i1]
    have j1 : ∀ {k i}, k ≠ 12 → T1.2.1 k i = T.2.1 k i := fun z => by rw [← hT1, gJ_J, if_neg (fun q => z q.1)]
    have c1 : chS T N T1 N := ⟨Nat.le_refl _, fun q _ => ⟨v1, v1, j1 (by decide), v1, v1⟩⟩
    have b1 : rB T0 T1 c n N K nb st (uSet us l t) := by
      obtain ⟨h1, h2, h3, h4, h5, h6, h7, h8, h9⟩ := h.pop
      refine ⟨by rw [← hT1]; exact h1.gJ (Or.inr (Or.inl rfl)), v1.trans h2, h3, h4.of c1 (fun i hi => ⟨v1, v1, v1, v1, j1 (by decide), v1⟩), v1.trans h5, fun l2 hl2 => ?_, v1.trans h7, v1.trans h8, (j1 (by decide)).trans h9⟩
      rw [← hT1, gJ_J]
      unfold uSet
      by_cases z : l2 = l
      · rw [if_pos ⟨rfl, z⟩, if_pos z, h6 l (by omega)]
      · rw [if_neg (fun y => z y.2), if_neg z]; exact h6 l2 hl2
    refine ⟨by omega, by omega, fun _ => ⟨by omega, by omega, by omega, by omega, by omega, by omega, fun k3 => ?_, fun k3 => ⟨by omega, ?_⟩⟩, fun z => by omega⟩
    · rw [if_neg k3] at k
      refine call_112 (x := x) (m := m) (env := eC x v e1) hp b1 (v1.trans h36) hK (by omega) (by omega) a1 hx (by omega) hm (by omega) (rX.of c1 v _ _ _ hv) ⟨vI_lo _ _ _, vI_hi _ _ _⟩ ⟨vI_lo _ _ _, vI_hi _ _ _⟩ ⟨vI_lo _ _ _, vI_hi _ _ _⟩ (fun T' hc h22 hX h26 => ?_) k
      unfold eC
      rw [rX]
      refine ⟨N, rfl, by omega, h22, hX, ?_⟩
      rw [h26]
      refine rX.of ⟨hc.1, fun q hq => ?_⟩ e1 0 0 _ f7
      obtain ⟨d1, d2, d3, d4, d5⟩ := hc.2 q hq
      exact ⟨d1.trans v1, d2.trans v1, d3.trans (j1 (by decide)), d4.trans v1, d5.trans v1⟩
    · rw [if_pos k3] at k
      have q2' := (g4 _ a1).1.2.2.1 k3
      obtain ⟨y, hy⟩ : ∃ x : Nat, c (lbN c n t) 2 = (x : Int) := ⟨(c (lbN c n t) 2).toNat, by omega⟩
      rw [hy]
      generalize hT2 : gI (gJ (gI T1 0 43 (zI 1)) 0 44 ((zI (t : Int)).toInt64)) 0 45 (zI (vI T 21 K.length)) = T2
      have f2' : fG (fun k i => k = 0 ∧ (i = 43 ∨ i = 45)) (fun k i => k = 0 ∧ i = 44) T1 T2 := by rw [← hT2]; exact ((fG.refl.gI ⟨rfl, by omega⟩).gJ ⟨rfl, rfl⟩).gI ⟨rfl, by omega⟩
      have b2 : rB T0 T2 c n N K nb st (uSet us l t) := b1.of f2' (fun k i z => by unfold Wr; omega) (fun k i z => by unfold Vr; omega)
      have e43 : vI T2 0 43 = 1 := by rw [← hT2, v_o (by omega), vI_gJ, v_s (by omega)]
      have e44 : T2.2.1 0 44 = (zI (t : Int)).toInt64 := by rw [← hT2, gI_J, gJ_J, if_pos ⟨rfl, rfl⟩]
      have e45 : vI T2 0 45 = vI T 21 K.length := by rw [← hT2, v_s ⟨vI_lo _ _ _, vI_hi _ _ _⟩]
      have qq2 : ∀ {k i}, ¬ (k = 0 ∧ (i = 43 ∨ i = 45)) → vI T2 k i = vI T1 k i := fun z => f2'.v z
      have jj2 : ∀ {k i}, ¬ (k = 0 ∧ i = 44) → T2.2.1 k i = T1.2.1 k i := fun z => f2'.2.1 _ _ z
      refine c_chain (d := d + 1) (N := N) b2.2.1 (by omega) (show y < 1000 by omega) ⟨vI_lo _ _ _, vI_hi _ _ _⟩ (fun T3 f3' c3 h42 h22 h23 h24 h25 h26 => ?_)
      have q3 : ∀ {k i}, ¬ ((i = N ∧ 22 ≤ k) ∨ (k = 0 ∧ i = 42)) → vI T3 k i = vI T2 k i := fun z => f3'.v z
      have b3 : rB T0 T3 c n (N + 1) K (nb + 1) st (uSet us l t) := b2.chain f3' c3 h42 (by omega)
      have c03 : chS T N T3 (N + 1) := ⟨c3.1, fun q hq => by
        obtain ⟨d1, d2, d3, d4, d5⟩ := c3.2 q hq
        exact ⟨d1.trans ((qq2 (by omega)).trans v1), d2.trans ((qq2 (by omega)).trans v1), d3.trans ((jj2 (by omega)).trans (j1 (by decide))), d4.trans ((qq2 (by omega)).trans v1), d5.trans ((qq2 (by omega)).trans v1)⟩⟩
      refine call_112 (N := N + 1) (x := x) (m := m) (env := eF x t v e1) hp b3 (by rw [q3 (by omega), qq2 (by omega), v1]; exact h36) hK (by omega) (by omega) a1 hx (by omega) hm (by omega) (rX.of c03 v _ _ _ hv) ⟨vI_lo _ _ _, vI_hi _ _ _⟩ ⟨vI_lo _ _ _, vI_hi _ _ _⟩ (by unfold okI; omega) (fun T' hc g22 hX g26 => ?_) k
      unfold eF
      rw [rX]
      obtain ⟨d1, d2, d3, d4, d5⟩ := hc.2 N (by omega)
      refine ⟨N + 1, N, rfl, by omega, g22, hX, g26, by omega, by rw [d1, h22, hy], by rw [d2, h23, e43], by rw [d3, h24, e44], by rw [d4, d5, h25, h26, e45], ?_⟩
      rw [d5, h26]
      refine rX.of ⟨by omega, fun q hq => ?_⟩ e1 0 0 _ f7
      obtain ⟨d1, d2, d3, d4, d5⟩ := hc.2 q (by omega)
      obtain ⟨g1, g2, g3, g4, g5⟩ := c03.2 q hq
      exact ⟨d1.trans g1, d2.trans g2, d3.trans g3, d4.trans g4, d5.trans g5⟩
theorem c_goOn (hp : rPa T0 a c n nv nf) {l most : Nat} {e v : eT} {h : Option eT} (hR : rCf T0 T c n (none, (l, e, h) :: K, v, nb, st, us)) (hI : iCf c n most (none, (l, e, h) :: K, v, nb, st, us)) (hK : K.length < 2098) (hnb : nb ≤ 2000) (k : ∀ T', rSt T0 T' c n (hd1 c n l e h K v nb st us) → φ T') : gC (tP sa) lM b E (d + 4) mX7_goOn [.ref (b + 0)] T (fun r T' => pV r (φ T')) := by
  obtain ⟨N, hB, h36, hv⟩ := rCf_iff.mp hR
  obtain ⟨⟨⟨k4, vs, w1, w2⟩, hh, hKf⟩, i2, i3, i4, _⟩ := hI
  have fv := i4 rfl
  dsimp only at fv
  rw [List.length_cons] at h36
  obtain ⟨f1, f2, f3⟩ := hB.2.2.2.1.1
  dsimp only at f1 f2 f3
  have hp1 := rP_of hp hB.1
  obtain ⟨m1, m2, m3, m4, m5, m6, m7, _⟩ := hp1.2.1
  have hn := hp1.1.1
  have hnv := hp1.1.2.1
  have hl := w1.lt
  have q1 := ((hp1.1.flat).2.2.2 l hl).1.2.1
  have hN := hB.2.2.1
  have ix := rX.ix w2 f2
  obtain ⟨p1, m, p2, p3, p4, p5, p6, p7⟩ := w1.parts.2.2.2 k4
  have e1 : vI T 0 36 - 1 = (K.length : Int) := by clear p5 p6 p7 hh; omega
  have ea : (vI T 0 3).toNat = a := by clear p5 p6 p7 hh; omega
  have o3 : vI T 0 3 = 0 ∨ vI T 0 3 = 1 := by clear p5 p6 p7 hh; omega
  have oK : 0 ≤ (K.length : Int) ∧ (K.length : Int) < 2100 := by clear p5 p6 p7 hh; omega
  have ol : 0 ≤ (l : Int) ∧ (l : Int) < 200 := by clear p5 p6 p7 hh; omega
  have okl : okI (c l 0) := by clear p5 p6 p7 hh; unfold okI; omega
  refine w_X7_goOn (d := d + 2) ?_
  unfold f_X7_goOn
  rw [e1, Int.toNat_natCast, f1, Int.toNat_natCast, ea, m4 l 0 hl (by decide), m4 l 1 hl (by decide), m4 l 4 hl (by decide), m4 l 5 hl (by decide)]
  have pop36 : rB T0 (gI T 0 36 (zI (K.length : Int))) c n N K nb st us := hB.pop.of (W := fun k i => k = 0 ∧ i = 36) (V := fun _ _ => False) (fG.refl.gI ⟨rfl, rfl⟩) (fun k i z => by unfold Wr; omega) (fun k i z => z.elim)
  have c36 : chS T N (gI T 0 36 (zI (K.length : Int))) N := by
    refine ⟨Nat.le_refl _, fun q _ => ⟨?_, ?_, rfl, ?_, ?_⟩⟩ <;> rw [v_o (fun z => by cases z.1)]
  unfold hd1 at k
  refine ⟨oK.1, oK.2, o3, ol, fun z4 => ⟨fun z5 => ⟨fun zs => ⟨fun z11 => ?_, fun z11 => ?_⟩, fun zs => ?_⟩, fun z5 => ⟨ol, ?_⟩⟩, fun z4 => ⟨fun zk => ⟨fun z0 => ⟨ol, ?_⟩, fun z0 => ⟨ol, ?_⟩⟩, fun zk => ?_⟩⟩
  · cases h with
    | none => exact absurd f3 zs
    | some w =>
      refine c_reckon (d := d + 2) hB (by rw [h36]; rfl) hK hv fv (hh w rfl).2 ⟨z4, z5, z11⟩ okl (fun T' hT => ⟨rfl, k T' ?_⟩)
      unfold hd1 at hT; exact hT
  · cases h with
    | none => exact absurd f3 zs
    | some w =>
      refine c_call (d := d + 1) hp hB (by rw [h36]; rfl) hK hnb hv fv (hh w rfl).2 hl z11 (fun T' hT => ⟨rfl, k T' ?_⟩)
      unfold hd1 at hT; exact hT
  · cases h with
    | some w => rw [f3.1] at zs; exact absurd zs (by decide)
    | none =>
      rw [if_neg z4, if_neg z5] at k
      dsimp only at k
      rw [p4, Int.toNat_natCast] at k
      rw [p4]
      have k6 : 6 ≤ c l 0 := by clear p5 p6 p7 hh; omega
      refine ⟨ol, ?_⟩
      generalize hT1 : gI (gI (gJ (gI T 19 K.length (zI (vI T 0 43))) 20 K.length (T.2.1 0 44)) 21 K.length (zI (vI T 0 45))) 18 K.length (zI 2) = T1
      have g43 := And.intro (vI_lo T 0 43) (vI_hi T 0 43)
      have g45 := And.intro (vI_lo T 0 45) (vI_hi T 0 45)
      have f1' : fG (fun k i => i = K.length ∧ (k = 19 ∨ k = 21 ∨ k = 18)) (fun k i => k = 20 ∧ i = K.length) T T1 := by rw [← hT1]; exact (((fG.refl.gI ⟨rfl, by omega⟩).gJ ⟨rfl, rfl⟩).gI ⟨rfl, by omega⟩).gI ⟨rfl, by omega⟩
      have b1 : rB T0 T1 c n N K nb st us := hB.pop.of f1' (fun k i z => by unfold Wr; omega) (fun k i z => by unfold Vr; omega)
      have qq : ∀ {k i}, ¬ (i = K.length ∧ (k = 19 ∨ k = 21 ∨ k = 18)) → vI T1 k i = vI T k i := fun z => f1'.v z
      have jj : ∀ {k i}, ¬ (k = 20 ∧ i = K.length) → T1.2.1 k i = T.2.1 k i := fun z => f1'.2.1 _ _ z
      have c1 : chS T N T1 N := ⟨Nat.le_refl _, fun q _ => ⟨qq (by omega), qq (by omega), jj (by omega), qq (by omega), qq (by omega)⟩⟩
      have fr1 : rFr T1 c n N K.length (l, e, some v) := by
        refine ⟨by rw [qq (by omega)]; exact f1, by rw [qq (by omega)]; exact rX.of c1 e 0 0 _ f2, ?_, ?_⟩
        · rw [← hT1]; exact v_s (by decide)
        · have e19 : vI T1 19 K.length = vI T 0 43 := by rw [← hT1]; rw [v_o (by omega), v_o (by omega), vI_gJ, v_s g43]
          have e20 : T1.2.1 20 K.length = T.2.1 0 44 := by rw [← hT1, gI_J, gI_J, gJ_J, if_pos ⟨rfl, rfl⟩]
          have e21 : vI T1 21 K.length = vI T 0 45 := by rw [← hT1]; rw [v_o (by omega), v_s g45]
          show rX T1 c n N v _ _ _
          rw [e19, e20, e21]
          exact rX.of c1 v _ _ _ hv
      obtain ⟨b11, b12, b13, b14, b15⟩ := b1
      have b2 : rB T0 T1 c n N ((l, e, some v) :: K) nb st us := ⟨b11, b12, b13, ⟨fr1, b14⟩, b15⟩
      have lm := (p7 k6).lt
      refine c_push (d := d + 3) (v := v) b2 ?_ (by rw [List.length_cons]; clear p5 p6 p7 hh; omega) (rX.of c1 e 0 0 _ f2) ⟨vI_lo _ _ _, vI_hi _ _ _⟩ (by clear p5 p6 p7 hh; omega) (fun T' hT => ⟨rfl, k T' hT⟩)
      rw [qq (by omega), h36, List.length_cons]
  · rw [if_neg z4, if_pos z5] at k
    obtain ⟨x, x1, x2⟩ := p6 z5
    have lm := x2.lt
    have q1' := q1 (Or.inr (Or.inr (Or.inr z5)))
    clear p5 p6 p7 hh
    rw [p4, x1, Int.toNat_natCast, Int.toNat_natCast] at k
    rw [x1]
    refine c_chain (d := d + 3) (N := N) hB.2.1 (by omega) (show x < 1000 by omega) ⟨vI_lo _ _ _, vI_hi _ _ _⟩ (fun T3 f3' c3 h42 h22 h23 h24 h25 h26 => ?_)
    have q3 : ∀ {k i}, ¬ ((i = N ∧ 22 ≤ k) ∨ (k = 0 ∧ i = 42)) → vI T3 k i = vI T k i := fun z => f3'.v z
    have b3 : rB T0 T3 c n (N + 1) K (nb + 1) st us := hB.pop.chain f3' c3 h42 (by omega)
    obtain ⟨m1', m2', m3', m4', _⟩ := (rP_of hp b3.1).2.1
    rw [show (vI T3 0 3).toNat = a by omega, m4' l 4 hl (by decide), p4]
    have e36 : vI T3 0 36 = (K.length : Int) + 1 := by rw [q3 (by omega)]; exact h36
    have b4 : rB T0 (gI T3 0 36 (zI (vI T3 0 36 - 1))) c n (N + 1) K (nb + 1) st us := b3.of (W := fun k i => k = 0 ∧ i = 36) (V := fun _ _ => False) (fG.refl.gI ⟨rfl, rfl⟩) (fun k i z => by unfold Wr; omega) (fun k i z => z.elim)
    refine ⟨by omega, ol, c_push (d := d + 3) (v := v) b4 ?_ (by omega) ?_ (by unfold okI; omega) (by omega) (fun T' hT => ⟨rfl, k T' hT⟩)⟩
    · rw [v_s (by omega)]; omega
    · have hc : chS T3 (N + 1) (gI T3 0 36 (zI (vI T3 0 36 - 1))) (N + 1) := by
        refine ⟨Nat.le_refl _, fun q _ => ⟨?_, ?_, rfl, ?_, ?_⟩⟩ <;> rw [v_o (fun z => by cases z.1)]
      refine rX.of hc _ 0 0 _ ?_
      unfold eC
      rw [rX]
      refine ⟨N, rfl, by omega, h22, ?_, ?_⟩
      · rw [h23, h24, h25]; exact rX.of c3 v _ _ _ hv
      · rw [h26]; exact rX.of c3 e 0 0 _ f2
  · rw [if_pos z4] at k
    obtain ⟨y1, m2, y2, y3⟩ := p5 z4
    have lm := y3.lt
    clear p5 p6 p7 hh
    rcases fit_isC fv with ⟨q, z, e9, rfl⟩ | ⟨t, e9, q, rfl, q2⟩
    · rw [q] at k
      rw [rX] at hv
      dsimp only at k
      have nz : nmV (.nest z e9) = 0 := by rw [← z0, hv.2]; rfl
      rw [if_pos nz, y2, Int.toNat_natCast] at k
      rw [y2]
      exact c_push (d := d + 3) (v := .nest z e9) pop36 (v_s (by omega)) (by omega) (rX.of c36 e 0 0 _ f2) ⟨vI_lo _ _ _, vI_hi _ _ _⟩ (by omega) (fun T' hT => ⟨rfl, k T' hT⟩)
    · rw [rX] at hv; exact absurd hv.1 zk
  · rw [if_pos z4] at k
    obtain ⟨y1, m2, y2, y3⟩ := p5 z4
    have lm := y1.lt
    clear p5 p6 p7 hh
    rcases fit_isC fv with ⟨q, z, e9, rfl⟩ | ⟨t, e9, q, rfl, q2⟩
    · rw [q] at k
      rw [rX] at hv
      dsimp only at k
      have nz : ¬ nmV (.nest z e9) = 0 := by intro y; apply z0; rw [hv.2]; exact y
      rw [if_neg nz, p4, Int.toNat_natCast] at k
      rw [p4]
      exact c_push (d := d + 3) (v := .nest z e9) pop36 (v_s (by omega)) (by omega) (rX.of c36 e 0 0 _ f2) ⟨vI_lo _ _ _, vI_hi _ _ _⟩ (by omega) (fun T' hT => ⟨rfl, k T' hT⟩)
    · rw [rX] at hv; exact absurd hv.1 zk
  · rw [if_pos z4] at k
    rcases fit_isC fv with ⟨q, z, e9, rfl⟩ | ⟨t, e9, q, rfl, q2⟩
    · rw [rX] at hv; rw [hv.1] at zk; exact absurd zk (by decide)
    · rw [q] at k
      exact c_stuck hB (fun T' hT => ⟨rfl, k T' hT⟩)
end RH
