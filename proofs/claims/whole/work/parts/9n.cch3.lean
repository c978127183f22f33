section CH3
variable {sa : Nat → Nat} {b : Nat} {E : Nat × mH} {d : Nat} {T : gT} {A : aSt} {q : Nat} {c : Nat → Nat → Int} {n nv nf : Nat}
theorem aInl_yes {x : aPg} {rn : aRn} {L g : Nat} (hL : L < x.2.1) (hk : x.1 L 0 = 11) (hd : inP x.1 x.2.1 x.2.2.2 L) (hg : lbN x.1 x.2.1 (onF x.1 x.2.1 x.2.2.2 L).toNat = g) (r1 : (iP x L g).2.1 ≤ 200) (r2 : (iP x L g).2.2.1 ≤ 100) (r3 : (iP x L g).2.2.2 ≤ 50) : aInl (some x) rn (L : Int) = (((iP x L g).2.1 : Int), some (iP x L g), rn0) := by
  subst hg
  unfold aInl
  dsimp only
  rw [Int.toNat_natCast, if_pos ⟨by omega, hk⟩, if_pos ⟨hd, r1, r2, r3⟩]
theorem aInl_no {x : aPg} {rn : aRn} {L g : Nat} (hL : L < x.2.1) (hk : x.1 L 0 = 11) (hg : lbN x.1 x.2.1 (onF x.1 x.2.1 x.2.2.2 L).toNat = g) (hd : ¬ (inP x.1 x.2.1 x.2.2.2 L ∧ (iP x L g).2.1 ≤ 200 ∧ (iP x L g).2.2.1 ≤ 100 ∧ (iP x L g).2.2.2 ≤ 50)) : aInl (some x) rn (L : Int) = (-1, some x, rn) := by
  subst hg
  unfold aInl
  dsimp only
  rw [Int.toNat_natCast, if_pos ⟨by omega, hk⟩, if_neg hd]
/-- the copying of inline -/
theorem inl_cp {L g m : Nat} {u : Nat → Nat} {q2 : Nat} {φ : gT → Prop} (hE : mSta sa b E) (hc : cPq T q c n nv nf) (hp : pA T q u m) (hqq : q2 + q = 23) (hL : L < n) (hk : c L 0 = 11) (hg : g < n) (hg2 : c g 0 = 2) (hfr : frc c g = 0) (r1 : n + iE c L g - en c L ≤ 200) (r2 : nv + iV c L g - vcn c (en c L) ≤ 100) (r3 : nf + iF c L g - fcn c (en c L) ≤ 50) {r24 r40 r50 : Nat} {v32 : Int} {T32 : gT} (x24 : aI T32 (r24 + 7) 50 v32 = (g : Int)) (x40 : aP T32 r40 (g : Int) 0 = ((g + 1 : Nat) : Int)) (x50 : aP T32 r50 (L : Int) 1 = ((c L 4).toNat : Int))
    (k : ∀ T', T'.2.2 = T.2.2 → cAq T' q2 (u, m, some (iP (c, n, nv, nf) L g), rn0) → φ T') :
    (∃ r76 : Nat, (r76 = 2 ∨ r76 = 21) ∧ vI T 0 3 = (r76 : Int) ∧ (∃ r84 : Nat, (r84 = 2 ∨ r84 = 21) ∧ vI (gI T r76 0 (zI 0)) 0 3 = (r84 : Int) ∧ (∃ r88 : Nat, (r88 = 2 ∨ r88 = 21) ∧ vI (gI T r76 0 (zI 0)) 0 2 = (r88 : Int) ∧ gC (tP sa) lD b E (d + 6) mX3_addCopies [.ref (b + r84), .ref (b + r88), .int (zI 0), .int (zI (L : Int)), .int (zI 0)] (gI T r76 0 (zI 0)) (fun r T94 => pV r ((∃ r98 : Nat, (r98 = 2 ∨ r98 = 21) ∧ vI T94 0 3 = (r98 : Int) ∧ (∃ r103 : Nat, (r103 = 2 ∨ r103 = 21) ∧ vI T94 0 2 = (r103 : Int) ∧ gC (tP sa) lD b E (d + 6) mX3_add [.ref (b + r98), .int (zI 5), .int (zI ((aI T94 (r103 + 2) 200 (aI T32 (r24 + 7) 50 v32)) + 100)), .int (zI (-1))] T94 (fun r T117 => pI r (fun v117 => (∃ r122 : Nat, (r122 = 2 ∨ r122 = 21) ∧ vI T117 0 3 = (r122 : Int) ∧ (∃ r126 : Nat, (r126 = 2 ∨ r126 = 21) ∧ vI T117 0 2 = (r126 : Int) ∧ (∃ r132 : Nat, (r132 = 2 ∨ r132 = 21) ∧ vI T117 0 2 = (r132 : Int) ∧ gC (tP sa) lD b E (d + 6) mX3_addCopies [.ref (b + r122), .ref (b + r126), .int (zI (aP T32 r50 (L : Int) 1)), .int (zI (aI T117 (r132 + 17) 200 (aP T32 r50 (L : Int) 1))), .int (zI 0)] T117 (fun r T141 => pV r ((∃ r145 : Nat, (r145 = 2 ∨ r145 = 21) ∧ vI T141 0 3 = (r145 : Int) ∧ (∃ r149 : Nat, (r149 = 2 ∨ r149 = 21) ∧ vI T141 0 2 = (r149 : Int) ∧ (∃ r154 : Nat, (r154 = 2 ∨ r154 = 21) ∧ vI T141 0 2 = (r154 : Int) ∧ gC (tP sa) lD b E (d + 6) mX3_addCopies [.ref (b + r145), .ref (b + r149), .int (zI (aP T32 r40 (aI T32 (r24 + 7) 50 v32) 0)), .int (zI (aI T141 (r154 + 17) 200 (aP T32 r40 (aI T32 (r24 + 7) 50 v32) 0))), .int (zI 100)] T141 (fun r T163 => pV r ((∃ r167 : Nat, (r167 = 2 ∨ r167 = 21) ∧ vI T163 0 3 = (r167 : Int) ∧ (∃ r171 : Nat, (r171 = 2 ∨ r171 = 21) ∧ vI T163 0 2 = (r171 : Int) ∧ (∃ r175 : Nat, (r175 = 2 ∨ r175 = 21) ∧ vI T163 0 2 = (r175 : Int) ∧ (∃ r183 : Nat, (r183 = 2 ∨ r183 = 21) ∧ vI T163 0 2 = (r183 : Int) ∧ gC (tP sa) lD b E (d + 6) mX3_addCopies [.ref (b + r167), .ref (b + r171), .int (zI (aI T163 (r175 + 17) 200 (L : Int))), .int (zI (vI T163 r183 0)), .int (zI 0)] T163 (fun r T190 => pV r (gC (tP sa) lD b E (d + 6) mX6_takeSpare [.ref (b + 0)] T190 (fun r T194 => pV r (φ T194))))))))))))))))))))))))))) := by
  have hw := hc.1
  have hn := hw.1
  have hnv := hw.2.1
  have hq := hc.2.1
  have hq2 : q2 = 2 ∨ q2 = 21 := by omega
  obtain ⟨t1, t2, t3, t4, t5, t6, t7, t8, t9, t10, t11, t12, t13, t14, t15⟩ := inl_tk hw hL hk hg hg2 hfr r2
  have hw' := iP_wP hw hL hk hg hg2 hfr r1 r2 r3
  have hK : iK c L = L + 1 + (en c L - (c L 4).toNat) := rfl
  have hE' : iE c L g = iK c L + (en c g - (g + 1)) := rfl
  have e3 := hp.2.2.2
  have e2 := hp.2.2.1
  rw [x24, x40, x50]
  have f0 : fG (Wa q2 0) V0 T (gI T q2 0 (zI 0)) := fG.refl.gI (Or.inl ⟨rfl, rfl⟩)
  have hc0 := Wa.p hqq hc f0
  have hp0 := Wa.a hq2 hp f0
  have y3 := hp0.2.2.2
  have y2 := hp0.2.2.1
  refine ⟨q2, hq2, by omega, q2, hq2, by omega, q, hq, y2, ?_⟩
  refine d_addC (d := d + 4) (fr := 0) (to := L) (x := 0) (sh := 0) hc0 hqq (Or.inl rfl) (by omega) (by omega) (v_s (by omega)) (by omega) (fun T1 f1 g1 c1 => ?_)
  have hc1 := Wa.p hqq hc0 f1
  have hp1 := Wa.a hq2 hp0 f1
  have u1 : tkU T1 q2 (iC c L g) (iO c L g) (0 + (L - 0)) := tkU.add (T := gI T q2 0 (zI 0)) (fun k hk => by omega) f1 c1 (fun i hi => by rw [Nat.zero_add]; exact t11 i (by omega))
  rw [show 0 + (L - 0) = L by omega] at u1 g1
  clear y3 y2
  have y3 := hp1.2.2.2
  have y2 := hp1.2.2.1
  have cg1 := (own hw hg).1 hg2
  have vgn := vcn_mono (c := c) (show g ≤ n by omega)
  have hvn := vcn_nv hw
  have ev : aI T1 (q + 2) 200 (g : Int) = c g 1 := by rw [aI_n (by omega), (hc1.2.2.2.2.2.1 g hg).2.1]
  refine ⟨q2, hq2, by omega, q, hq, y2, ?_⟩
  rw [ev]
  refine d_add hq2 (by unfold okI; omega) (by unfold okI; omega) (by unfold okI; omega) g1 (by omega) (fun T2 f2' g2 a1 a2 a3 => ?_)
  have f2 : fG (Wa q2 L) V0 T1 T2 := f2'.mono (fun k j z => by unfold Wa; omega) (fun _ _ z => z)
  have hc2 := Wa.p hqq hc1 f2
  have hp2 := Wa.a hq2 hp1 f2
  have u2 : tkU T2 q2 (iC c L g) (iO c L g) (L + 1) := fun k hk => by
    by_cases z : k = L
    · rw [z, t12.1, t12.2.1, t12.2.2]; exact ⟨a1, a2, a3⟩
    · obtain ⟨b1, b2, b3⟩ := u1 k (by omega)
      exact ⟨(f2.v (by unfold Wa; omega)).trans b1, (f2.v (by unfold Wa; omega)).trans b2, (f2.v (by unfold Wa; omega)).trans b3⟩
  clear y3 y2
  have y3 := hp2.2.2.2
  have y2 := hp2.2.2.1
  have ee : ∀ {T1 : gT} {l : Nat}, l < n → cPq T1 q c n nv nf → aI T1 (q + 17) 200 (l : Int) = (en c l : Int) := fun hl hc1 => by rw [aI_n (by omega), (hc1.2.2.2.2.2.1 _ hl).2.2.2.2.2.2.2.2.2]
  refine ⟨q2, hq2, by omega, q, hq, y2, q, hq, y2, ?_⟩
  rw [ee (by omega) hc2, t5]
  refine d_addC (d := d + 4) (fr := (c L 4).toNat) (to := en c L) (x := L + 1) (sh := 0) hc2 hqq (Or.inl rfl) (by omega) (by omega) (by rw [g2]; omega) (by omega) (fun T3 f3 g3 c3 => ?_)
  have hc3 := Wa.p hqq hc2 f3
  have hp3 := Wa.a hq2 hp2 f3
  have u3 := tkU.add u2 f3 c3 t13
  rw [← hK] at u3 g3
  clear y3 y2
  have y3 := hp3.2.2.2
  have y2 := hp3.2.2.1
  refine ⟨q2, hq2, by omega, q, hq, y2, q, hq, y2, ?_⟩
  rw [ee (by omega) hc3, t8]
  refine d_addC (d := d + 4) (fr := g + 1) (to := en c g) (x := iK c L) (sh := 100) hc3 hqq (Or.inr rfl) (by omega) (by omega) g3 (by omega) (fun T4 f4 g4 c4 => ?_)
  have hc4 := Wa.p hqq hc3 f4
  have hp4 := Wa.a hq2 hp3 f4
  have u4 := tkU.add u3 f4 c4 t14
  rw [← hE'] at u4 g4
  clear y3 y2
  have y3 := hp4.2.2.2
  have y2 := hp4.2.2.1
  refine ⟨q2, hq2, by omega, q, hq, y2, q, hq, y2, q, hq, y2, ?_⟩
  rw [ee hL hc4, hc4.2.2.1]
  refine d_addC (d := d + 4) (fr := en c L) (to := n) (x := iE c L g) (sh := 0) hc4 hqq (Or.inl rfl) (by omega) (by omega) g4 (by omega) (fun T5 f5 g5 c5 => ?_)
  have hp5 := Wa.a hq2 hp4 f5
  have u5 := tkU.add u4 f5 c5 t15
  have en' : iE c L g + (n - en c L) = n + iE c L g - en c L := by omega
  rw [en'] at u5 g5
  refine s_take (d := d + 1) hE hw' t10 hp5 hqq g5 u5 (fun T6 j6 hA6 => k T6 ?_ hA6)
  rw [j6, f5.2.2, f4.2.2, f3.2.2, f2.2.2, f1.2.2, f0.2.2]
theorem s_inline {l : Int} (hl : okI l) (hE : mSta sa b E) (h : cA T A) : gC (tP sa) lD b E (d + 7) mX6_inline [.ref (b + 0), .int (zI l)] T (sI T (aInl A.2.2.1 A.2.2.2 l).1 (A.1, A.2.1, (aInl A.2.2.1 A.2.2.2 l).2)) := by
  obtain ⟨q, h1, h2, h3, h4, h5, h6⟩ := id h
  obtain ⟨u, m, po, rn⟩ := A
  dsimp only at h1 h5 h6 ⊢
  refine w_X6_inline (d := d + 5) ?_
  unfold f_X6_inline
  refine s_isOfKind (d := d + 5) hl (by unfold okI; omega) h2 h3 h5 (fun x hx l0 l1 hk => ⟨by omega, fun _ => ?_, fun z => by omega⟩) (fun y => ⟨by omega, fun z => absurd rfl z, fun _ => ?_⟩)
  · subst hx
    obtain ⟨c, n, nv, nf⟩ := x
    obtain ⟨L, rfl⟩ : ∃ m : Nat, l = (m : Int) := ⟨l.toNat, by omega⟩
    dsimp only at l1 hk
    rw [Int.toNat_natCast] at hk
    have hLn : L < n := by omega
    generalize hans : aInl (some (c, n, nv, nf)) rn (L : Int) = ans
    refine s_canI (d := d + 3) (x := (c, n, nv, nf)) h2 h3 h5 hLn hk (fun hd => ⟨by omega, fun _ => ?_, fun z => by omega⟩) (fun hd => ⟨by omega, fun z => absurd rfl z, fun _ => ?_⟩)
    · dsimp only at hd
      have hc : cPq T q c n nv nf := h5.1
      have hw := hc.1
      have hn := hw.1
      have hnf := hw.2.2.1
      obtain ⟨t, e1, e2⟩ := onF_r (c := c) (n := n) (nf := nf) (l := L) hd.1
      have hdd := hd
      obtain ⟨_, hd2, hd3, _, _⟩ := hd
      generalize hg0 : lbN c n (onF c n nf L).toNat = g at hd2 hd3
      have hg := hg0
      rw [e1, Int.toNat_natCast] at hg
      obtain ⟨a1, a2, a3⟩ := lbN_ok (c := c) (n := n) (t := t) (by rw [hw.flat.2.1]; exact e2)
      rw [hg] at a1 a2 a3
      refine ⟨q, h2, h3, ?_⟩
      refine s_only (d := d + 4) (x := (c, n, nv, nf)) h2 h3 h5 hLn hk ?_
      dsimp only
      rw [e1]
      have x24 : aI T (q + 7) 50 (t : Int) = (g : Int) := by rw [aI_n (by omega), (hc.2.2.2.2.2.2.1 t e2).1, hg]
      obtain ⟨f, vs, w1, w2, w3, n1, n2, n3, n4, n5, n6, n7, n8, n9⟩ := nums hw hLn (Or.inr hk)
      clear w1 w3 n8 n9
      have pg := kid hw a1
      have g3 : c g 3 = ((g + 1 : Nat) : Int) ∧ en c (g + 1) = en c g ∧ g + 1 < n := by
        rcases pg.2.2.2 with hgk | hgk | hgk | hgk
        · omega
        · exact ⟨hgk.2.1.1, hgk.2.2.2.2, hgk.2.1.2.2.1⟩
        · have := hgk.1; omega
        · have := hgk.1; omega
      have pg1 := pg.2.1
      have pg2 := pg.2.2.1
      clear pg
      have pg3 := (kid hw g3.2.2).2.1
      have x50 : aP T q (L : Int) 1 = ((c L 4).toNat : Int) := by rw [(cP_pt hc hLn).2.1]; exact n3
      have x40 : aP T q (g : Int) 0 = ((g + 1 : Nat) : Int) := by rw [(cP_pt hc a1).1]; exact g3.1
      refine ⟨by omega, q, h2, h3, q, h2, h3, by omega, ?_⟩
      rw [x24, x50, x40, show (L : Int) + 1 = ((L + 1 : Nat) : Int) by omega]
      have vL : vcn c (L + 1) = vcn c L := by rw [vcn, if_neg (by omega), if_neg (by omega)]; rfl
      have fL : fcn c (L + 1) = fcn c L := by rw [fcn, if_neg (by omega)]; rfl
      have hK : iK c L = L + 1 + (en c L - (c L 4).toNat) := rfl
      have hE' : iE c L g = iK c L + (en c g - (g + 1)) := rfl
      have hW : iW c L = vcn c L + 1 + (vcn c (en c L) - vcn c (c L 4).toNat) := rfl
      have hV' : iV c L g = iW c L + (vcn c (en c g) - vcn c (g + 1)) := rfl
      have hF' : iF c L g = fcn c L + (fcn c (en c L) - fcn c (c L 4).toNat) + (fcn c (en c g) - fcn c (g + 1)) := rfl
      have mE := vcn_mono (c := c) w2
      have mF := fcn_mono (c := c) w2
      have mg := vcn_mono (c := c) (show g + 1 ≤ en c g by omega)
      have mgf := fcn_mono (c := c) (show g + 1 ≤ en c g by omega)
      have hvn := vcn_nv hw
      have hfn := hw.flat.2.1
      refine d_hasRoom (d := d + 3) hc h3 (by omega) (by omega) g3.2.2 (fun r1 r3 r2 => ⟨by omega, fun _ => ?_, fun z => by omega⟩) (fun hno => ⟨by omega, fun z => absurd rfl z, fun _ => ?_⟩)
      · rw [g3.2.1] at r1 r2 r3
        rw [vL] at r2
        rw [fL] at r3
        have R1 : n + iE c L g - en c L ≤ 200 := by omega
        have R2 : nv + iV c L g - vcn c (en c L) ≤ 100 := by omega
        have R3 : nf + iF c L g - fcn c (en c L) ≤ 50 := by omega
        rw [aInl_yes (x := (c, n, nv, nf)) hLn hk hdd hg0 R1 R2 R3] at hans
        subst hans
        obtain ⟨q2, hqq⟩ : ∃ q2, q2 + q = 23 := ⟨23 - q, by omega⟩
        have hq2 : q2 = 2 ∨ q2 = 21 := by omega
        have := inl_cp (d := d) (u := u) (m := m) (L := L) (g := g) (q2 := q2) (r24 := q) (r40 := q) (r50 := q) (v32 := (t : Int)) (T32 := T) (φ := fun T194 => ∃ r198 : Nat, (r198 = 2 ∨ r198 = 21) ∧ vI T194 0 2 = (r198 : Int) ∧ sI T ((iP (c, n, nv, nf) L g).2.1 : Int) (u, m, some (iP (c, n, nv, nf) L g), rn0) (some (.int (zI (vI T194 r198 0)))) T194) hE hc ⟨h1, h2, h3, h4⟩ hqq hLn hk a1 hd2 hd3 R1 R2 R3 x24 x40 x50 (fun T6 j6 hA6 => ⟨q2, hq2, hA6.2.2.1, ?_⟩)
        · rw [x24, x40, x50] at this
          exact this
        · have n4 := hA6.2.2.2.2.1.1.2.2.1
          rw [n4]
          exact ⟨rfl, j6, q2, hA6⟩
      · rw [g3.2.1, vL, fL] at hno
        rw [aInl_no (x := (c, n, nv, nf)) hLn hk hg0] at hans
        · subst hans; exact ⟨rfl, rfl, h⟩
        · rintro ⟨_, R1, R2, R3⟩
          have R1' : n + iE c L g - en c L ≤ 200 := R1
          have R2' : nv + iV c L g - vcn c (en c L) ≤ 100 := R2
          have R3' : nf + iF c L g - fcn c (en c L) ≤ 50 := R3
          clear R1 R2 R3
          omega
    · dsimp only at hd
      rw [aInl_no (x := (c, n, nv, nf)) hLn hk rfl (fun z => hd z.1)] at hans
      subst hans
      exact ⟨rfl, rfl, h⟩
  · have : aInl po rn l = (-2, po, rn) := by
      unfold aInl
      rcases y with y | ⟨x, y, y2⟩
      · rw [y]
      · rw [y]; dsimp only; rw [if_neg y2]
    rw [this]
    exact ⟨rfl, rfl, h⟩
end CH3
