/-! THE CLASS: drop, inline -/
section CH2
variable {sa : Nat → Nat} {b : Nat} {E : Nat × mH} {d : Nat} {T : gT} {A : aSt} {q : Nat} {c : Nat → Nat → Int} {n nv nf : Nat}
theorem d_fnIn {fr to : Nat} {ψ : Int → gT → Prop} (hc : cPq T q c n nv nf) (hft : fr ≤ to) (hto : to ≤ n) (k : ψ ((fcn c to : Int) - fcn c fr) T) : gC (tP sa) lD b E (d + 1) mX3_functionsIn [.ref (b + q), .int (zI (fr : Int)), .int (zI (to : Int))] T (fun r T' => pI r (fun v => ψ v T')) := by
  have hn := hc.1.1
  have hq := hc.2.1
  have e0 := hc.2.2.1
  refine w_X3_functionsIn hq ?_
  unfold f_X3_functionsIn
  refine ⟨by omega, ?_⟩
  rw [if_neg (by omega)]
  have lp : ∀ (j i : Nat), j + i = to → fr ≤ i → gW (tP sa) lD b E (d + 1) mX3_functionsIn 9 [some (.ref (b + q)), some (.int (zI (fr : Int))), some (.int (zI (to : Int))), some (.int (zI ((fcn c i : Int) - fcn c fr))), some (.int (zI (i : Int)))] [] T (fun r T' => pI r (fun v => ψ v T')) := by
    intro j
    induction j with
    | zero =>
      intro i hj hi
      obtain rfl : i = to := by omega
      refine w_X3_functionsIn_9 hq ?_
      unfold f_X3_functionsIn_9
      exact ⟨by omega, by omega, fun _ => ⟨_, rfl, k⟩, fun z => by omega⟩
    | succ j ih =>
      intro i hj hi
      have := ih (i + 1) (by omega) (by omega)
      have el := (hc.2.2.2.2.2.1 i (by omega)).2.2.2.2.1
      refine w_X3_functionsIn_9 hq ?_
      unfold f_X3_functionsIn_9
      rw [Int.toNat_natCast, el, show (i : Int) + 1 = ((i + 1 : Nat) : Int) by omega]
      rw [fcn] at this
      unfold foN
      refine ⟨by omega, by omega, fun z => by omega, fun _ => ⟨fun z => by omega, fun _ => ⟨by omega, by omega, fun z => ?_, fun z => ?_⟩⟩⟩
      · by_cases y : isFn c i
        · rw [if_pos y] at this
          rw [show ((fcn c i + 1 : Nat) : Int) - fcn c fr = (fcn c i : Int) - fcn c fr + 1 by omega] at this
          exact this
        · rw [if_neg y] at z; exact absurd rfl z
      · by_cases y : isFn c i
        · rw [if_pos y] at z; omega
        · rw [if_neg y] at this
          rw [Int.add_zero]; exact this
  have := lp (to - fr) fr (by omega) (by omega)
  rw [show (fcn c fr : Int) - fcn c fr = 0 by omega] at this
  exact this
theorem d_vrIn {fr to : Nat} {ψ : Int → gT → Prop} (hc : cPq T q c n nv nf) (hft : fr ≤ to) (hto : to ≤ n) (k : ψ ((vcn c to : Int) - vcn c fr) T) : gC (tP sa) lD b E (d + 2) mX3_variablesIn [.ref (b + q), .int (zI (fr : Int)), .int (zI (to : Int))] T (fun r T' => pI r (fun v => ψ v T')) := by
  have hn := hc.1.1
  have hq := hc.2.1
  have e0 := hc.2.2.1
  refine w_X3_variablesIn (d := d + 1) hq ?_
  unfold f_X3_variablesIn
  refine ⟨by omega, ?_⟩
  rw [if_neg (by omega)]
  have lp : ∀ (j i : Nat), j + i = to → fr ≤ i → gW (tP sa) lD b E (d + 1 + 1) mX3_variablesIn 9 [some (.ref (b + q)), some (.int (zI (fr : Int))), some (.int (zI (to : Int))), some (.int (zI ((vcn c i : Int) - vcn c fr))), some (.int (zI (i : Int)))] [] T (fun r T' => pI r (fun v => ψ v T')) := by
    intro j
    induction j with
    | zero =>
      intro i hj hi
      obtain rfl : i = to := by omega
      refine w_X3_variablesIn_9 (d := d + 1) hq ?_
      unfold f_X3_variablesIn_9
      exact ⟨by omega, by omega, fun _ => ⟨_, rfl, k⟩, fun z => by omega⟩
    | succ j ih =>
      intro i hj hi
      have := ih (i + 1) (by omega) (by omega)
      refine w_X3_variablesIn_9 (d := d + 1) hq ?_
      unfold f_X3_variablesIn_9
      rw [show (i : Int) + 1 = ((i + 1 : Nat) : Int) by omega]
      rw [vcn] at this
      refine ⟨by omega, by omega, fun z => by omega, fun _ => ⟨fun z => by omega, fun _ => ?_⟩⟩
      refine d_varsOf (d := d) hc (by omega) ?_
      generalize (if c i 0 = 3 then 2 else if c i 0 = 2 ∨ c i 0 = 5 then 1 else 0 : Nat) = w at this ⊢
      rw [show ((vcn c i + w : Nat) : Int) - vcn c fr = (vcn c i : Int) - vcn c fr + (w : Int) by omega] at this
      exact this
  have := lp (to - fr) fr (by omega) (by omega)
  rw [show (vcn c fr : Int) - vcn c fr = 0 by omega] at this
  exact this
theorem d_hasRoom {L m g : Nat} {ψ : Int → gT → Prop} (hc : cPq T q c n nv nf) (h2 : vI T 0 2 = (q : Int)) (hL : L ≤ m) (hm : m ≤ n) (hg : g < n) (k1 : (n : Int) - (m - L) + (en c g - g) ≤ 200 → (nf : Int) - (fcn c m - fcn c L) + (fcn c (en c g) - fcn c g) ≤ 50 → (nv : Int) - (vcn c m - vcn c L) + (vcn c (en c g) - vcn c g) + 1 ≤ 100 → ψ 1 T) (k0 : ¬ ((n : Int) - (m - L) + (en c g - g) ≤ 200 ∧ (nf : Int) - (fcn c m - fcn c L) + (fcn c (en c g) - fcn c g) ≤ 50 ∧ (nv : Int) - (vcn c m - vcn c L) + (vcn c (en c g) - vcn c g) + 1 ≤ 100) → ψ 0 T) : gC (tP sa) lD b E (d + 3) mX6_hasRoom [.ref (b + 0), .int (zI (L : Int)), .int (zI (m : Int)), .int (zI (g : Int))] T (fun r T' => pI r (fun v => ψ v T')) := by
  have hw := hc.1
  have hn := hw.1
  have hnv := hw.2.1
  have hnf := hw.2.2.1
  have hq := hc.2.1
  have eg1 := (kid hw hg).2.1
  have eg2 := (kid hw hg).2.2.1
  have hvn := vcn_nv hw
  have hfn := hw.flat.2.1
  have f1 := fcn_mono (c := c) hL
  have f2 := fcn_mono (c := c) hm
  have f3 := fcn_mono (c := c) (show g ≤ en c g by omega)
  have f4 := fcn_mono (c := c) eg2
  have v1 := vcn_mono (c := c) hL
  have v2 := vcn_mono (c := c) hm
  have v3 := vcn_mono (c := c) (show g ≤ en c g by omega)
  have v4 := vcn_mono (c := c) eg2
  have ee : aI T (q + 17) 200 (g : Int) = (en c g : Int) := by rw [aI_n (by omega), (hc.2.2.2.2.2.1 g hg).2.2.2.2.2.2.2.2.2]
  refine w_X6_hasRoom (d := d + 1) ?_
  unfold f_X6_hasRoom
  refine ⟨q, hq, h2, by omega, q, hq, h2, q, hq, h2, q, hq, h2, ?_⟩
  rw [ee, hc.2.2.1, hc.2.2.2.1]
  refine d_fnIn (d := d + 1) hc hL hm ⟨q, hq, h2, ?_⟩
  refine d_fnIn (d := d + 1) hc (by omega) eg2 ⟨q, hq, h2, q, hq, h2, ?_⟩
  rw [hc.2.2.2.2.1]
  refine d_vrIn (d := d) hc hL hm ⟨q, hq, h2, ?_⟩
  refine d_vrIn (d := d) hc (by omega) eg2 ?_
  refine ⟨by omega, fun z => ⟨_, rfl, k0 (by omega)⟩, fun z => ⟨by omega, fun z2 => ⟨_, rfl, k0 (by omega)⟩, fun z2 => ⟨by omega, fun z3 => ⟨_, rfl, k0 (by omega)⟩, fun z3 => ⟨_, rfl, k1 (by omega) (by omega) (by omega)⟩⟩⟩⟩
/-- tokens that stand, in the words of the new program -/
def tkU (T : gT) (q2 : Nat) (c' : Nat → Nat → Int) (old : Nat → Nat) (x : Nat) : Prop := ∀ k, k < x → vI T (q2 + 1) k = c' k 0 ∧ vI T (q2 + 2) k = tV c' old k ∧ vI T (q2 + 3) k = tS c' old k
theorem tkU.add {T' : gT} {q2 fr x m : Nat} {sh : Int} {c' : Nat → Nat → Int} {old : Nat → Nat} (h : tkU T q2 c' old x) (hf : fG (Wa q2 x) V0 T T') (hc : cpT T' q2 c sh fr x m) (ht : ∀ i, i < m → tk1 c c' old sh (fr + i) (x + i)) : tkU T' q2 c' old (x + m) := by
  intro k hk
  by_cases z : k < x
  · obtain ⟨a1, a2, a3⟩ := h k z
    exact ⟨(hf.v (by unfold Wa; omega)).trans a1, (hf.v (by unfold Wa; omega)).trans a2, (hf.v (by unfold Wa; omega)).trans a3⟩
  · obtain ⟨a1, a2, a3⟩ := hc (k - x) (by omega)
    obtain ⟨b1, b2, b3⟩ := ht (k - x) (by omega)
    rw [show x + (k - x) = k by omega] at a1 a2 a3 b1 b2 b3
    exact ⟨a1.trans b1.symm, a2.trans b2.symm, a3.trans b3.symm⟩
theorem Wa.p {T' : gT} {q2 x : Nat} (hqq : q2 + q = 23) (hc : cPq T q c n nv nf) (hf : fG (Wa q2 x) V0 T T') : cPq T' q c n nv nf := hc.of (fun k i h1 h2 => hf.v (by have := hc.2.1; unfold Wa; omega))
theorem Wa.a {T' : gT} {q2 x m : Nat} {u : Nat → Nat} (hqq : q2 = 2 ∨ q2 = 21) (h : pA T q u m) (hf : fG (Wa q2 x) V0 T T') : pA T' q u m := h.of (fun i => hf.1 1 i (by unfold Wa; omega)) (fun i => hf.v (by unfold Wa; omega))
theorem s_drop {l : Int} (hl : okI l) (hE : mSta sa b E) (h : cA T A) : gC (tP sa) lD b E (d + 7) mX6_drop [.ref (b + 0), .int (zI l)] T (sI T (aDrp A.2.2.1 A.2.2.2 l).1 (A.1, A.2.1, (aDrp A.2.2.1 A.2.2.2 l).2)) := by
  obtain ⟨q, h1, h2, h3, h4, h5, h6⟩ := id h
  obtain ⟨u, m, po, rn⟩ := A
  dsimp only at h1 h5 h6 ⊢
  refine w_X6_drop (d := d + 5) ?_
  unfold f_X6_drop
  refine s_isOfKind (d := d + 5) hl (by unfold okI; omega) h2 h3 h5 (fun x hx l0 l1 hk => ⟨by omega, fun _ => ?_, fun z => by omega⟩) (fun y => ⟨by omega, fun z => absurd rfl z, fun _ => ?_⟩)
  · subst hx
    obtain ⟨c, n, nv, nf⟩ := x
    obtain ⟨L, rfl⟩ : ∃ m : Nat, l = (m : Int) := ⟨l.toNat, by omega⟩
    dsimp only at l1 hk
    rw [Int.toNat_natCast] at hk
    have hLn : L < n := by omega
    unfold aDrp
    dsimp only
    rw [Int.toNat_natCast, if_pos ⟨⟨l0, l1⟩, hk⟩]
    refine s_canD (d := d + 5) (x := (c, n, nv, nf)) h2 h3 h5 hLn hk (fun hd => ⟨by omega, fun _ => ?_, fun z => by omega⟩) (fun hd => ⟨by omega, fun z => absurd rfl z, fun _ => ?_⟩)
    · dsimp only at hd
      rw [if_pos hd]
      have hc : cPq T q c n nv nf := h5.1
      have hw := hc.1
      have hn := hw.1
      obtain ⟨t1, t2, t3, t4, t5, t6, t7, t8⟩ := drop_tk hw hLn hd
      have hw' := dP_wP hw hLn hd
      have hn' := hw'.1
      obtain ⟨q2, hqq⟩ : ∃ q2, q2 + q = 23 := ⟨23 - q, by omega⟩
      have hq2 : q2 = 2 ∨ q2 = 21 := by omega
      have e3 : vI T 0 3 = (q2 : Int) := by omega
      have hp : pA T q u m := ⟨h1, h2, h3, h4⟩
      have e0 : vI (gI T q2 0 (zI 0)) 0 3 = (q2 : Int) := by rw [v_o (by omega), e3]
      have e02 : vI (gI T q2 0 (zI 0)) 0 2 = (q : Int) := by rw [v_o (by omega), h3]
      refine ⟨q2, hq2, e3, q2, hq2, e0, q, h2, e02, ?_⟩
      have f0 : fG (Wa q2 0) V0 T (gI T q2 0 (zI 0)) := fG.refl.gI (Or.inl ⟨rfl, rfl⟩)
      have hc0 := Wa.p hqq hc f0
      have hp0 := Wa.a hq2 hp f0
      refine d_addC (d := d + 4) (fr := 0) (to := L) (x := 0) (sh := 0) hc0 hqq (Or.inl rfl) (by omega) (by omega) (v_s (by omega)) (by omega) (fun T1 f1 g1 c1 => ?_)
      have hc1 := Wa.p hqq hc0 f1
      have hp1 := Wa.a hq2 hp0 f1
      have u1 : tkU T1 q2 (dC c L) (dO c L) (0 + (L - 0)) := tkU.add (T := gI T q2 0 (zI 0)) (fun k hk => by omega) f1 c1 (fun i hi => by rw [Nat.zero_add]; exact t6 i (by omega))
      rw [show 0 + (L - 0) = L by omega] at u1 g1
      have y3 := hp1.2.2.2
      have y2 := hp1.2.2.1
      have ep : aP T1 q (L : Int) 1 = ((c L 4).toNat : Int) := by
        rw [(cP_pt hc1 hLn).2.1]
        have : L + 1 < (c L 4).toNat := (nums hw hLn (Or.inl hd.1)).choose_spec.choose_spec.2.2.2.1
        omega
      have ee : ∀ {T1 : gT}, cPq T1 q c n nv nf → aI T1 (q + 17) 200 (L : Int) = (en c L : Int) := fun hc1 => by rw [aI_n (by omega), (hc1.2.2.2.2.2.1 L hLn).2.2.2.2.2.2.2.2.2]
      refine ⟨q2, hq2, by omega, q, h2, y2, q, h2, y2, by omega, q, h2, y2, ?_⟩
      rw [ep, ee hc1]
      refine d_addC (d := d + 4) (fr := (c L 4).toNat) (to := en c L) (x := L) (sh := 0) hc1 hqq (Or.inl rfl) (by omega) (by omega) g1 (by omega) (fun T2 f2 g2 c2 => ?_)
      have hc2 := Wa.p hqq hc1 f2
      have hp2 := Wa.a hq2 hp1 f2
      have u2 := tkU.add u1 f2 c2 t7
      have y3 := hp2.2.2.2
      have y2 := hp2.2.2.1
      refine ⟨q2, hq2, by omega, q, h2, y2, q, h2, y2, q, h2, y2, ?_⟩
      rw [ee hc2, hc2.2.2.1]
      refine d_addC (d := d + 4) (fr := en c L) (to := n) (x := L + (en c L - (c L 4).toNat)) (sh := 0) hc2 hqq (Or.inl rfl) (by omega) (by omega) g2 (by omega) (fun T3 f3 g3 c3 => ?_)
      have hc3 := Wa.p hqq hc2 f3
      have hp3 := Wa.a hq2 hp2 f3
      have u3 := tkU.add u2 f3 c3 t8
      rw [← t4] at u3 g3
      refine s_take (d := d + 1) hE hw' t5 hp3 hqq g3 u3 (fun T4 j4 hA4 => ⟨q2, hq2, hA4.2.2.1, ?_⟩)
      have n4 := hA4.2.2.2.2.1.1.2.2.1
      dsimp only at n4
      rw [n4]
      refine ⟨rfl, ?_, q2, hA4⟩
      rw [j4, f3.2.2, f2.2.2, f1.2.2, f0.2.2]
    · dsimp only at hd
      rw [if_neg hd]
      exact ⟨rfl, rfl, h⟩
  · have : aDrp po rn l = (-2, po, rn) := by
      unfold aDrp
      rcases y with y | ⟨x, y, y2⟩
      · rw [y]
      · rw [y]; dsimp only; rw [if_neg y2]
    rw [this]
    exact ⟨rfl, rfl, h⟩
end CH2
