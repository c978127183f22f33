/-! A NEW PROGRAM TAKES THE OLD ONE'S PLACE -/
/-- the desk but for its program -/
def pA (T : gT) (q : Nat) (u : Nat → Nat) (m : Nat) : Prop := (mTx T 1 u ∧ vI T 0 1 = (m : Int) ∧ m ≤ 400) ∧ (q = 2 ∨ q = 21) ∧ vI T 0 2 = (q : Int) ∧ vI T 0 3 = 23 - (q : Int)
section TK
variable {sa : Nat → Nat} {b : Nat} {E : Nat × mH} {d : Nat} {T : gT} {q : Nat} {c : Nat → Nat → Int} {n nv nf m : Nat} {u : Nat → Nat} {old : Nat → Nat} {φ : gT → Prop}
theorem pA.of {T' : gT} (h : pA T q u m) (h1 : ∀ i, T'.1 1 i = T.1 1 i) (h0 : ∀ i, vI T' 0 i = vI T 0 i) : pA T' q u m := by
  obtain ⟨⟨t1, t2, t3⟩, h2, h3, h4⟩ := h
  exact ⟨⟨fun i hi => ⟨(t1 i hi).1, (h1 i).trans (t1 i hi).2⟩, (h0 1).trans t2, t3⟩, h2, (h0 2).trans h3, (h0 3).trans h4⟩
theorem s_take {q2 : Nat} (hE : mSta sa b E) (hw : wP c n nv nf) (hO : okO old nv) (hA : pA T q u m) (hq2 : q2 + q = 23) (h0 : vI T q2 0 = (n : Int)) (ht : ∀ l, l < n → vI T (q2 + 1) l = c l 0 ∧ vI T (q2 + 2) l = tV c old l ∧ vI T (q2 + 3) l = tS c old l) (k : ∀ T', T'.2.2 = T.2.2 → cAq T' q2 (u, m, some (c, n, nv, nf), rn0) → φ T') :
    gC (tP sa) lD b E (d + 5) mX6_takeSpare [.ref (b + 0)] T (fun r T' => pV r (φ T')) := by
  obtain ⟨⟨t1, t2, t3⟩, hq, e2, e3⟩ := hA
  have hqq : q2 = 2 ∨ q2 = 21 := by omega
  refine w_X6_takeSpare (d := d + 4) ?_
  unfold f_X6_takeSpare
  refine ⟨q2, hqq, by omega, ?_⟩
  refine d_settle (d := d + 1) hE hw hO hqq h0 ht (fun T1 f1 hc1 => ?_)
  have a2 : vI T1 0 2 = (q : Int) := by rw [f1.v (by unfold Wq; omega)]; exact e2
  have a3 : vI T1 0 3 = (q2 : Int) := by rw [f1.v (by unfold Wq; omega)]; omega
  refine ⟨q, hq, a2, q2, hqq, a3, ?_⟩
  rw [zI_nat, zI_nat]
  have b2 : vI (gI (gI T1 0 2 (zI (q2 : Int))) 0 3 (zI (q : Int))) 0 2 = (q2 : Int) := by rw [v_o (by omega), v_s (by omega)]
  refine ⟨q2, hqq, b2, ?_⟩
  generalize hT2 : gI (gI T1 0 2 (zI (q2 : Int))) 0 3 (zI (q : Int)) = T2 at b2
  have b3 : vI T2 0 3 = (q : Int) := by rw [← hT2, v_s (by omega)]
  have hc2 : cPq T2 q2 c n nv nf := hc1.of (fun k i h1 _ => by rw [← hT2, v_o (by omega), v_o (by omega)])
  refine d_solve (d := d) hc2 (fun T3 hS => ?_)
  obtain ⟨s1, s2, s3, s4⟩ := hS
  have hc3 := cSf.p s4 hc2
  refine d_forget (fun T4 f4 y1 y2 y3 => ⟨rfl, ?_⟩)
  have fr : ∀ i, i ≠ 2 → i ≠ 3 → T4.1 0 i = T.1 0 i := fun i h2 h3 => by
    rw [f4.1 0 i (by omega), s4.1 0 i (by unfold Wm; omega), ← hT2, gI_I, if_neg (by omega), gI_I, if_neg (by omega), f1.1 0 i (by unfold Wq; omega)]
  have fr1 : ∀ i, T4.1 1 i = T.1 1 i := fun i => by
    rw [f4.1 1 i (by omega), s4.1 1 i (by unfold Wm; omega), ← hT2, gI_I, if_neg (by omega), gI_I, if_neg (by omega), f1.1 1 i (by unfold Wq; omega)]
  have v0 : ∀ i, vI T4 0 i = vI T2 0 i := fun i => by rw [f4.v (by omega), s4.v (by unfold Wm; omega)]
  refine k T4 ?_ ⟨⟨fun i hi => ⟨(t1 i hi).1, (fr1 i).trans (t1 i hi).2⟩, ?_, t3⟩, hqq, (v0 2).trans b2, ?_, ⟨hc3.of (fun k i h1 h2 => f4.v (by omega)), fun l hl => ?_, fun v hv => ?_, s3.of (fun t _ => f4.2.1 50 t (by omega))⟩, ?_, Nat.zero_le _, y2, y3⟩
  · rw [f4.2.2, s4.2.2, ← hT2]; exact f1.2.2
  · unfold vI; rw [fr 1 (by omega) (by omega)]; exact t2
  · rw [v0 3, b3]; omega
  · rw [f4.2.1 48 l (by omega)]; exact s1 l hl
  · rw [f4.2.1 49 v (by omega)]; exact s2 v hv
  · rw [y1]; rfl
/-- an expr is added -/
theorem d_add {k0 k1 k2 : Int} {x : Nat} {ψ : Int → gT → Prop} (hq : q = 2 ∨ q = 21) (o0 : okI k0) (o1 : okI k1) (o2 : okI k2) (h0 : vI T q 0 = (x : Int)) (hx : x < 200) (k : ∀ T', fG (fun k j => (k = q ∧ j = 0) ∨ ((k = q + 1 ∨ k = q + 2 ∨ k = q + 3) ∧ j = x)) V0 T T' → vI T' q 0 = (x : Int) + 1 → vI T' (q + 1) x = k0 → vI T' (q + 2) x = k1 → vI T' (q + 3) x = k2 → ψ (x : Int) T') :
    gC (tP sa) lD b E d mX3_add [.ref (b + q), .int (zI k0), .int (zI k1), .int (zI k2)] T (fun r T' => pI r (fun v => ψ v T')) := by
  refine w_X3_add hq ?_
  unfold f_X3_add
  rw [h0, Int.toNat_natCast]
  have e1 : vI (gI T (q + 1) x (zI k0)) q 0 = (x : Int) := by rw [v_o (by omega), h0]
  rw [e1, Int.toNat_natCast]
  have e2 : vI (gI (gI T (q + 1) x (zI k0)) (q + 2) x (zI k1)) q 0 = (x : Int) := by rw [v_o (by omega), e1]
  rw [e2, Int.toNat_natCast]
  have e3 : vI (gI (gI (gI T (q + 1) x (zI k0)) (q + 2) x (zI k1)) (q + 3) x (zI k2)) q 0 = (x : Int) := by rw [v_o (by omega), e2]
  rw [e3, v_s (by omega), show (x : Int) + 1 - 1 = (x : Int) by omega]
  refine ⟨fun _ => ⟨by omega, by omega, by omega, by omega, by omega, by omega, _, rfl, k _ ?_ (v_s (by omega)) ?_ ?_ ?_⟩, fun z => by omega⟩
  · refine ((((fG.refl.gI ?_).gI ?_).gI ?_).gI ?_)
    · right; exact ⟨Or.inl rfl, rfl⟩
    · right; exact ⟨Or.inr (Or.inl rfl), rfl⟩
    · right; exact ⟨Or.inr (Or.inr rfl), rfl⟩
    · left; exact ⟨rfl, rfl⟩
  · rw [v_o (by omega), v_o (by omega), v_o (by omega), v_s o0]
  · rw [v_o (by omega), v_o (by omega), v_s o1]
  · rw [v_o (by omega), v_s o2]
theorem d_varsOf {l : Nat} {ψ : Int → gT → Prop} (hc : cPq T q c n nv nf) (hl : l < n) (k : ψ ((if c l 0 = 3 then 2 else if c l 0 = 2 ∨ c l 0 = 5 then 1 else 0 : Nat) : Int) T) : gC (tP sa) lD b E (d + 1) mX3_variablesOf [.ref (b + q), .int (zI (l : Int))] T (fun r T' => pI r (fun v => ψ v T')) := by
  have hn := hc.1.1
  refine w_X3_variablesOf hc.2.1 ?_
  unfold f_X3_variablesOf
  rw [aI_n (by omega), (hc.2.2.2.2.2.1 l hl).1]
  refine ⟨by omega, fun z => ?_, fun z => ?_, fun z => ?_, fun z => ?_⟩
  · rw [if_neg (by omega), if_pos (by omega)] at k; exact ⟨_, rfl, k⟩
  · rw [if_pos z] at k; exact ⟨_, rfl, k⟩
  · rw [if_neg (by omega), if_pos (by omega)] at k; exact ⟨_, rfl, k⟩
  · rw [if_neg (by omega), if_neg (by omega)] at k; exact ⟨_, rfl, k⟩
/-- what is copied of label l, its variables counted higher -/
def hV (c : Nat → Nat → Int) (l : Nat) : Int := if c l 0 = 0 ∨ c l 0 = 2 ∨ c l 0 = 3 ∨ c l 0 = 5 then 1 else 0
def hS (c : Nat → Nat → Int) (l : Nat) : Int := if c l 0 = 3 then 1 else 0
/-- tokens at q2, from x on: those of from .. -/
def cpT (T : gT) (q2 : Nat) (c : Nat → Nat → Int) (sh : Int) (fr x m : Nat) : Prop := ∀ i, i < m → vI T (q2 + 1) (x + i) = c (fr + i) 0 ∧ vI T (q2 + 2) (x + i) = c (fr + i) 1 + hV c (fr + i) * sh ∧ vI T (q2 + 3) (x + i) = c (fr + i) 2 + hS c (fr + i) * sh
def Wa (q2 x : Nat) (k j : Nat) : Prop := (k = q2 ∧ j = 0) ∨ ((k = q2 + 1 ∨ k = q2 + 2 ∨ k = q2 + 3) ∧ x ≤ j)
theorem d_addC {q2 fr to x : Nat} {sh : Int} (hc : cPq T q c n nv nf) (hqq : q2 + q = 23) (hsh : sh = 0 ∨ sh = 100) (hft : fr ≤ to) (hto : to ≤ n) (h0 : vI T q2 0 = (x : Int)) (hx : x + (to - fr) ≤ 200) (k : ∀ T', fG (Wa q2 x) V0 T T' → vI T' q2 0 = ((x + (to - fr) : Nat) : Int) → cpT T' q2 c sh fr x (to - fr) → φ T') :
    gC (tP sa) lD b E (d + 2) mX3_addCopies [.ref (b + q2), .ref (b + q), .int (zI (fr : Int)), .int (zI (to : Int)), .int (zI sh)] T (fun r T' => pV r (φ T')) := by
  have hw := hc.1
  have hn := hw.1
  have hnv := hw.2.1
  have hq := hc.2.1
  have hq2 : q2 = 2 ∨ q2 = 21 := by omega
  obtain ⟨_, _, _, fl⟩ := hw.flat
  refine w_X3_addCopies (d := d + 1) hq2 hq ?_
  unfold f_X3_addCopies
  refine ⟨by omega, ?_⟩
  rw [if_neg (by omega)]
  -- what one step leaves
  have keep : ∀ {T1 : gT}, fG (Wa q2 x) V0 T T1 → cPq T1 q c n nv nf := fun h => hc.of (fun k i h1 h2 => h.v (by unfold Wa; omega))
  have one : ∀ (l i : Nat) (T1 : gT), l = fr + i → l < to → fG (Wa q2 x) V0 T T1 → vI T1 q2 0 = ((x + i : Nat) : Int) → cpT T1 q2 c sh fr x i → ∀ {ψ : Int → gT → Prop}, (∀ T2, fG (Wa q2 x) V0 T T2 → vI T2 q2 0 = ((x + (i + 1) : Nat) : Int) → cpT T2 q2 c sh fr x (i + 1) → ∀ v, ψ v T2) →
      gC (tP sa) lD b E (d + 1) mX3_add [.ref (b + q2), .int (zI (vI T1 (q + 1) l)), .int (zI ((vI T1 (q + 2) l) + (hV c l * sh))), .int (zI ((vI T1 (q + 3) l) + (hS c l * sh)))] T1 (fun r T' => pI r (fun v => ψ v T')) := by
    intro l i T1 hl hlt hF h0' hT ψ K
    have hc1 := keep hF
    have hln : l < n := by omega
    obtain ⟨a1, a2, a3, _⟩ := hc1.2.2.2.2.2.1 l hln
    rw [a1, a2, a3]
    obtain ⟨wl, _⟩ := fl l hln
    have kk := (kid hw hln).1
    have o := own hw hln
    have c2 := c2_no hw hln
    have c1r : -999999 ≤ c l 1 ∧ c l 1 ≤ 999999 := by
      obtain ⟨f, vs, h, _⟩ := hw.at2 hln
      have := vcn_mono (c := c) (show l ≤ n by omega)
      have hvn := vcn_nv hw
      cases f with
      | zero => exact h.elim
      | succ f =>
        obtain ⟨_, h⟩ := h
        rcases h with h | h | h | h | h | h | h
        · obtain ⟨y, hy, e⟩ := o.2.2.2 h.1; omega
        all_goals omega
    have c2r : -1 ≤ c l 2 ∧ c l 2 ≤ 1000 := by
      by_cases z : c l 0 = 3
      · have := (o.2.1 z).2; have := vcn_mono (c := c) (show l ≤ n by omega); have hvn := vcn_nv hw; omega
      · have := c2 z; omega
    clear o
    have hVr : hV c l * sh = 0 ∨ hV c l * sh = 100 := by
      unfold hV
      split
      · rw [Int.one_mul]; exact hsh
      · left; exact Int.zero_mul _
    have hSr : hS c l * sh = 0 ∨ hS c l * sh = 100 := by
      unfold hS
      split
      · rw [Int.one_mul]; exact hsh
      · left; exact Int.zero_mul _
    refine d_add hq2 (by unfold okI; omega) (by unfold okI; omega) (by unfold okI; omega) h0' (by omega) (fun T2 f2 g0 g1 g2 g3 => K T2 (hF.trans (f2.mono (fun k j z => by unfold Wa; omega) (fun _ _ z => z))) (by rw [g0]; omega) (fun j hj => ?_) _)
    by_cases y : j = i
    · rw [y, ← hl]; exact ⟨g1, g2, g3⟩
    · obtain ⟨t1, t2, t3⟩ := hT j (by omega)
      exact ⟨(f2.v (by omega)).trans t1, (f2.v (by omega)).trans t2, (f2.v (by omega)).trans t3⟩
  have lp : ∀ (j i l : Nat) (T1 : gT) (L6 L7 : Option Value), (L6 = none ∧ L7 = none ∨ ∃ y6 y7 : Int, L6 = some (.int (zI y6)) ∧ L7 = some (.int (zI y7))) → j + l = to → l = fr + i → fG (Wa q2 x) V0 T T1 → vI T1 q2 0 = ((x + i : Nat) : Int) → cpT T1 q2 c sh fr x i →
      gW (tP sa) lD b E (d + 1 + 1) mX3_addCopies 7 [some (.ref (b + q2)), some (.ref (b + q)), some (.int (zI (fr : Int))), some (.int (zI (to : Int))), some (.int (zI sh)), some (.int (zI (l : Int))), L6, L7] [] T1 (fun r T' => pV r (φ T')) := by
    intro j
    induction j with
    | zero =>
      intro i l T1 L6 L7 h67 hj hl hF h0' hT
      have e : x + i = x + (to - fr) := by omega
      have fin : φ T1 := k T1 hF (by rw [h0', e]) (by rw [show to - fr = i by omega]; exact hT)
      rcases h67 with ⟨h6, h7⟩ | ⟨y6, y7, h6, h7⟩ <;> subst h6 <;> subst h7
      · refine w_X3_addCopies_7 (d := d + 1) hq2 hq ?_
        unfold f_X3_addCopies_7
        exact ⟨by omega, by omega, fun _ => ⟨rfl, fin⟩, fun z => by omega⟩
      · refine w_X3_addCopies_7b (d := d + 1) hq2 hq ?_
        unfold f_X3_addCopies_7b
        exact ⟨by omega, by omega, fun _ => ⟨rfl, fin⟩, fun z => by omega⟩
    | succ j ih =>
      intro i l T1 L6 L7 h67 hj hl hF h0' hT
      have hc1 := keep hF
      have hln : l < n := by omega
      have en' := hc1.2.2.1
      have kl := (hc1.2.2.2.2.2.1 l hln).1
      have nxt : ∀ y6 y7 : Int, ∀ T2, fG (Wa q2 x) V0 T T2 → vI T2 q2 0 = ((x + (i + 1) : Nat) : Int) → cpT T2 q2 c sh fr x (i + 1) → gW (tP sa) lD b E (d + 1 + 1) mX3_addCopies 7 [some (.ref (b + q2)), some (.ref (b + q)), some (.int (zI (fr : Int))), some (.int (zI (to : Int))), some (.int (zI sh)), some (.int (zI ((l : Int) + 1))), some (.int (zI y6)), some (.int (zI y7))] [] T2 (fun r T' => pV r (φ T')) := by
        intro y6 y7 T2 a1 a2 a3
        rw [show (l : Int) + 1 = ((l + 1 : Nat) : Int) by omega]
        exact ih (i + 1) (l + 1) T2 _ _ (Or.inr ⟨y6, y7, rfl, rfl⟩) (by omega) (by omega) a1 a2 a3
      rcases h67 with ⟨h6, h7⟩ | ⟨y6, y7, h6, h7⟩ <;> subst h6 <;> subst h7
      · -- the first
        have s46 : ∀ v : Int, v = hV c l → gW (tP sa) lD b E (d + 1 + 1) mX3_addCopies 46 [some (.ref (b + q2)), some (.ref (b + q)), some (.int (zI (fr : Int))), some (.int (zI (to : Int))), some (.int (zI sh)), some (.int (zI (l : Int))), none, none] [.int (zI v)] T1 (fun r T' => pV r (φ T')) := by
          intro v hv
          subst hv
          have s64 : ∀ w : Int, w = hS c l → gW (tP sa) lD b E (d + 1 + 1) mX3_addCopies 64 [some (.ref (b + q2)), some (.ref (b + q)), some (.int (zI (fr : Int))), some (.int (zI (to : Int))), some (.int (zI sh)), some (.int (zI (l : Int))), some (.int (zI (hV c l))), none] [.int (zI w)] T1 (fun r T' => pV r (φ T')) := by
            intro w hw'
            subst hw'
            refine w_X3_addCopies_64 (d := d + 1) hq2 hq ?_
            unfold f_X3_addCopies_64
            rw [Int.toNat_natCast]
            exact ⟨by omega, by omega, one l i T1 hl (by omega) hF h0' hT (fun T2 a1 a2 a3 v => nxt _ _ T2 a1 a2 a3)⟩
          refine w_X3_addCopies_46 (d := d + 1) hq2 hq ?_
          unfold f_X3_addCopies_46
          rw [Int.toNat_natCast, kl]
          exact ⟨by omega, by omega, fun z => s64 0 (by unfold hS; rw [if_neg z]), fun z => s64 1 (by unfold hS; rw [if_pos z])⟩
        have s41 : hV c l = 1 → gW (tP sa) lD b E (d + 1 + 1) mX3_addCopies 41 [some (.ref (b + q2)), some (.ref (b + q)), some (.int (zI (fr : Int))), some (.int (zI (to : Int))), some (.int (zI sh)), some (.int (zI (l : Int))), none, none] [] T1 (fun r T' => pV r (φ T')) := by
          intro hv
          refine w_X3_addCopies_41 (d := d + 1) hq2 hq ?_
          unfold f_X3_addCopies_41
          exact s46 1 hv.symm
        refine w_X3_addCopies_7 (d := d + 1) hq2 hq ?_
        unfold f_X3_addCopies_7
        rw [Int.toNat_natCast, kl, en']
        refine ⟨by omega, by omega, fun z => by omega, fun _ => ⟨fun z => by omega, fun _ => ⟨by omega, by omega, fun z => s41 (by unfold hV; rw [if_pos (by omega)]), fun z => ?_⟩⟩⟩
        refine d_varsOf hc1 hln ⟨by split <;> (try split) <;> omega, fun z2 => ?_, fun z2 => ?_⟩
        · refine s46 0 ?_
          unfold hV
          rw [if_neg]
          rintro (y | y | y | y)
          · exact z y
          · rw [if_neg (by omega), if_pos (by omega)] at z2; omega
          · rw [if_pos y] at z2; omega
          · rw [if_neg (by omega), if_pos (by omega)] at z2; omega
        · refine s41 ?_
          unfold hV
          rw [if_pos]
          by_cases y3 : c l 0 = 3
          · omega
          · by_cases y2 : c l 0 = 2 ∨ c l 0 = 5
            · omega
            · rw [if_neg y3, if_neg y2] at z2; omega
      · -- later ones
        have s46 : ∀ v : Int, v = hV c l → gW (tP sa) lD b E (d + 1 + 1) mX3_addCopies 46 [some (.ref (b + q2)), some (.ref (b + q)), some (.int (zI (fr : Int))), some (.int (zI (to : Int))), some (.int (zI sh)), some (.int (zI (l : Int))), some (.int (zI y6)), some (.int (zI y7))] [.int (zI v)] T1 (fun r T' => pV r (φ T')) := by
          intro v hv
          subst hv
          have s64 : ∀ w : Int, w = hS c l → gW (tP sa) lD b E (d + 1 + 1) mX3_addCopies 64 [some (.ref (b + q2)), some (.ref (b + q)), some (.int (zI (fr : Int))), some (.int (zI (to : Int))), some (.int (zI sh)), some (.int (zI (l : Int))), some (.int (zI (hV c l))), some (.int (zI y7))] [.int (zI w)] T1 (fun r T' => pV r (φ T')) := by
            intro w hw'
            subst hw'
            refine w_X3_addCopies_64b (d := d + 1) hq2 hq ?_
            unfold f_X3_addCopies_64b
            rw [Int.toNat_natCast]
            exact ⟨by omega, by omega, one l i T1 hl (by omega) hF h0' hT (fun T2 a1 a2 a3 v => nxt _ _ T2 a1 a2 a3)⟩
          refine w_X3_addCopies_46b (d := d + 1) hq2 hq ?_
          unfold f_X3_addCopies_46b
          rw [Int.toNat_natCast, kl]
          exact ⟨by omega, by omega, fun z => s64 0 (by unfold hS; rw [if_neg z]), fun z => s64 1 (by unfold hS; rw [if_pos z])⟩
        have s41 : hV c l = 1 → gW (tP sa) lD b E (d + 1 + 1) mX3_addCopies 41 [some (.ref (b + q2)), some (.ref (b + q)), some (.int (zI (fr : Int))), some (.int (zI (to : Int))), some (.int (zI sh)), some (.int (zI (l : Int))), some (.int (zI y6)), some (.int (zI y7))] [] T1 (fun r T' => pV r (φ T')) := by
          intro hv
          refine w_X3_addCopies_41b (d := d + 1) hq2 hq ?_
          unfold f_X3_addCopies_41b
          exact s46 1 hv.symm
        refine w_X3_addCopies_7b (d := d + 1) hq2 hq ?_
        unfold f_X3_addCopies_7b
        rw [Int.toNat_natCast, kl, en']
        refine ⟨by omega, by omega, fun z => by omega, fun _ => ⟨fun z => by omega, fun _ => ⟨by omega, by omega, fun z => s41 (by unfold hV; rw [if_pos (by omega)]), fun z => ?_⟩⟩⟩
        refine d_varsOf hc1 hln ⟨by split <;> (try split) <;> omega, fun z2 => ?_, fun z2 => ?_⟩
        · refine s46 0 ?_
          unfold hV
          rw [if_neg]
          rintro (y | y | y | y)
          · exact z y
          · rw [if_neg (by omega), if_pos (by omega)] at z2; omega
          · rw [if_pos y] at z2; omega
          · rw [if_neg (by omega), if_pos (by omega)] at z2; omega
        · refine s41 ?_
          unfold hV
          rw [if_pos]
          by_cases y3 : c l 0 = 3
          · omega
          · by_cases y2 : c l 0 = 2 ∨ c l 0 = 5
            · omega
            · rw [if_neg y3, if_neg y2] at z2; omega
  exact lp (to - fr) 0 fr T none none (Or.inl ⟨rfl, rfl⟩) (by omega) (by omega) fG.refl (by rw [h0]; rfl) (fun i hi => by omega)
end TK
