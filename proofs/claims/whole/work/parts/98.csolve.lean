/-- all exprs, the first first -/
def fwd (c : Nat → Nat → Int) (n : Nat) : Nat → Nat → fS → fS
  | 0, _, s => s
  | k + 1, i, s => fwd c n k (i + 1) (fl c n i s)
section FW
variable {c : Nat → Nat → Int} {n nv nf : Nat} {s : fS} {X Y : Nat → Nat}
theorem fwd_stp (hw : wP c n nv nf) : ∀ (k i : Nat) (s : fS), k + i ≤ n → bnd s → stp s (fwd c n k i s) := by
  intro k
  induction k with
  | zero => intro i s _ h; exact stp.refl h
  | succ k ih => intro i s hk h; have s1 := fl_stp hw (l := i) (by omega) h; exact s1.trans (ih _ _ (by omega) s1.1)
theorem fwd_und (hw : wP c n nv nf) (hX : sol c n X Y) : ∀ (k i : Nat) (s : fS), k + i ≤ n → und s X Y n nv → und (fwd c n k i s) X Y n nv := by
  intro k
  induction k with
  | zero => intro i s _ h; exact h
  | succ k ih => intro i s hk h; exact ih _ _ (by omega) (fl_und hw (by omega) (hX i (by omega)) h)
/-- a round: there and back -/
def rnd (c : Nat → Nat → Int) (n : Nat) (s : fS) : fS := bkw c n n (fwd c n n 0 (s0 s))
theorem rnd_stp (hw : wP c n nv nf) (h : bnd s) : stp (s0 s) (rnd c n s) := by
  have s1 := fwd_stp hw n 0 (s0 s) (by omega) (s0_bnd h)
  exact s1.trans (bkw_stp hw n _ (Nat.le_refl _) s1.1)
theorem rnd_und (hw : wP c n nv nf) (hX : sol c n X Y) (h : und s X Y n nv) : und (rnd c n s) X Y n nv := bkw_und hw hX n _ (Nat.le_refl _) (fwd_und hw hX n 0 _ (by omega) (s0_und h))
theorem rnd_no (hw : wP c n nv nf) (h : bnd s) (hm : (rnd c n s).2.2 = false) : rnd c n s = s0 s ∧ sol c n s.1 s.2.1 := by
  have s1 := fwd_stp hw n 0 (s0 s) (by omega) (s0_bnd h)
  have e := (rnd_stp hw h).2.2.1 hm
  unfold rnd at hm e
  obtain ⟨e1, e2⟩ := bkw_no hw n _ (Nat.le_refl _) s1.1 hm
  have e3 : fwd c n n 0 (s0 s) = s0 s := e1.symm.trans e
  rw [e3] at e2
  exact ⟨e, e2⟩
end FW
section SV
variable {sa : Nat → Nat} {b : Nat} {E : Nat × mH} {d : Nat} {T : gT} {q : Nat} {c : Nat → Nat → Int} {n nv nf l : Nat} {s : fS} {φ : gT → Prop}
def Vs (k : Nat) (_ : Nat) : Prop := k = 48 ∨ k = 49 ∨ k = 50
abbrev cSf (T T' : gT) : Prop := fG (Wm 47 3) Vs T T'
theorem cFf.toS {T T' : gT} (h : cFf T T') : cSf T T' := h.mono (fun _ _ z => z) (fun _ _ z => by unfold Vm at z; unfold Vs; omega)
theorem cSf.p {T T' : gT} (h : cSf T T') (hc : cPq T q c n nv nf) : cPq T' q c n nv nf := hc.of (fun k i h1 h2 => h.v (by have := hc.2.1; unfold Wm; omega))
abbrev f50 (T T' : gT) : Prop := fG (fun _ _ => False) (fun k _ => k = 50) T T'
theorem f50.toS {T T' : gT} (h : f50 T T') : cSf T T' := h.mono (fun _ _ z => z.elim) (fun _ _ z => Or.inr (Or.inr z))
theorem k_reachesBit {t u : Nat} {R : Nat → Nat} {ψ : Int → gT → Prop} (hR : mRw 50 T R) (ht : t < 50) (hu : u < 50) (k : ψ (b1 ((R t).testBit u = true) : Int) T) : gC (tP sa) lD b E (d + 1) mX1_reachesBit [.ref (b + 47), .int (zI (t : Int)), .int (zI (u : Int))] T (fun r T' => pI r (fun v => ψ v T')) := by
  refine w_X1_reachesBit ?_
  unfold f_X1_reachesBit
  rw [aJ_n ht, (hR t ht).1, bit_uv hu]
  refine ⟨by omega, fun z => by omega, fun _ => ⟨fun z => by omega, fun _ => ⟨by omega, _, rfl, ?_⟩⟩⟩
  unfold b1 at k
  by_cases h : (R t).testBit u = true
  · rw [if_pos h] at k ⊢; rw [bit_i.1]; exact k
  · rw [if_neg h] at k ⊢; rw [bit_i.2]; exact k
theorem fr_ws1 (hc : cPq T q c n nv nf) {R : Nat → Nat} {k : Nat} (hk : k < nf) {Q : Option Value → gT → Prop} (K : ∀ T' (i2 : Int), mRw 50 T' (ws1 k R nf) → f50 T T' → gW (tP sa) lD b E (d + 2) mX1_findReached 87 [some (.ref (b + 47)), some (.ref (b + q)), some (.int (zI ((k : Int) + 1))), some (.int (zI i2))] [] T' Q) :
    ∀ (j t : Nat) (T1 : gT), j + t = nf → mRw 50 T1 (ws1 k R t) → f50 T T1 → gW (tP sa) lD b E (d + 2) mX1_findReached 97 [some (.ref (b + 47)), some (.ref (b + q)), some (.int (zI (k : Int))), some (.int (zI (t : Int)))] [] T1 Q := by
  have hw := hc.1
  have hq := hc.2.1
  have hnf := hw.2.2.1
  intro j
  induction j with
  | zero =>
    intro t T1 hj hR hf
    have e1 := (cSf.p (f50.toS hf) hc).2.2.2.1
    obtain rfl : t = nf := by omega
    refine w_X1_findReached_97 hq ?_
    unfold f_X1_findReached_97
    exact ⟨by omega, fun _ => K T1 _ hR hf, fun z => absurd z (by omega)⟩
  | succ j ih =>
    intro t T1 hj hR hf
    have e1 := (cSf.p (f50.toS hf) hc).2.2.2.1
    refine w_X1_findReached_97 hq ?_
    unfold f_X1_findReached_97
    have en1 : (t : Int) + 1 = ((t + 1 : Nat) : Int) := by omega
    have et := (hR t (by omega))
    have ek := (hR k (by omega))
    refine ⟨by omega, fun z => absurd z (by omega), fun _ => ?_⟩
    refine k_reachesBit hR (by omega) (by omega) ⟨by unfold b1; split <;> omega, fun z => ?_, fun z => ⟨by omega, by omega, by omega, ?_⟩⟩
    · rw [en1]
      refine ih (t + 1) T1 (by omega) (hR.eq (fun u hu => ?_)) hf
      rw [ws1, if_neg]
      rintro ⟨_, y⟩
      apply z; unfold b1; rw [if_pos y]; rfl
    · have hb : (ws1 k R t t).testBit k = true := by
        unfold b1 at z
        by_cases y : (ws1 k R t t).testBit k = true
        · exact y
        · rw [if_neg y] at z; exact absurd z (by decide)
      rw [en1, Int.toNat_natCast, aJ_n (by omega), et.1, ek.1, lJ_or]
      refine ih (t + 1) _ (by omega) (hR.up (Nat.or_lt_two_pow et.2 ek.2) (fun u hu => ?_)) (hf.gJ rfl)
      rw [ws1]
      by_cases e : u = t
      · rw [if_pos e, e, if_pos ⟨rfl, hb⟩]
      · rw [if_neg e, if_neg (fun q => e q.1)]
theorem fr_ws (hc : cPq T q c n nv nf) {R : Nat → Nat} (K : ∀ T', mRw 50 T' (ws nf R nf) → f50 T T' → φ T') :
    ∀ (j k : Nat) (T1 : gT) (L3 : Option Value), (L3 = none ∨ ∃ z, L3 = some (.int (zI z))) → j + k = nf → mRw 50 T1 (ws nf R k) → f50 T T1 → gW (tP sa) lD b E (d + 2) mX1_findReached 87 [some (.ref (b + 47)), some (.ref (b + q)), some (.int (zI (k : Int))), L3] [] T1 (fun r T' => pV r (φ T')) := by
  have hw := hc.1
  have hq := hc.2.1
  have hnf := hw.2.2.1
  intro j
  induction j with
  | zero =>
    intro k T1 L3 h3 hj hR hf
    have e1 := (cSf.p (f50.toS hf) hc).2.2.2.1
    obtain rfl : k = nf := by omega
    rcases h3 with h3 | ⟨z, h3⟩ <;> subst h3
    · refine w_X1_findReached_87 hq ?_
      unfold f_X1_findReached_87
      exact ⟨by omega, fun _ => ⟨rfl, K T1 hR hf⟩, fun z => absurd z (by omega)⟩
    · refine w_X1_findReached_87b hq ?_
      unfold f_X1_findReached_87b
      exact ⟨by omega, fun _ => ⟨rfl, K T1 hR hf⟩, fun z => absurd z (by omega)⟩
  | succ j ih =>
    intro k T1 L3 h3 hj hR hf
    have hc1 := cSf.p (f50.toS hf) hc
    have e1 := hc1.2.2.2.1
    have go : gW (tP sa) lD b E (d + 2) mX1_findReached 97 [some (.ref (b + 47)), some (.ref (b + q)), some (.int (zI (k : Int))), some (.int (zI ((0 : Nat) : Int)))] [] T1 (fun r T' => pV r (φ T')) := by
      refine fr_ws1 (T := T1) (R := ws nf R k) hc1 (by omega) (fun T' i2 hR' hf' => ?_) nf 0 T1 (by omega) hR fG.refl
      rw [show (k : Int) + 1 = ((k + 1 : Nat) : Int) by omega]
      exact ih (k + 1) T' _ (Or.inr ⟨_, rfl⟩) (by omega) hR' (hf.trans hf')
    rcases h3 with h3 | ⟨z, h3⟩ <;> subst h3
    · refine w_X1_findReached_87 hq ?_
      unfold f_X1_findReached_87
      exact ⟨by omega, fun z => absurd z (by omega), fun _ => go⟩
    · refine w_X1_findReached_87b hq ?_
      unfold f_X1_findReached_87b
      exact ⟨by omega, fun z => absurd z (by omega), fun _ => go⟩
theorem fr_cg (hc : cPq T q c n nv nf) {F : Nat → Nat} (hF : ∀ l, F l < 2 ^ 50) (K : ∀ T', mRw 50 T' (rc c n nf F) → f50 T T' → φ T') (hs : cFw T s) (hsF : ∀ l, l < 200 → s.1 l = F l) :
    ∀ (j i : Nat) (T1 : gT) (L3 : Option Value), (L3 = none ∨ ∃ z, L3 = some (.int (zI z))) → j + i = n → mRw 50 T1 (cg c F i) → f50 T T1 → gW (tP sa) lD b E (d + 2) mX1_findReached 23 [some (.ref (b + 47)), some (.ref (b + q)), some (.int (zI (i : Int))), L3] [] T1 (fun r T' => pV r (φ T')) := by
  have hw := hc.1
  have hq := hc.2.1
  obtain ⟨g1, g2, g3, g4⟩ := hw.flat
  have hn := hw.1
  have hnf := hw.2.2.1
  have hU : ∀ l, l < n → c l 6 = -1 ∨ (0 ≤ c l 6 ∧ c l 6 < l) := fun l hl => by
    by_cases e : l = 0
    · rw [e]; exact Or.inl g3
    · exact Or.inr ((g4 l hl).2 (by omega))
  intro j
  induction j with
  | zero =>
    intro i T1 L3 h3 hj hR hf
    have hc1 := cSf.p (f50.toS hf) hc
    have e0 := hc1.2.2.1
    obtain rfl : i = n := by omega
    have go : ∀ L3, (L3 = none ∨ ∃ z, L3 = some (.int (zI z))) → gW (tP sa) lD b E (d + 2) mX1_findReached 87 [some (.ref (b + 47)), some (.ref (b + q)), some (.int (zI ((0 : Nat) : Int))), L3] [] T1 (fun r T' => pV r (φ T')) := fun L3 h3 => fr_ws (T := T1) hc1 (fun T' hR' hf' => K T' hR' (hf.trans hf')) nf 0 T1 L3 h3 (by omega) hR fG.refl
    rcases h3 with h3 | ⟨z, h3⟩ <;> subst h3
    · refine w_X1_findReached_23 hq ?_
      unfold f_X1_findReached_23
      exact ⟨by omega, fun _ => go _ (Or.inl rfl), fun z => absurd z (by omega)⟩
    · refine w_X1_findReached_23b hq ?_
      unfold f_X1_findReached_23b
      exact ⟨by omega, fun _ => go _ (Or.inr ⟨_, rfl⟩), fun z => absurd z (by omega)⟩
  | succ j ih =>
    intro i T1 L3 h3 hj hR hf
    have hc1 := cSf.p (f50.toS hf) hc
    have e0 := hc1.2.2.1
    have hi : i < n := by omega
    have i200 : i < 200 := by omega
    obtain ⟨a1, a2, a3, a4, a5, a6, a7, a8, a9, a10⟩ := hc1.2.2.2.2.2.1 i hi
    have wr := wi_rg hU i hi
    obtain ⟨q1, _⟩ := g4 i hi
    have en1 : (i : Int) + 1 = ((i + 1 : Nat) : Int) := by omega
    have hs1 : cFw T1 s := ⟨fun l hl => (hf.2.1 48 l (by show ¬ 48 = 50; decide)).trans (hs.1 l hl), fun l hl => (hf.2.1 49 l (by show ¬ 49 = 50; decide)).trans (hs.2.1 l hl), (hf.v id).trans hs.2.2.1, hs.2.2.2⟩
    have nx : ∀ (T2 : gT) (z : Int), mRw 50 T2 (cg c F (i + 1)) → f50 T T2 → gW (tP sa) lD b E (d + 2) mX1_findReached 23 [some (.ref (b + 47)), some (.ref (b + q)), some (.int (zI ((i : Int) + 1))), some (.int (zI z))] [] T2 (fun r T' => pV r (φ T')) := fun T2 z h1 h2 => by
      rw [en1]; exact ih (i + 1) T2 _ (Or.inr ⟨_, rfl⟩) (by omega) h1 h2
    have body : (¬ c i 0 = 11 → gW (tP sa) lD b E (d + 1 + 1) mX1_findReached 23 [some (.ref (b + 47)), some (.ref (b + q)), some (.int (zI ((i : Int) + 1))), some (.int (zI (wi c i)))] [] T1 (fun r T' => pV r (φ T'))) ∧ (c i 0 = 11 → ((wi c i < 0 → gW (tP sa) lD b E (d + 1 + 1) mX1_findReached 23 [some (.ref (b + 47)), some (.ref (b + q)), some (.int (zI ((i : Int) + 1))), some (.int (zI (wi c i)))] [] T1 (fun r T' => pV r (φ T'))) ∧ (¬ wi c i < 0 → ((50 ≤ wi c i → gW (tP sa) lD b E (d + 1 + 1) mX1_findReached 23 [some (.ref (b + 47)), some (.ref (b + q)), some (.int (zI ((i : Int) + 1))), some (.int (zI (wi c i)))] [] T1 (fun r T' => pV r (φ T'))) ∧ (¬ 50 ≤ wi c i → 0 ≤ wi c i ∧ wi c i < 50 ∧ gC (tP sa) lD b E (d + 1) mX1_ofPart [.ref (b + 47), .ref (b + q), .int (zI (i : Int)), .int (zI 0)] T1 (fun r T74 => pJ r (fun v74 => gW (tP sa) lD b E (d + 1 + 1) mX1_findReached 23 [some (.ref (b + 47)), some (.ref (b + q)), some (.int (zI ((i : Int) + 1))), some (.int (zI (wi c i)))] [] (gJ T74 50 (wi c i).toNat ((T1.2.1 50 (wi c i).toNat) ||| v74)) (fun r T' => pV r (φ T'))))))))) := by
      refine ⟨fun z => nx T1 _ (hR.eq (fun t _ => by rw [cg, if_neg (fun q => z q.1)])) hf, fun z => ⟨fun z2 => nx T1 _ (hR.eq (fun t _ => by rw [cg, if_neg (fun q => by have := q.2; omega)])) hf, fun z2 => ⟨fun z3 => by omega, fun z3 => ⟨by omega, by omega, ?_⟩⟩⟩⟩
      have r3 := q1.2.2.2.1 (by omega)
      obtain ⟨t, ht⟩ : ∃ t : Nat, wi c i = (t : Int) := ⟨(wi c i).toNat, by omega⟩
      have et := hR t (by omega)
      refine d_ofPart (i := 0) (m := (c i 3).toNat) hq hs1 i200 (by omega) (by rw [show ((0 : Nat) : Int) = 0 from rfl, (cP_pt hc1 hi).1]; omega) (by omega) ?_
      rw [ht, Int.toNat_natCast, et.1, hsF _ (by omega), lJ_or]
      refine nx _ _ (hR.up (Nat.or_lt_two_pow et.2 (hF _)) (fun u hu => ?_)) (hf.gJ rfl)
      rw [cg, ht]
      by_cases e : u = t
      · rw [if_pos e, e, if_pos ⟨z, rfl⟩]
      · rw [if_neg e, if_neg (fun q => e (by omega))]
    rcases h3 with h3 | ⟨z, h3⟩ <;> subst h3
    · refine w_X1_findReached_23 hq ?_
      unfold f_X1_findReached_23
      rw [aI_n i200, a1, aI_n i200, a6]
      exact ⟨by omega, fun z => absurd z (by omega), fun _ => body⟩
    · refine w_X1_findReached_23b hq ?_
      unfold f_X1_findReached_23b
      rw [aI_n i200, a1, aI_n i200, a6]
      exact ⟨by omega, fun z => absurd z (by omega), fun _ => body⟩
theorem d_findReached (hc : cPq T q c n nv nf) (hs : cFw T s) (K : ∀ T', mRw 50 T' (rc c n nf s.1) → f50 T T' → φ T') : gC (tP sa) lD b E (d + 2) mX1_findReached [.ref (b + 47), .ref (b + q)] T (fun r T' => pV r (φ T')) := by
  have hq := hc.2.1
  refine w_X1_findReached (d := d + 1) hq ?_
  unfold f_X1_findReached
  have lp : ∀ (j i : Nat) (T1 : gT), j + i = 50 → (∀ t, t < i → T1.2.1 50 t = 0) → f50 T T1 → gW (tP sa) lD b E (d + 1 + 1) mX1_findReached 2 [some (.ref (b + 47)), some (.ref (b + q)), some (.int (zI (i : Int))), none] [] T1 (fun r T' => pV r (φ T')) := by
    intro j
    induction j with
    | zero =>
      intro i T1 hj hR hf
      refine w_X1_findReached_2 hq ?_
      unfold f_X1_findReached_2
      refine ⟨by omega, fun _ => ?_, fun z => absurd z (by omega)⟩
      exact fr_cg (T := T) (F := s.1) hc hs.2.2.2.1 K hs (fun _ _ => rfl) n 0 T1 none (Or.inl rfl) (by omega) (fun t ht => ⟨hR t (by omega), by show (0 : Nat) < _; decide⟩) hf
    | succ j ih =>
      intro i T1 hj hR hf
      refine w_X1_findReached_2 hq ?_
      unfold f_X1_findReached_2
      rw [Int.toNat_natCast, show (i : Int) + 1 = ((i + 1 : Nat) : Int) by omega]
      refine ⟨by omega, fun z => absurd z (by omega), fun _ => ⟨by omega, by omega, ih (i + 1) _ (by omega) (fun t ht => ?_) (hf.gJ rfl)⟩⟩
      rw [gJ_J]
      by_cases e : t = i
      · rw [if_pos ⟨rfl, e⟩]
      · rw [if_neg (fun q => e q.2)]; exact hR t (by omega)
  exact lp 50 0 T rfl (fun t ht => by omega) fG.refl
/-- what solve leaves -/
def svK (T : gT) (c : Nat → Nat → Int) (n nv nf : Nat) (T' : gT) : Prop := (∀ l, l < n → T'.2.1 48 l = lJ (Fx c n l)) ∧ (∀ v, v < nv → T'.2.1 49 v = lJ (Gx c n v)) ∧ mRw 50 T' (Rx c n nf) ∧ cSf T T'
theorem sv_end (hc : cPq T q c n nv nf) (K : ∀ T', svK T c n nv nf T' → φ T') {T1 : gT} {s1 : fS} (hs : cFw T1 s1) (hf : cSf T T1) (hl : lst c n nv s1.1 s1.2.1) : gC (tP sa) lD b E (d + 2) mX1_findReached [.ref (b + 47), .ref (b + q)] T1 (fun r T122 => pV r ((fun r T' => pV r (φ T')) none T122)) := by
  have hw := hc.1
  have hn := hw.1
  have hnv := hw.2.1
  refine d_findReached (cSf.p hf hc) hs (fun T2 hR hf2 => ⟨rfl, K T2 ⟨fun l hl2 => ?_, fun v hv => ?_, ?_, hf.trans (f50.toS hf2)⟩⟩)
  · obtain ⟨e1, e2⟩ := lst_eq hl (fxs_ok hw).2
    rw [hf2.2.1 48 l (by show ¬ 48 = 50; decide), hs.1 l (by omega), e1 l hl2]
  · obtain ⟨e1, e2⟩ := lst_eq hl (fxs_ok hw).2
    rw [hf2.2.1 49 v (by show ¬ 49 = 50; decide), hs.2.1 v (by omega), e2 v hv]
  · obtain ⟨e1, e2⟩ := lst_eq hl (fxs_ok hw).2
    rw [show Rx c n nf = rc c n nf s1.1 from (rc_congr hw e1).symm]; exact hR
theorem sv_bk (hc : cPq T q c n nv nf) {l2 : Int} {s9 : fS} {Q : Option Value → gT → Prop} (K : ∀ T' (i : Int), cFw T' s9 → cFf T T' → gW (tP sa) lD b E (d + 4) mX1_solve 50 [some (.ref (b + 47)), some (.ref (b + q)), some (.int (zI (l2 + 1))), some (.int (zI i))] [] T' Q) :
    ∀ (j : Nat) (T1 : gT) (s1 : fS), j ≤ n → cFw T1 s1 → cFf T T1 → bkw c n j s1 = s9 → gW (tP sa) lD b E (d + 4) mX1_solve 98 [some (.ref (b + 47)), some (.ref (b + q)), some (.int (zI l2)), some (.int (zI ((j : Int) - 1)))] [] T1 Q := by
  have hn := hc.1.1
  have hq := hc.2.1
  intro j
  induction j with
  | zero =>
    intro T1 s1 hj hs hf he
    refine w_X1_solve_98 hq ?_
    unfold f_X1_solve_98
    exact ⟨by omega, fun _ => K T1 _ (by rw [← he]; exact hs) hf, fun z => absurd z (by omega)⟩
  | succ j ih =>
    intro T1 s1 hj hs hf he
    refine w_X1_solve_98 hq ?_
    unfold f_X1_solve_98
    rw [show ((j + 1 : Nat) : Int) - 1 = (j : Int) by omega]
    refine ⟨by omega, fun z => absurd z (by omega), fun _ => d_pour (l := j) (cFf.p hf hc) (by omega) hs (fun T2 hs2 hf2 => ?_)⟩
    exact ih T2 _ (by omega) hs2 (hf.trans hf2) he
theorem sv_fw (hc : cPq T q c n nv nf) {l2 : Int} {s9 : fS} {Q : Option Value → gT → Prop} (K : ∀ T' (i : Int), cFw T' (bkw c n n s9) → cFf T T' → gW (tP sa) lD b E (d + 4) mX1_solve 50 [some (.ref (b + 47)), some (.ref (b + q)), some (.int (zI (l2 + 1))), some (.int (zI i))] [] T' Q) :
    ∀ (j i : Nat) (T1 : gT) (s1 : fS), j + i = n → cFw T1 s1 → cFf T T1 → fwd c n j i s1 = s9 → gW (tP sa) lD b E (d + 4) mX1_solve 71 [some (.ref (b + 47)), some (.ref (b + q)), some (.int (zI l2)), some (.int (zI (i : Int)))] [] T1 Q := by
  have hn := hc.1.1
  have hq := hc.2.1
  intro j
  induction j with
  | zero =>
    intro i T1 s1 hj hs hf he
    have hc1 := cFf.p hf hc
    have e0 := hc1.2.2.1
    refine w_X1_solve_71 hq ?_
    unfold f_X1_solve_71
    rw [e0]
    refine ⟨by omega, fun _ => ?_, fun z => absurd z (by omega)⟩
    have he' : s1 = s9 := he
    subst he'
    exact sv_bk (T := T1) hc1 (fun T' i hs' hf' => K T' i hs' (hf.trans hf')) n T1 s1 (Nat.le_refl _) hs fG.refl rfl
  | succ j ih =>
    intro i T1 s1 hj hs hf he
    have hc1 := cFf.p hf hc
    have e0 := hc1.2.2.1
    refine w_X1_solve_71 hq ?_
    unfold f_X1_solve_71
    rw [e0]
    refine ⟨by omega, fun z => absurd z (by omega), fun _ => d_pour hc1 (by omega) hs (fun T2 hs2 hf2 => ?_)⟩
    rw [show (i : Int) + 1 = ((i + 1 : Nat) : Int) by omega]
    exact ih (i + 1) T2 _ (by omega) hs2 (hf.trans hf2) he
theorem sv_50 (hc : cPq T q c n nv nf) (K : ∀ T', svK T c n nv nf T' → φ T') :
    ∀ (m r : Nat) (T1 : gT) (s1 : fS) (L3 : Option Value), (L3 = none ∨ ∃ z, L3 = some (.int (zI z))) → m + r = 15001 → r ≤ mu s1 ∨ s1.2.2 = false → cFw T1 s1 → (∀ X Y, sol c n X Y → und s1 X Y n nv) → (s1.2.2 = false → sol c n s1.1 s1.2.1) → cSf T T1 → gW (tP sa) lD b E (d + 4) mX1_solve 50 [some (.ref (b + 47)), some (.ref (b + q)), some (.int (zI (r : Int))), L3] [] T1 (fun r T' => pV r (φ T')) := by
  have hw := hc.1
  have hq := hc.2.1
  intro m
  induction m with
  | zero =>
    intro r T1 s1 L3 h3 hm hr hs hU hS hf
    have hmu := mu_le (s := s1)
    have hfal : s1.2.2 = false := by rcases hr with z | z; omega; exact z
    have go := (sv_end (sa := sa) (b := b) (E := E) (d := d + 1) hc K hs hf ⟨hS hfal, hU⟩)
    rcases h3 with h3 | ⟨z, h3⟩ <;> subst h3
    · refine w_X1_solve_50 hq ?_
      unfold f_X1_solve_50
      exact ⟨by omega, fun _ => go, fun z => absurd z (by omega)⟩
    · refine w_X1_solve_50b hq ?_
      unfold f_X1_solve_50b
      exact ⟨by omega, fun _ => go, fun z => absurd z (by omega)⟩
  | succ m ih =>
    intro r T1 s1 L3 h3 hm hr hs hU hS hf
    have h28 := hs.2.2.1
    have body : (vI T1 47 3 = 0 → gC (tP sa) lD b E (d + 1 + 2) mX1_findReached [.ref (b + 47), .ref (b + q)] T1 (fun r T122 => pV r ((fun r T' => pV r (φ T')) none T122))) ∧ (¬ vI T1 47 3 = 0 → gW (tP sa) lD b E (d + 4) mX1_solve 71 [some (.ref (b + 47)), some (.ref (b + q)), some (.int (zI (r : Int))), some (.int (zI ((0 : Nat) : Int)))] [] (gI T1 47 3 (zI 0)) (fun r T' => pV r (φ T'))) := by
      refine ⟨fun z => ?_, fun z => ?_⟩
      · have z' : s1.2.2 = false := by
          cases y : s1.2.2 with
          | false => rfl
          | true => rw [y, if_pos rfl] at h28; omega
        exact sv_end hc K hs hf ⟨hS z', hU⟩
      · have z' : s1.2.2 = true := by
          cases y : s1.2.2 with
          | true => rfl
          | false => rw [y, if_neg (by decide)] at h28; omega
        have hr' : r ≤ mu s1 := by rcases hr with y | y; exact y; rw [z'] at y; cases y
        have hs0 : cFw (gI T1 47 3 (zI 0)) (s0 s1) := ⟨hs.1, hs.2.1, by rw [v_s (by omega)]; rfl, hs.2.2.2⟩
        have hf0 : cSf T (gI T1 47 3 (zI 0)) := hf.gI ⟨rfl, rfl⟩
        refine sv_fw (T := gI T1 47 3 (zI 0)) (cSf.p hf0 hc) (fun T2 i hs2 hf2 => ?_) n 0 _ (s0 s1) (by omega) hs0 fG.refl rfl
        have st := rnd_stp hw hs.2.2.2
        have hs2' : cFw T2 (rnd c n s1) := hs2
        rw [show (r : Int) + 1 = ((r + 1 : Nat) : Int) by omega]
        refine ih (r + 1) T2 (rnd c n s1) _ (Or.inr ⟨_, rfl⟩) (by omega) ?_ hs2' (fun X Y hX => rnd_und hw hX (hU X Y hX)) (fun y => ?_) (hf0.trans (cFf.toS hf2))
        · cases y : (rnd c n s1).2.2 with
          | false => exact Or.inr rfl
          | true =>
            have := st.2.2.2.2 rfl y
            have h3 : mu (s0 s1) = mu s1 := rfl
            left; omega
        · obtain ⟨e1, e2⟩ := rnd_no hw hs.2.2.2 y
          rw [e1]; exact e2
    rcases h3 with h3 | ⟨z, h3⟩ <;> subst h3
    · refine w_X1_solve_50 (d := d + 3) hq ?_
      unfold f_X1_solve_50
      exact ⟨by omega, fun z => absurd z (by omega), fun _ => body⟩
    · refine w_X1_solve_50b (d := d + 3) hq ?_
      unfold f_X1_solve_50b
      exact ⟨by omega, fun z => absurd z (by omega), fun _ => body⟩
theorem d_solve (hc : cPq T q c n nv nf) (K : ∀ T', svK T c n nv nf T' → φ T') : gC (tP sa) lD b E (d + 4) mX1_solve [.ref (b + 47), .ref (b + q)] T (fun r T' => pV r (φ T')) := by
  have hq := hc.2.1
  have lp2 : ∀ (j i : Nat) (T1 : gT), j + i = 100 → (∀ t, t < 200 → T1.2.1 48 t = 0) → (∀ t, t < i → T1.2.1 49 t = 0) → cSf T T1 → gW (tP sa) lD b E (d + 4) mX1_solve 24 [some (.ref (b + 47)), some (.ref (b + q)), some (.int (zI (i : Int))), none] [] T1 (fun r T' => pV r (φ T')) := by
    intro j
    induction j with
    | zero =>
      intro i T1 hj hA hB hf
      refine w_X1_solve_24 (d := d + 3) hq ?_
      unfold f_X1_solve_24
      refine ⟨by omega, fun _ => ?_, fun z => absurd z (by omega)⟩
      exact sv_50 (T := T) hc K 15001 0 _ zS none (Or.inl rfl) rfl (Or.inl (Nat.zero_le _)) ⟨fun l hl => hA l hl, fun l hl => hB l (by omega), by rw [v_s (by omega)]; rfl, zS_bnd⟩ (fun X Y _ => zS_und) (fun z => by cases z) (hf.gI ⟨rfl, rfl⟩)
    | succ j ih =>
      intro i T1 hj hA hB hf
      refine w_X1_solve_24 (d := d + 3) hq ?_
      unfold f_X1_solve_24
      rw [Int.toNat_natCast, show (i : Int) + 1 = ((i + 1 : Nat) : Int) by omega]
      refine ⟨by omega, fun z => absurd z (by omega), fun _ => ⟨by omega, by omega, ih (i + 1) _ (by omega) (fun t ht => ?_) (fun t ht => ?_) (hf.gJ (Or.inr (Or.inl rfl)))⟩⟩
      · rw [gJ_J, if_neg (by omega)]; exact hA t ht
      · rw [gJ_J]
        by_cases e : t = i
        · rw [if_pos ⟨rfl, e⟩]
        · rw [if_neg (fun q => e q.2)]; exact hB t (by omega)
  have lp : ∀ (j i : Nat) (T1 : gT), j + i = 200 → (∀ t, t < i → T1.2.1 48 t = 0) → cSf T T1 → gW (tP sa) lD b E (d + 4) mX1_solve 2 [some (.ref (b + 47)), some (.ref (b + q)), some (.int (zI (i : Int))), none] [] T1 (fun r T' => pV r (φ T')) := by
    intro j
    induction j with
    | zero =>
      intro i T1 hj hA hf
      refine w_X1_solve_2 (d := d + 3) hq ?_
      unfold f_X1_solve_2
      exact ⟨by omega, fun _ => lp2 100 0 T1 rfl (fun t ht => hA t (by omega)) (fun t ht => by omega) hf, fun z => absurd z (by omega)⟩
    | succ j ih =>
      intro i T1 hj hA hf
      refine w_X1_solve_2 (d := d + 3) hq ?_
      unfold f_X1_solve_2
      rw [Int.toNat_natCast, show (i : Int) + 1 = ((i + 1 : Nat) : Int) by omega]
      refine ⟨by omega, fun z => absurd z (by omega), fun _ => ⟨by omega, by omega, ih (i + 1) _ (by omega) (fun t ht => ?_) (hf.gJ (Or.inl rfl))⟩⟩
      rw [gJ_J]
      by_cases e : t = i
      · rw [if_pos ⟨rfl, e⟩]
      · rw [if_neg (fun q => e q.2)]; exact hA t (by omega)
  refine w_X1_solve (d := d + 3) hq ?_
  unfold f_X1_solve
  exact lp 200 0 T rfl (fun t ht => by omega) fG.refl
end SV
