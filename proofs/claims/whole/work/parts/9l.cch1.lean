/-! WHAT IS COPIED IS WHAT THE NEW PROGRAM HAS, but for its variables' numbers -/
section CH1
variable {c : Nat → Nat → Int} {n nv nf : Nat}
/-- a name: where its variable is bound -/
theorem scp (hw : wP c n nv nf) {k : Nat} (hk : k < n) (h0 : c k 0 = 0) : ∃ x j, c k 1 = ((x : Nat) : Int) ∧ j < k ∧ k < en c j ∧ vcn c j ≤ x ∧ x < vcn c (j + 1) ∧ (c j 0 = 2 ∨ c j 0 = 3 ∨ c j 0 = 5) := by
  obtain ⟨f, vs, v0, v1, f0, f1, h, _, _, _, _, hs, _⟩ := hw.at hk
  obtain ⟨x, hx, e⟩ := (wf_hd h).2.2.2 h0
  obtain ⟨_, j, hj, hj2, hb⟩ := hs x hx
  obtain ⟨o1, o2, o3, _⟩ := own hw (show j < n by omega)
  refine ⟨x, j, e, hj, hj2, ?_⟩
  rw [vcn]
  unfold bdr at hb
  rcases hb with ⟨hb, e1⟩ | ⟨hb, e1⟩
  · rcases hb with hb | hb | hb
    · have := o1 hb; rw [if_neg (by omega), if_pos (by omega)]; omega
    · have := o2 hb; rw [if_pos hb]; omega
    · have := o3 hb; rw [if_neg (by omega), if_pos (by omega)]; omega
  · have := o2 hb; rw [if_pos hb]; omega
/-- a label is copied: the token of j is that of k in the new program -/
def tk1 (c c' : Nat → Nat → Int) (old : Nat → Nat) (sh : Int) (j k : Nat) : Prop := c' k 0 = c j 0 ∧ tV c' old k = c j 1 + hV c j * sh ∧ tS c' old k = c j 2 + hS c j * sh
theorem tk_of {c' : Nat → Nat → Int} {old : Nat → Nat} {sh : Nat} {j k : Nat} (hw : wP c n nv nf) (hj : j < n) (e0 : c' k 0 = c j 0) (e1 : c j 0 = 1 → c' k 1 = c j 1) (ev : c j 0 = 0 ∨ c j 0 = 2 ∨ c j 0 = 3 ∨ c j 0 = 5 → ∃ w : Nat, c' k 1 = (w : Int) ∧ (old w : Int) = c j 1 + sh) (en' : c j 0 = 4 ∨ 6 ≤ c j 0 → c' k 1 = -1) (es : c j 0 = 3 → ∃ w : Nat, c' k 2 = (w : Int) ∧ (old w : Int) = c j 2 + sh) (e2 : c j 0 ≠ 3 → c' k 2 = -1) : tk1 c c' old (sh : Int) j k := by
  have kr := (kid hw hj).1
  have c2 := c2_no hw hj
  have c1 : c j 0 = 4 ∨ 6 ≤ c j 0 → c j 1 = -1 := fun z => by
    obtain ⟨f, vs, h, _⟩ := hw.at2 hj
    cases f with
    | zero => exact h.elim
    | succ f =>
      obtain ⟨_, h⟩ := h
      rcases h with h | h | h | h | h | h | h <;> omega
  refine ⟨e0, ?_, ?_⟩
  · unfold tV hV
    rw [e0]
    by_cases z : c j 0 = 0 ∨ c j 0 = 2 ∨ c j 0 = 3 ∨ c j 0 = 5
    · rw [if_pos z, if_pos z]
      obtain ⟨w, w1, w2⟩ := ev z
      rw [w1, Int.toNat_natCast, w2]; omega
    · rw [if_neg z, if_neg z, Int.zero_mul, Int.add_zero]
      by_cases z1 : c j 0 = 1
      · exact e1 z1
      · rw [en' (by omega), c1 (by omega)]
  · unfold tS hS
    rw [e0]
    by_cases z : c j 0 = 3
    · rw [if_pos z, if_pos z]
      obtain ⟨w, w1, w2⟩ := es z
      rw [w1, Int.toNat_natCast, w2]; omega
    · rw [if_neg z, if_neg z, Int.zero_mul, Int.add_zero, e2 z, c2 z]
/-- the variables of a label -/
theorem ownr (hw : wP c n nv nf) {j : Nat} (hj : j < n) : (c j 0 = 2 ∨ c j 0 = 3 ∨ c j 0 = 5 → ∃ v : Nat, c j 1 = (v : Int) ∧ vcn c j ≤ v ∧ v < vcn c (j + 1)) ∧ (c j 0 = 3 → ∃ v : Nat, c j 2 = (v : Int) ∧ vcn c j ≤ v ∧ v < vcn c (j + 1)) := by
  obtain ⟨o1, o2, o3, _⟩ := own hw hj
  rw [vcn]
  refine ⟨fun z => ?_, fun z => ?_⟩
  · rcases z with z | z | z
    · exact ⟨vcn c j, o1 z, by omega, by rw [if_neg (by omega), if_pos (by omega)]; omega⟩
    · exact ⟨vcn c j + 1, by rw [(o2 z).1]; omega, by omega, by rw [if_pos z]; omega⟩
    · exact ⟨vcn c j, o3 z, by omega, by rw [if_neg (by omega), if_pos (by omega)]; omega⟩
  · exact ⟨vcn c j, (o2 z).2, by omega, by rw [if_pos z]; omega⟩
/-- a label that keeps outside L -/
theorem tk_out {c' : Nat → Nat → Int} {old : Nat → Nat} {L E' V' j k : Nat} (hw : wP c n nv nf) (hL : L < n) (hj : j < n) (hjL : j < L ∨ en c L ≤ j) (he : ∀ w, w < 7 → c' k w = moC c L (en c L) E' (vcn c L) (vcn c (en c L)) V' j w) (ho1 : ∀ v, v < vcn c L → old v = v) (ho2 : ∀ v, vcn c (en c L) ≤ v → v < nv → old (v + V' - vcn c (en c L)) = v) : tk1 c c' old 0 j k := by
  have q0 := he 0 (by omega)
  have q1 := he 1 (by omega)
  have q2 := he 2 (by omega)
  unfold moC at q0 q1 q2
  rw [if_pos rfl] at q0
  rw [if_neg (by omega), if_pos rfl] at q1
  rw [if_neg (by omega), if_neg (by omega), if_pos rfl] at q2
  have hvn := vcn_nv hw
  have kr := (kid hw hj).1
  have eL1 := (kid hw hL).2.1
  have eL2 := (kid hw hL).2.2.1
  -- variables seen there are kept
  have mu : ∀ v, v < vcn c L ∨ (vcn c (en c L) ≤ v ∧ v < nv) → old (muM (vcn c L) (vcn c (en c L)) V' v) = v := fun v hv => by
    unfold muM
    by_cases z : v < vcn c L
    · rw [if_pos z]; exact ho1 v z
    · rw [if_neg z]
      exact ho2 v (by omega) (by omega)
  have bnd : ∀ (a v : Nat), (a < L ∨ en c L ≤ a) → a < n → vcn c a ≤ v → v < vcn c (a + 1) → v < vcn c L ∨ (vcn c (en c L) ≤ v ∧ v < nv) := fun a v ha han v1 v2 => by
    rcases ha with ha | ha
    · have := vcn_mono (c := c) (show a + 1 ≤ L by omega); left; omega
    · have := vcn_mono (c := c) ha; have := vcn_mono (c := c) (show a + 1 ≤ n by omega); right; omega
  obtain ⟨w1, w2⟩ := ownr hw hj
  have := tk_of (c' := c') (old := old) (sh := 0) (k := k) hw hj q0 (fun z => by rw [q1, if_pos z]) (fun z => ?_) (fun z => by rw [q1, if_neg (by omega), if_neg (by omega)]) (fun z => ?_) (fun z => by rw [q2, if_neg z])
  · exact this
  · refine ⟨muM (vcn c L) (vcn c (en c L)) V' (c j 1).toNat, by rw [q1, if_neg (by omega), if_pos z], ?_⟩
    by_cases z0 : c j 0 = 0
    · obtain ⟨x, a, ex, a1, a2, a3, a4, _⟩ := scp hw hj z0
      clear w1 w2
      rw [ex, Int.toNat_natCast, mu x (bnd a x ?_ (by omega) a3 a4)]
      · omega
      · by_cases y : a < L
        · exact Or.inl y
        · right
          by_cases y2 : en c L ≤ a
          · exact y2
          · exfalso
            have := (hw.nest hL (show L ≤ a by omega) (by omega)).1
            omega
    · obtain ⟨v, e, v1, v2⟩ := w1 (by omega)
      rw [e, Int.toNat_natCast, mu v (bnd j v hjL hj v1 v2)]; omega
  · refine ⟨muM (vcn c L) (vcn c (en c L)) V' (c j 2).toNat, by rw [q2, if_pos z], ?_⟩
    obtain ⟨v, e, v1, v2⟩ := w2 z
    rw [e, Int.toNat_natCast, mu v (bnd j v hjL hj v1 v2)]; omega
/-- a label of a stretch that moves: A is an expr, its own variables from vcn A on -/
theorem tk_mov {c' : Nat → Nat → Int} {old : Nat → Nat} {A B Bv : Nat} {R : Nat → Nat} {up : Int} {sh j k : Nat} (hw : wP c n nv nf) (hA : A < n) (hj1 : A ≤ j) (hj2 : j < en c A) (he : ∀ w, w < 7 → c' k w = mvC c A B (vcn c A) Bv R up A j w)
    (ho1 : ∀ v, vcn c A ≤ v → v < vcn c (en c A) → old (v + Bv - vcn c A) = v + sh ∧ R v = v + Bv - vcn c A) (ho2 : ∀ v a, c j 0 = 0 → c j 1 = ((v : Nat) : Int) → a < A → j < en c a → vcn c a ≤ v → v < vcn c (a + 1) → (c a 0 = 2 ∨ c a 0 = 3 ∨ c a 0 = 5) → old (R v) = v + sh) : tk1 c c' old (sh : Int) j k := by
  have q0 := he 0 (by omega)
  have q1 := he 1 (by omega)
  have q2 := he 2 (by omega)
  unfold mvC at q0 q1 q2
  rw [if_pos rfl] at q0
  rw [if_neg (by omega), if_pos rfl] at q1
  rw [if_neg (by omega), if_neg (by omega), if_pos rfl] at q2
  obtain ⟨_, eA1, eA2, _⟩ := kid hw hA
  have hj : j < n := by omega
  have kr := (kid hw hj).1
  have m1 := vcn_mono (c := c) hj1
  have m2 := vcn_mono (c := c) (show j + 1 ≤ en c A by omega)
  obtain ⟨w1, w2⟩ := ownr hw hj
  refine tk_of (c' := c') (old := old) (sh := sh) (k := k) hw hj q0 (fun z => by rw [q1, if_pos z]) (fun z => ?_) (fun z => by rw [q1, if_neg (by omega), if_neg (by omega), if_neg (by omega)]) (fun z => ?_) (fun z => by rw [q2, if_neg z])
  · by_cases z0 : c j 0 = 0
    · refine ⟨R (c j 1).toNat, by rw [q1, if_neg (by omega), if_pos z0], ?_⟩
      obtain ⟨x, a, ex, a1, a2, a3, a4, a5⟩ := scp hw hj z0
      rw [ex, Int.toNat_natCast]
      by_cases y : a < A
      · rw [ho2 x a z0 ex y a2 a3 a4 a5]; omega
      · have n1 := (hw.nest hA (show A ≤ a by omega) (by omega)).1
        have n2 := vcn_mono (c := c) (show a + 1 ≤ en c A by omega)
        have n3 := vcn_mono (c := c) (show A ≤ a by omega)
        obtain ⟨p1, p2⟩ := ho1 x (by omega) (by omega)
        rw [p2, p1]; omega
    · obtain ⟨v, e, v1, v2⟩ := w1 (by omega)
      obtain ⟨p1, p2⟩ := ho1 v (by omega) (by omega)
      refine ⟨v + Bv - vcn c A, by rw [q1, if_neg (by omega), if_neg (by omega), if_pos (by omega), e]; omega, by rw [p1, e]; omega⟩
  · obtain ⟨v, e, v1, v2⟩ := w2 z
    obtain ⟨p1, p2⟩ := ho1 v (by omega) (by omega)
    exact ⟨v + Bv - vcn c A, by rw [q2, if_pos z, e]; omega, by rw [p1, e]; omega⟩
/-! dropping -/
def dO (c : Nat → Nat → Int) (L w : Nat) : Nat := if w < vcn c L then w else if w < dV c L then w + vcn c (c L 4).toNat - vcn c L else w + vcn c (en c L) - dV c L
theorem drop_tk (hw : wP c n nv nf) {L : Nat} (hL : L < n) (hd : drP c n L) : L ≤ (c L 4).toNat ∧ (c L 4).toNat ≤ en c L ∧ en c L ≤ n ∧ n + dE c L - en c L = L + (en c L - (c L 4).toNat) + (n - en c L) ∧ okO (dO c L) (nv + dV c L - vcn c (en c L)) ∧ (∀ j, j < L → tk1 c (dC c L) (dO c L) 0 j j) ∧ (∀ i, i < en c L - (c L 4).toNat → tk1 c (dC c L) (dO c L) 0 ((c L 4).toNat + i) (L + i)) ∧ (∀ i, i < n - en c L → tk1 c (dC c L) (dO c L) 0 (en c L + i) (L + (en c L - (c L 4).toNat) + i)) := by
  obtain ⟨f, vs, h, h2, h3, n1, n2, n3, n4, n5, n6, n7, n8, _⟩ := nums hw hL (Or.inl hd.1)
  clear h h3 n8
  have hn := hw.1
  have hnv := hw.2.1
  have hvn := vcn_nv hw
  have mE := vcn_mono (c := c) h2
  have hdE : dE c L = L + (en c L - (c L 4).toNat) := rfl
  have hdV : dV c L = vcn c L + (vcn c (en c L) - vcn c (c L 4).toNat) := rfl
  obtain ⟨_, _, _, hk⟩ := kid hw hL
  have em : en c (c L 4).toNat = en c L := by
    rcases hk with hk | hk | hk | hk
    · have := hd.1; omega
    · have := hd.1; omega
    · have := hd.1; have := hk.1; omega
    · obtain ⟨_, m, p0, p1, _, _, e1, _⟩ := hk
      have : c L 4 = (m : Int) := p1.1
      rw [this, Int.toNat_natCast]; exact e1
  have em1 : en c (L + 1) = (c L 4).toNat := by
    rcases hk with hk | hk | hk | hk
    · have := hd.1; omega
    · have := hd.1; omega
    · have := hd.1; have := hk.1; omega
    · obtain ⟨_, m, p0, p1, _, e1, _⟩ := hk
      have : c L 4 = (m : Int) := p1.1
      rw [this, Int.toNat_natCast]; exact e1
  clear hk
  have o1 : ∀ v, v < vcn c L → dO c L v = v := fun v hv => by unfold dO; rw [if_pos hv]
  have o2 : ∀ v, vcn c (en c L) ≤ v → dO c L (v + dV c L - vcn c (en c L)) = v := fun v hv => by
    unfold dO; rw [if_neg (by omega), if_neg (by omega)]; omega
  have o3 : ∀ v, vcn c (c L 4).toNat ≤ v → v < vcn c (en c L) → dO c L (v + vcn c L - vcn c (c L 4).toNat) = v := fun v hv hv2 => by
    unfold dO; rw [if_neg (by omega), if_pos (by omega)]; omega
  refine ⟨by omega, by omega, h2, by omega, ⟨fun v hv => ?_, fun v w hv hw' e => ?_⟩, fun j hj => ?_, fun i hi => ?_, fun i hi => ?_⟩
  · unfold dO; split <;> (try split) <;> omega
  · unfold dO at e
    revert e
    split <;> (try split) <;> (try split) <;> (try split) <;> omega
  · refine tk_out (L := L) (E' := dE c L) (V' := dV c L) hw hL (by omega) (Or.inl hj) (fun w hw7 => ?_) o1 (fun v v1 _ => o2 v v1)
    unfold dC; rw [if_pos hj]
  · refine tk_mov (A := (c L 4).toNat) (B := L) (Bv := vcn c L) (R := dR c L) (up := c L 6) (sh := 0) hw (by omega) (by omega) (by omega) (fun w hw7 => ?_) (fun v v1 v2 => ⟨?_, ?_⟩) (fun v a k0 k1 a1 a2 a3 a4 a5 => ?_)
    · unfold dC; rw [if_neg (by omega), if_pos (by omega), show L + i + (c L 4).toNat - L = (c L 4).toNat + i by omega]
    · rw [em] at v2; exact o3 v v1 v2
    · unfold dR; rw [if_neg (by omega)]
    · -- bound outside: below L
      have : v < vcn c L := by
        by_cases y : a < L
        · have := vcn_mono (c := c) (show a + 1 ≤ L by omega); omega
        by_cases y2 : a = L
        · -- the let's own: nobody names it
          exfalso
          have e1 := (own hw hL).2.2.1 hd.1
          rw [y2, vcn, if_neg (by have := hd.1; omega), if_pos (Or.inr hd.1)] at a4
          rw [y2] at a3
          have hv : v = vcn c L := by omega
          have hm := hd.2.1
          rw [e1, Int.toNat_natCast] at hm
          exact mcn_all hm (show (c L 4).toNat + i < n by omega) ⟨k0, by rw [k1, hv]⟩
        · exfalso
          have := (hw.nest (l := L + 1) (k := a) (by omega) (by omega) (by omega)).1
          omega
      unfold dR
      rw [if_pos (by omega)]
      exact o1 v this
  · refine tk_out (L := L) (E' := dE c L) (V' := dV c L) hw hL (by omega) (Or.inr (by omega)) (fun w hw7 => ?_) o1 (fun v v1 _ => o2 v v1)
    unfold dC; rw [if_neg (by omega), if_neg (by omega), show L + (en c L - (c L 4).toNat) + i + en c L - dE c L = en c L + i by omega]
/-! putting in place -/
def iO (c : Nat → Nat → Int) (L g w : Nat) : Nat := if w < vcn c L then w else if w = vcn c L then vcn c g + 100 else if w < iW c L then w + vcn c (c L 4).toNat - (vcn c L + 1) else if w < iV c L g then w + vcn c (g + 1) - iW c L + 100 else w + vcn c (en c L) - iV c L g
theorem inl_tk (hw : wP c n nv nf) {L g : Nat} (hL : L < n) (hk : c L 0 = 11) (hg : g < n) (hg2 : c g 0 = 2) (hfr : frc c g = 0) (r2 : nv + iV c L g - vcn c (en c L) ≤ 100) : L + 1 < (c L 4).toNat ∧ (c L 4).toNat < en c L ∧ en c L ≤ n ∧ c L 4 = ((c L 4).toNat : Int) ∧ en c (c L 4).toNat = en c L ∧ c g 3 = ((g + 1 : Nat) : Int) ∧ g + 1 < en c g ∧ en c (g + 1) = en c g ∧ en c g ≤ n ∧ okO (iO c L g) (nv + iV c L g - vcn c (en c L)) ∧ (∀ j, j < L → tk1 c (iC c L g) (iO c L g) 0 j j) ∧
    (iC c L g L 0 = 5 ∧ tV (iC c L g) (iO c L g) L = c g 1 + 100 ∧ tS (iC c L g) (iO c L g) L = -1) ∧ (∀ i, i < en c L - (c L 4).toNat → tk1 c (iC c L g) (iO c L g) 0 ((c L 4).toNat + i) (L + 1 + i)) ∧ (∀ i, i < en c g - (g + 1) → tk1 c (iC c L g) (iO c L g) 100 (g + 1 + i) (iK c L + i)) ∧ (∀ i, i < n - en c L → tk1 c (iC c L g) (iO c L g) 0 (en c L + i) (iE c L g + i)) := by
  obtain ⟨f, vs, h, h2, h3, n1, n2, n3, n4, n5, n6, n7, n8, _⟩ := nums hw hL (Or.inr hk)
  clear h h3 n8
  have hn := hw.1
  have hnv := hw.2.1
  have hvn := vcn_nv hw
  have mE := vcn_mono (c := c) h2
  obtain ⟨_, _, _, hkk⟩ := kid hw hL
  obtain ⟨_, gl, gn, hgk⟩ := kid hw hg
  have em : en c (c L 4).toNat = en c L ∧ en c (L + 1) = (c L 4).toNat := by
    rcases hkk with hkk | hkk | hkk | hkk
    · omega
    · omega
    · have := hkk.1; omega
    · obtain ⟨_, m, p0, p1, _, e0, e1, _⟩ := hkk
      have : c L 4 = (m : Int) := p1.1
      rw [this, Int.toNat_natCast]; exact ⟨e1, e0⟩
  have eg : c g 3 = ((g + 1 : Nat) : Int) ∧ en c (g + 1) = en c g ∧ g + 1 < n := by
    rcases hgk with hgk | hgk | hgk | hgk
    · omega
    · exact ⟨hgk.2.1.1, hgk.2.2.2.2, hgk.2.1.2.2.1⟩
    · have := hgk.1; omega
    · have := hgk.1; omega
  clear hkk hgk
  have gl2 := (kid hw eg.2.2).2.1
  have vg1 : vcn c (g + 1) = vcn c g + 1 := by rw [vcn, if_neg (by omega), if_pos (Or.inl hg2)]
  have mg := vcn_mono (c := c) (show g + 1 ≤ en c g by omega)
  have mg2 := vcn_mono (c := c) (show en c g ≤ n by omega)
  have hK : iK c L = L + 1 + (en c L - (c L 4).toNat) := rfl
  have hE : iE c L g = iK c L + (en c g - (g + 1)) := rfl
  have hW : iW c L = vcn c L + 1 + (vcn c (en c L) - vcn c (c L 4).toNat) := rfl
  have hV' : iV c L g = iW c L + (vcn c (en c g) - vcn c (g + 1)) := rfl
  have o1 : ∀ v, v < vcn c L → iO c L g v = v := fun v hv => by unfold iO; rw [if_pos hv]
  have o2 : ∀ v, vcn c (en c L) ≤ v → iO c L g (v + iV c L g - vcn c (en c L)) = v := fun v hv => by
    unfold iO; rw [if_neg (by omega), if_neg (by omega), if_neg (by omega), if_neg (by omega)]; omega
  have oL : iO c L g (vcn c L) = vcn c g + 100 := by unfold iO; rw [if_neg (by omega), if_pos rfl]
  have o3 : ∀ v, vcn c (c L 4).toNat ≤ v → v < vcn c (en c L) → iO c L g (v + (vcn c L + 1) - vcn c (c L 4).toNat) = v := fun v hv hv2 => by
    unfold iO; rw [if_neg (by omega), if_neg (by omega), if_pos (by omega)]; omega
  have o4 : ∀ v, vcn c (g + 1) ≤ v → v < vcn c (en c g) → iO c L g (v + iW c L - vcn c (g + 1)) = v + 100 := fun v hv hv2 => by
    unfold iO; rw [if_neg (by omega), if_neg (by omega), if_neg (by omega), if_pos (by omega)]; omega
  refine ⟨n1, n2, h2, n3, em.1, eg.1, by omega, eg.2.1, gn, ⟨fun v hv => ?_, fun v w hv hw' e => ?_⟩, fun j hj => ?_, ⟨?_, ?_, ?_⟩, fun i hi => ?_, fun i hi => ?_, fun i hi => ?_⟩
  · unfold iO; split <;> (try split) <;> (try split) <;> (try split) <;> omega
  · unfold iO at e
    revert e
    repeat' split
    all_goals omega
  · refine tk_out (L := L) (E' := iE c L g) (V' := iV c L g) hw hL (by omega) (Or.inl hj) (fun w hw7 => ?_) o1 (fun v v1 _ => o2 v v1)
    unfold iC; rw [if_pos hj]
  · unfold iC; rw [if_neg (by omega), if_pos rfl]; rfl
  · have e0 : iC c L g L 0 = 5 := by unfold iC; rw [if_neg (by omega), if_pos rfl]; rfl
    have e1 : iC c L g L 1 = (vcn c L : Int) := by unfold iC; rw [if_neg (by omega), if_pos rfl]; rfl
    unfold tV
    rw [e0, if_pos (by omega), e1, Int.toNat_natCast, oL, (own hw hg).1 hg2]; omega
  · have e0 : iC c L g L 0 = 5 := by unfold iC; rw [if_neg (by omega), if_pos rfl]; rfl
    have e2 : iC c L g L 2 = -1 := by unfold iC; rw [if_neg (by omega), if_pos rfl]; rfl
    unfold tS
    rw [e0, if_neg (by omega), e2]
  · refine tk_mov (A := (c L 4).toNat) (B := L + 1) (Bv := vcn c L + 1) (R := iRa c L) (up := (L : Int)) (sh := 0) hw (by omega) (by omega) (by omega) (fun w hw7 => ?_) (fun v v1 v2 => ⟨?_, ?_⟩) (fun v a k0 k1 a1 a2 a3 a4 a5 => ?_)
    · unfold iC; rw [if_neg (by omega), if_neg (by omega), if_pos (by omega), show L + 1 + i + (c L 4).toNat - (L + 1) = (c L 4).toNat + i by omega]
    · rw [em.1] at v2; exact o3 v v1 v2
    · unfold iRa; rw [if_neg (by omega)]
    · have : v < vcn c L := by
        by_cases y : a < L
        · have := vcn_mono (c := c) (show a + 1 ≤ L by omega); omega
        by_cases y2 : a = L
        · rw [y2] at a5; omega
        · exfalso
          have := (hw.nest (l := L + 1) (k := a) (by omega) (by omega) (by omega)).1
          omega
      unfold iRa
      rw [if_pos (by omega)]
      exact o1 v this
  · refine tk_mov (A := g + 1) (B := iK c L) (Bv := iW c L) (R := iRb c L g) (up := (L : Int)) (sh := 100) hw eg.2.2 (by omega) (by omega) (fun w hw7 => ?_) (fun v v1 v2 => ⟨?_, ?_⟩) (fun v a k0 k1 a1 a2 a3 a4 a5 => ?_)
    · unfold iC; rw [if_neg (by omega), if_neg (by omega), if_neg (by omega), if_pos (by omega), show iK c L + i + (g + 1) - iK c L = g + 1 + i by omega]
    · rw [eg.2.1] at v2; exact o4 v v1 v2
    · unfold iRb; rw [if_neg (by omega)]
    · -- it is g's own variable: nothing is free in g
      have : v = vcn c g := by
        by_cases y : a = g
        · rw [y] at a3 a4; omega
        · exfalso
          have hv : v < vcn c g := by have := vcn_mono (c := c) (show a + 1 ≤ g by omega); omega
          rw [frc_u hw hg (Or.inl hg2)] at hfr
          have hz := sm_zero hfr v (by omega)
          rw [b1_p] at hz
          · cases hz
          · exact ⟨(mcn_ne (en c g) (by omega)).mpr ⟨g + 1 + i, by omega, by omega, k0, k1⟩, hv⟩
      unfold iRb
      rw [if_pos (by omega), oL, this]
  · refine tk_out (L := L) (E' := iE c L g) (V' := iV c L g) hw hL (by omega) (Or.inr (by omega)) (fun w hw7 => ?_) o1 (fun v v1 _ => o2 v v1)
    unfold iC; rw [if_neg (by omega), if_neg (by omega), if_neg (by omega), if_neg (by omega), show iE c L g + i + en c L - iE c L g = en c L + i by omega]
end CH1
