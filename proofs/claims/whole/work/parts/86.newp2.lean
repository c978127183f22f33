/-! dropping -/
def dE (c : Nat → Nat → Int) (L : Nat) : Nat := L + (en c L - (c L 4).toNat)
def dV (c : Nat → Nat → Int) (L : Nat) : Nat := vcn c L + (vcn c (en c L) - vcn c (c L 4).toNat)
def dF (c : Nat → Nat → Int) (L : Nat) : Nat := fcn c L + (fcn c (en c L) - fcn c (c L 4).toNat)
def dR (c : Nat → Nat → Int) (L y : Nat) : Nat := if y < vcn c (c L 4).toNat then y else y + vcn c L - vcn c (c L 4).toNat
def dC (c : Nat → Nat → Int) (L k w : Nat) : Int :=
  if k < L then moC c L (en c L) (dE c L) (vcn c L) (vcn c (en c L)) (dV c L) k w
  else if k < dE c L then mvC c (c L 4).toNat L (vcn c (c L 4).toNat) (vcn c L) (dR c L) (c L 6) (c L 4).toNat (k + (c L 4).toNat - L) w
  else moC c L (en c L) (dE c L) (vcn c L) (vcn c (en c L)) (dV c L) (k + en c L - dE c L) w
def dP (x : aPg) (L : Nat) : aPg := (dC x.1 L, x.2.1 + dE x.1 L - en x.1 L, x.2.2.1 + dV x.1 L - vcn x.1 (en x.1 L), x.2.2.2 + dF x.1 L - fcn x.1 (en x.1 L))
/-! putting in place -/
def iK (c : Nat → Nat → Int) (L : Nat) : Nat := L + 1 + (en c L - (c L 4).toNat)
def iE (c : Nat → Nat → Int) (L g : Nat) : Nat := iK c L + (en c g - (g + 1))
def iW (c : Nat → Nat → Int) (L : Nat) : Nat := vcn c L + 1 + (vcn c (en c L) - vcn c (c L 4).toNat)
def iV (c : Nat → Nat → Int) (L g : Nat) : Nat := iW c L + (vcn c (en c g) - vcn c (g + 1))
def iF (c : Nat → Nat → Int) (L g : Nat) : Nat := fcn c L + (fcn c (en c L) - fcn c (c L 4).toNat) + (fcn c (en c g) - fcn c (g + 1))
def iRa (c : Nat → Nat → Int) (L y : Nat) : Nat := if y < vcn c (c L 4).toNat then y else y + (vcn c L + 1) - vcn c (c L 4).toNat
def iRb (c : Nat → Nat → Int) (L g y : Nat) : Nat := if y < vcn c (g + 1) then vcn c L else y + iW c L - vcn c (g + 1)
def iC (c : Nat → Nat → Int) (L g k w : Nat) : Int :=
  if k < L then moC c L (en c L) (iE c L g) (vcn c L) (vcn c (en c L)) (iV c L g) k w
  else if k = L then xTok 5 (vcn c L : Int) (-1) ((L + 1 : Nat) : Int) (iK c L : Int) (-1) (c L 6) w
  else if k < iK c L then mvC c (c L 4).toNat (L + 1) (vcn c (c L 4).toNat) (vcn c L + 1) (iRa c L) (L : Int) (c L 4).toNat (k + (c L 4).toNat - (L + 1)) w
  else if k < iE c L g then mvC c (g + 1) (iK c L) (vcn c (g + 1)) (iW c L) (iRb c L g) (L : Int) (g + 1) (k + (g + 1) - iK c L) w
  else moC c L (en c L) (iE c L g) (vcn c L) (vcn c (en c L)) (iV c L g) (k + en c L - iE c L g) w
def iP (x : aPg) (L g : Nat) : aPg := (iC x.1 L g, x.2.1 + iE x.1 L g - en x.1 L, x.2.2.1 + iV x.1 L g - vcn x.1 (en x.1 L), x.2.2.2 + iF x.1 L g - fcn x.1 (en x.1 L))
section NW
variable {c : Nat → Nat → Int} {n nv nf : Nat}
theorem mcn_all {v : Nat} (h : mcn c v n = 0) {k : Nat} (hk : k < n) : ¬ (c k 0 = 0 ∧ c k 1 = (v : Int)) := by
  intro q
  have h1 := mcn_mono (c := c) (v := v) (show k + 1 ≤ n by omega)
  rw [mcn, if_pos q] at h1
  omega
/-- the numbers of a let or a call at L -/
theorem nums (hw : wP c n nv nf) {L : Nat} (hL : L < n) (hk : c L 0 = 5 ∨ c L 0 = 11) : ∃ f vs, wf c (f + 1) L (en c L) (c L 6) vs (vcn c L) (vcn c (en c L)) (fcn c L) (fcn c (en c L)) ∧ en c L ≤ n ∧ (∀ x, x ∈ vs → x < vcn c L) ∧ L + 1 < (c L 4).toNat ∧ (c L 4).toNat < en c L ∧ c L 4 = ((c L 4).toNat : Int) ∧ vcn c L ≤ vcn c (c L 4).toNat ∧ vcn c (c L 4).toNat ≤ vcn c (en c L) ∧ fcn c L ≤ fcn c (c L 4).toNat ∧ fcn c (c L 4).toNat ≤ fcn c (en c L) ∧
    (c L 0 = 5 → c L 1 = (vcn c L : Int) ∧ wf c f (c L 4).toNat (en c L) (L : Int) (vcn c L :: vs) (vcn c (c L 4).toNat) (vcn c (en c L)) (fcn c (c L 4).toNat) (fcn c (en c L))) ∧
    (c L 0 = 11 → wf c f (c L 4).toNat (en c L) (L : Int) vs (vcn c (c L 4).toNat) (vcn c (en c L)) (fcn c (c L 4).toNat) (fcn c (en c L))) := by
  obtain ⟨f, vs, h, h2, h3⟩ := hw.at2 hL
  cases f with
  | zero => exact h.elim
  | succ f =>
    have hh := h
    obtain ⟨_, h⟩ := h
    have hv' : vcn c (L + 1) = vcn c L + (if c L 0 = 3 then 2 else if c L 0 = 2 ∨ c L 0 = 5 then 1 else 0) := rfl
    have hf' : fcn c (L + 1) = fcn c L + (if c L 0 = 2 ∨ c L 0 = 3 then 1 else 0) := rfl
    rcases h with h | h | h | h | h | h | h
    · omega
    · omega
    · omega
    · omega
    · obtain ⟨k0, k1, _, _, _, m, v, g, k4, h1, h2'⟩ := h
      rw [if_neg (by omega), if_pos (Or.inr k0)] at hv'; rw [if_neg (by omega)] at hf'
      have a1 := wf_lt _ _ _ _ _ _ _ _ _ h1
      have a2 := wf_lt _ _ _ _ _ _ _ _ _ h2'
      have b1 := wf_cnt _ _ _ _ _ _ _ _ _ h1
      obtain rfl : v = vcn c m := by omega
      obtain rfl : g = fcn c m := by omega
      have em : (c L 4).toNat = m := by omega
      rw [em]
      exact ⟨f, vs, hh, h2, h3, by omega, by omega, k4, by omega, by omega, by omega, by omega, fun _ => ⟨k1, h2'⟩, fun z => by omega⟩
    · omega
    · obtain ⟨k0, _, _, _, _, m, v, g, k4, h1, h2'⟩ := h
      rw [if_neg (by omega), if_neg (by omega)] at hv'; rw [if_neg (by omega)] at hf'
      have a1 := wf_lt _ _ _ _ _ _ _ _ _ h1
      have a2 := wf_lt _ _ _ _ _ _ _ _ _ h2'
      have b1 := wf_cnt _ _ _ _ _ _ _ _ _ h1
      obtain rfl : v = vcn c m := by omega
      obtain rfl : g = fcn c m := by omega
      have em : (c L 4).toNat = m := by omega
      rw [em]
      exact ⟨f, vs, hh, h2, h3, by omega, by omega, k4, by omega, by omega, by omega, by omega, fun z => by omega, fun _ => h2'⟩
theorem dP_wP (hw : wP c n nv nf) {L : Nat} (hL : L < n) (hd : drP c n L) : wP (dC c L) (n + dE c L - en c L) (nv + dV c L - vcn c (en c L)) (nf + dF c L - fcn c (en c L)) := by
  obtain ⟨f, vs, h, h2, h3, n1, n2, n3, n4, n5, n6, n7, n8, _⟩ := nums hw hL (Or.inl hd.1)
  obtain ⟨F, hF, cv, cf⟩ := hw.can
  have hn := hw.1
  have hnv := hw.2.1
  have hnf := hw.2.2.1
  have mE := vcn_mono (c := c) h2
  have mF := fcn_mono (c := c) h2
  have key := wf_out (c := c) (c' := dC c L) (L := L) (eL := en c L) (E' := dE c L) (V' := dV c L) (F' := dF c L) (G := f + 1) (by omega) (by omega) F 0 n (-1) [] hF (fun x hx => by cases hx) (by omega) hn (Nat.zero_le _) hL (fun f9 vs9 hw9 hvs9 => ?_) rfl (fun j j1 j2 j3 => moC_1 (fun w hw7 => ?_))
  · have e1 : vcn c 0 = 0 := rfl
    have e2 : fcn c 0 = 0 := rfl
    rw [cv, cf, e1, e2] at key
    unfold dV at key ⊢
    unfold dF at key ⊢
    unfold dE at key ⊢
    exact ⟨by omega, by omega, by omega, F + (f + 1), key⟩
  · -- the let's body in the place of the let
    have hw9' := hw9
    cases f9 with
    | zero => exact hw9.elim
    | succ f9 =>
      obtain ⟨_, hh⟩ := hw9
      have hv' : vcn c (L + 1) = vcn c L + (if c L 0 = 3 then 2 else if c L 0 = 2 ∨ c L 0 = 5 then 1 else 0) := rfl
      have hf' : fcn c (L + 1) = fcn c L + (if c L 0 = 2 ∨ c L 0 = 3 then 1 else 0) := rfl
      have k5 := hd.1
      rcases hh with hh | hh | hh | hh | hh | hh | hh
      · omega
      · omega
      · omega
      · omega
      · obtain ⟨k0, k1, _, _, _, m, v, g, k4, h1, h2'⟩ := hh
        rw [if_neg (by omega), if_pos (Or.inr k0)] at hv'; rw [if_neg (by omega)] at hf'
        have b1 := wf_cnt _ _ _ _ _ _ _ _ _ h1
        obtain rfl : v = vcn c m := by omega
        obtain rfl : g = fcn c m := by omega
        have em : (c L 4).toNat = m := by omega
        have hmet := hd.2.1
        rw [k1, Int.toNat_natCast] at hmet
        rw [em] at n1 n2 n4 n5 n6 n7
        have := wf_mv (c := c) (c' := dC c L) (A := m) (B := L) (Av := vcn c m) (Bv := vcn c L) (R := dR c L) f9 m (en c L) _ (c L 6) _ vs9 _ _ _ _ (fcn c L) h2' (Nat.le_refl _) (Nat.le_refl _) (fun j j1 j2 => ?_) ?_ (fun y y1 y2 => ?_) (fun y y1 y2 => ?_)
        · rw [show m + L - m = L by omega, show en c L + L - m = dE c L by unfold dE; rw [em]; omega, show vcn c m + vcn c L - vcn c m = vcn c L by omega, show vcn c (en c L) + vcn c L - vcn c m = dV c L by unfold dV; rw [em]; omega, show fcn c L + fcn c (en c L) - fcn c m = dF c L by unfold dF; rw [em]; omega] at this
          exact wf_fuel _ _ _ _ _ _ _ _ _ _ (by omega) this
        · have := mvC_1 (c := c) (c' := dC c L) (A := m) (B := L) (Av := vcn c m) (Bv := vcn c L) (R := dR c L) (up := c L 6) (l := m) (j := j) (fun w hw7 => ?_)
          · exact ⟨this.1, this.2.1⟩
          · unfold dC dE
            rw [em, if_neg (by omega), if_pos (by omega), show j + L - m + m - L = j by omega]
        · rw [show m + L - m = L by omega]
          unfold dC dE
          rw [em, if_neg (by omega), if_pos (by omega), show L + m - L = m by omega]
          unfold mvC
          rw [if_neg (by decide), if_neg (by decide), if_neg (by decide), if_pos rfl, if_pos rfl]
        · obtain ⟨k, q1, q2, q3, q4⟩ := y2
          rcases List.mem_cons.mp y1 with z | z
          · rw [z] at q4; exact absurd ⟨q3, q4⟩ (mcn_all hmet (by omega))
          · have := hvs9 y z
            unfold dR
            rw [em, if_pos (by omega)]; exact z
        · unfold dR
          rw [em, if_neg (by omega)]
      · omega
      · omega
  · -- outside
    rcases j3 with z | z
    · have hla : laN L (en c L) (dE c L) j = j := by unfold laN; rw [if_pos (by omega)]
      rw [hla]; unfold dC; rw [if_pos z]
    · have hla : laN L (en c L) (dE c L) j = j + dE c L - en c L := by unfold laN; rw [if_neg (by omega)]
      have hd1 : L < dE c L := by unfold dE; omega
      rw [hla]; unfold dC
      rw [if_neg (by omega), if_neg (by omega), show j + dE c L - en c L + en c L - dE c L = j by omega]
/-- the function's body is moved alone: it sees only its own variable -/
theorem iP_wP (hw : wP c n nv nf) {L g : Nat} (hL : L < n) (hk : c L 0 = 11) (hg : g < n) (hg2 : c g 0 = 2) (hfr : frc c g = 0) (r1 : n + iE c L g - en c L ≤ 200) (r2 : nv + iV c L g - vcn c (en c L) ≤ 100) (r3 : nf + iF c L g - fcn c (en c L) ≤ 50) :
    wP (iC c L g) (n + iE c L g - en c L) (nv + iV c L g - vcn c (en c L)) (nf + iF c L g - fcn c (en c L)) := by
  obtain ⟨f, vs, h, h2, h3, n1, n2, n3, n4, n5, n6, n7, _, n8⟩ := nums hw hL (Or.inr hk)
  obtain ⟨F, hF, cv, cf⟩ := hw.can
  obtain ⟨fg, vg, hgw, hg3, hg4⟩ := hw.at2 hg
  have hn := hw.1
  have mE := vcn_mono (c := c) h2
  have mF := fcn_mono (c := c) h2
  -- the body
  obtain ⟨fb, rfl⟩ : ∃ fb, fg = fb + 1 := by
    cases fg with
    | zero => exact hgw.elim
    | succ fb => exact ⟨fb, rfl⟩
  have hbody : c g 1 = (vcn c g : Int) ∧ vcn c (g + 1) = vcn c g + 1 ∧ wf c fb (g + 1) (en c g) (g : Int) (vcn c g :: vg) (vcn c (g + 1)) (vcn c (en c g)) (fcn c (g + 1)) (fcn c (en c g)) := by
    have hv' : vcn c (g + 1) = vcn c g + (if c g 0 = 3 then 2 else if c g 0 = 2 ∨ c g 0 = 5 then 1 else 0) := rfl
    have hf' : fcn c (g + 1) = fcn c g + (if c g 0 = 2 ∨ c g 0 = 3 then 1 else 0) := rfl
    rw [if_neg (by omega), if_pos (Or.inl hg2)] at hv'; rw [if_pos (Or.inl hg2)] at hf'
    obtain ⟨_, hh⟩ := hgw
    rcases hh with hh | hh | hh | hh | hh | hh | hh
    · omega
    · omega
    · exact ⟨hh.2.1, hv', by rw [hv', hf']; exact hh.2.2.2.2.2.2⟩
    · omega
    · omega
    · omega
    · omega
  obtain ⟨x1, x2, hb⟩ := hbody
  have a1 := wf_lt _ _ _ _ _ _ _ _ _ hb
  have free : ∀ (y k : Nat), g ≤ k → k < en c g → c k 0 = 0 → c k 1 = (y : Int) → vcn c g ≤ y := by
    intro y k k1 k2 k3 k4
    by_cases z : vcn c g ≤ y
    · exact z
    · exfalso
      have hlt := ((hw.flat.2.2.2) k (by omega)).1.2.1 (Or.inl k3)
      have := sm_zero hfr y (by have := hw.2.1; omega)
      have q : mcn c y (en c g) ≠ mcn c y g ∧ (y : Int) < v0c c g := by
        refine ⟨(mcn_ne (en c g) (by omega)).mpr ⟨k, k1, k2, k3, k4⟩, ?_⟩
        unfold v0c; rw [if_neg (by omega), x1]; omega
      rw [if_pos q] at this
      omega
  have eK : iK c L = L + 1 + (en c L - (c L 4).toNat) := rfl
  have eE : iE c L g = iK c L + (en c g - (g + 1)) := rfl
  have eW : iW c L = vcn c L + 1 + (vcn c (en c L) - vcn c (c L 4).toNat) := rfl
  have eV : iV c L g = iW c L + (vcn c (en c g) - vcn c (g + 1)) := rfl
  have eF : iF c L g = fcn c L + (fcn c (en c L) - fcn c (c L 4).toNat) + (fcn c (en c g) - fcn c (g + 1)) := rfl
  have key := wf_out (c := c) (c' := iC c L g) (L := L) (eL := en c L) (E' := iE c L g) (V' := iV c L g) (F' := iF c L g) (G := fb + 1) (by omega) (by omega) F 0 n (-1) [] hF (fun x hx => by cases hx) (by omega) hn (Nat.zero_le _) hL (fun f9 vs9 hw9 hvs9 => ?_) rfl (fun j j1 j2 j3 => moC_1 (fun w hw7 => ?_))
  · have e1 : vcn c 0 = 0 := rfl
    have e2 : fcn c 0 = 0 := rfl
    rw [cv, cf, e1, e2] at key
    exact ⟨r1, r2, r3, F + (fb + 1), key⟩
  · cases f9 with
    | zero => exact hw9.elim
    | succ f9 =>
      obtain ⟨_, hh⟩ := hw9
      have hv' : vcn c (L + 1) = vcn c L + (if c L 0 = 3 then 2 else if c L 0 = 2 ∨ c L 0 = 5 then 1 else 0) := rfl
      have hf' : fcn c (L + 1) = fcn c L + (if c L 0 = 2 ∨ c L 0 = 3 then 1 else 0) := rfl
      rcases hh with hh | hh | hh | hh | hh | hh | hh
      · omega
      · omega
      · omega
      · omega
      · omega
      · omega
      obtain ⟨k0, _, _, _, _, m, v, g9, k4, h1, h2'⟩ := hh
      rw [if_neg (by omega), if_neg (by omega)] at hv'; rw [if_neg (by omega)] at hf'
      have b1 := wf_cnt _ _ _ _ _ _ _ _ _ h1
      obtain rfl : v = vcn c m := by omega
      obtain rfl : g9 = fcn c m := by omega
      have em : (c L 4).toNat = m := by omega
      rw [em] at n1 n2 n4 n5 n6 n7 eK eW eF
      have cL : ∀ w, iC c L g L w = xTok 5 (vcn c L : Int) (-1) ((L + 1 : Nat) : Int) (iK c L : Int) (-1) (c L 6) w := fun w => by unfold iC; rw [if_neg (by omega), if_pos rfl]
      have wA := wf_mv (c := c) (c' := iC c L g) (A := m) (B := L + 1) (Av := vcn c m) (Bv := vcn c L + 1) (R := iRa c L) f9 m (en c L) _ (L : Int) _ vs9 _ _ _ _ (fcn c L) h2' (Nat.le_refl _) (Nat.le_refl _) (fun j j1 j2 => ?_) ?_ (fun y y1 y2 => ?_) (fun y y1 y2 => ?_)
      have wB := wf_mv (c := c) (c' := iC c L g) (A := g + 1) (B := iK c L) (Av := vcn c (g + 1)) (Bv := iW c L) (R := iRb c L g) fb (g + 1) (en c g) _ (L : Int) _ (vcn c L :: vs9) _ _ _ _ (fcn c L + (fcn c (en c L) - fcn c m)) hb (Nat.le_refl _) (Nat.le_refl _) (fun j j1 j2 => ?_) ?_ (fun y y1 y2 => ?_) (fun y y1 y2 => ?_)
      · rw [show m + (L + 1) - m = L + 1 by omega, show en c L + (L + 1) - m = iK c L by omega, show vcn c m + (vcn c L + 1) - vcn c m = vcn c L + 1 by omega, show vcn c (en c L) + (vcn c L + 1) - vcn c m = iW c L by omega] at wA
        rw [show g + 1 + iK c L - (g + 1) = iK c L by omega, show en c g + iK c L - (g + 1) = iE c L g by omega, show vcn c (g + 1) + iW c L - vcn c (g + 1) = iW c L by omega, show vcn c (en c g) + iW c L - vcn c (g + 1) = iV c L g by omega] at wB
        rw [show f9 + 1 + (fb + 1) = (f9 + (fb + 1)) + 1 by omega]
        refine ⟨by rw [cL]; rfl, Or.inr (Or.inr (Or.inr (Or.inr (Or.inl ⟨by rw [cL]; rfl, by rw [cL]; rfl, by rw [cL]; rfl, by rw [cL]; rfl, by rw [cL]; rfl, iK c L, iW c L, fcn c L + (fcn c (en c L) - fcn c m), by rw [cL]; rfl, ?_, ?_⟩))))⟩
        · rw [show fcn c L + (fcn c (en c L) - fcn c m) = fcn c L + fcn c (en c L) - fcn c m by omega]
          exact wf_fuel _ _ _ _ _ _ _ _ _ _ (by omega) wA
        · rw [show iF c L g = fcn c L + (fcn c (en c L) - fcn c m) + fcn c (en c g) - fcn c (g + 1) by omega]
          exact wf_fuel _ _ _ _ _ _ _ _ _ _ (by omega) wB
      · have := mvC_1 (c := c) (c' := iC c L g) (A := g + 1) (B := iK c L) (Av := vcn c (g + 1)) (Bv := iW c L) (R := iRb c L g) (up := (L : Int)) (l := g + 1) (j := j) (fun w hw7 => ?_)
        · exact ⟨this.1, this.2.1⟩
        · unfold iC
          rw [if_neg (by omega), if_neg (by omega), if_neg (by omega), if_pos (by omega), show j + iK c L - (g + 1) + (g + 1) - iK c L = j by omega]
      · unfold iC
        rw [if_neg (by omega), if_neg (by omega), if_neg (by omega), if_pos (by omega), show g + 1 + iK c L - (g + 1) + (g + 1) - iK c L = g + 1 by omega]
        unfold mvC
        rw [if_neg (by decide), if_neg (by decide), if_neg (by decide), if_pos rfl, if_pos rfl]
      · obtain ⟨k, q1, q2, q3, q4⟩ := y2
        have hy := free y k (by omega) q2 q3 q4
        rcases List.mem_cons.mp y1 with z | z
        · unfold iRb; rw [if_pos (by omega)]; exact List.mem_cons_self
        · have := hg4 y z; omega
      · unfold iRb; rw [if_neg (by omega)]
      · have := mvC_1 (c := c) (c' := iC c L g) (A := m) (B := L + 1) (Av := vcn c m) (Bv := vcn c L + 1) (R := iRa c L) (up := (L : Int)) (l := m) (j := j) (fun w hw7 => ?_)
        · exact ⟨this.1, this.2.1⟩
        · unfold iC
          rw [em, if_neg (by omega), if_neg (by omega), if_pos (by omega), show j + (L + 1) - m + m - (L + 1) = j by omega]
      · unfold iC
        rw [em, if_neg (by omega), if_neg (by omega), if_pos (by omega), show m + (L + 1) - m + m - (L + 1) = m by omega]
        unfold mvC
        rw [if_neg (by decide), if_neg (by decide), if_neg (by decide), if_pos rfl, if_pos rfl]
      · have := hvs9 y y1
        unfold iRa; rw [em, if_pos (by omega)]; exact y1
      · unfold iRa; rw [em, if_neg (by omega)]
  · rcases j3 with z | z
    · have hla : laN L (en c L) (iE c L g) j = j := by unfold laN; rw [if_pos (by omega)]
      rw [hla]; unfold iC; rw [if_pos z]
    · have hla : laN L (en c L) (iE c L g) j = j + iE c L g - en c L := by unfold laN; rw [if_neg (by omega)]
      rw [hla]; unfold iC
      rw [if_neg (by omega), if_neg (by omega), if_neg (by omega), if_neg (by omega), show j + iE c L g - en c L + en c L - iE c L g = j by omega]
end NW
