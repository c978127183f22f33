theorem wf_small {c : Nat → Nat → Int} : ∀ (f l e : Nat) (up : Int) (vs : List Nat) (v0 v1 f0 f1 : Nat), wf c f l e up vs v0 v1 f0 f1 → wf c (e - l) l e up vs v0 v1 f0 f1 := by
  intro f
  induction f with
  | zero => intro l e up vs v0 v1 f0 f1 h; exact h.elim
  | succ f ih =>
    intro l e up vs v0 v1 f0 f1 h
    have hlt := wf_lt _ _ _ _ _ _ _ _ _ h
    obtain ⟨h0, h⟩ := h
    rw [show e - l = (e - l - 1) + 1 by omega]
    refine ⟨h0, ?_⟩
    rcases h with h | h | h | h | h | h | h
    · exact Or.inl h
    · exact Or.inr (Or.inl h)
    · obtain ⟨a1, a2, a3, a4, a5, a6, a7⟩ := h
      exact Or.inr (Or.inr (Or.inl ⟨a1, a2, a3, a4, a5, a6, wf_fuel _ _ _ _ _ _ _ _ _ _ (by omega) (ih _ _ _ _ _ _ _ _ a7)⟩))
    · obtain ⟨a1, a2, a3, a4, a5, a6, a7⟩ := h
      exact Or.inr (Or.inr (Or.inr (Or.inl ⟨a1, a2, a3, a4, a5, a6, wf_fuel _ _ _ _ _ _ _ _ _ _ (by omega) (ih _ _ _ _ _ _ _ _ a7)⟩)))
    · obtain ⟨a1, a2, a3, a4, a5, m, v, k, a6, a7, a8⟩ := h
      have b1 := wf_lt _ _ _ _ _ _ _ _ _ a7
      have b2 := wf_lt _ _ _ _ _ _ _ _ _ a8
      exact Or.inr (Or.inr (Or.inr (Or.inr (Or.inl ⟨a1, a2, a3, a4, a5, m, v, k, a6, wf_fuel _ _ _ _ _ _ _ _ _ _ (by omega) (ih _ _ _ _ _ _ _ _ a7), wf_fuel _ _ _ _ _ _ _ _ _ _ (by omega) (ih _ _ _ _ _ _ _ _ a8)⟩))))
    · obtain ⟨a1, a2, a3, a4, m, v, k, m2, v2, k2, a5, a6, a7, a8, a9⟩ := h
      have b1 := wf_lt _ _ _ _ _ _ _ _ _ a7
      have b2 := wf_lt _ _ _ _ _ _ _ _ _ a8
      have b3 := wf_lt _ _ _ _ _ _ _ _ _ a9
      exact Or.inr (Or.inr (Or.inr (Or.inr (Or.inr (Or.inl ⟨a1, a2, a3, a4, m, v, k, m2, v2, k2, a5, a6, wf_fuel _ _ _ _ _ _ _ _ _ _ (by omega) (ih _ _ _ _ _ _ _ _ a7), wf_fuel _ _ _ _ _ _ _ _ _ _ (by omega) (ih _ _ _ _ _ _ _ _ a8), wf_fuel _ _ _ _ _ _ _ _ _ _ (by omega) (ih _ _ _ _ _ _ _ _ a9)⟩)))))
    · obtain ⟨a1, a2, a3, a4, a5, m, v, k, a6, a7, a8⟩ := h
      have b1 := wf_lt _ _ _ _ _ _ _ _ _ a7
      have b2 := wf_lt _ _ _ _ _ _ _ _ _ a8
      exact Or.inr (Or.inr (Or.inr (Or.inr (Or.inr (Or.inr ⟨a1, a2, a3, a4, a5, m, v, k, a6, wf_fuel _ _ _ _ _ _ _ _ _ _ (by omega) (ih _ _ _ _ _ _ _ _ a7), wf_fuel _ _ _ _ _ _ _ _ _ _ (by omega) (ih _ _ _ _ _ _ _ _ a8)⟩)))))
section C8
variable {sa : Nat → Nat} {b : Nat} {E : Nat × mH} {d : Nat} {T0 T T' : gT} {a p : Nat} {c C : Nat → Nat → Int} {n nv nf L : Nat}
/-- the let goes, its body takes its place -/
theorem seg_drop (hp : rPa T0 a c n nv nf) (hpa : p + a = 1) (hL : L < n) (hd : drP c n L) (f9 : Nat) (us : List Nat) (h9 : wf c f9 L (en c L) (c L 6) us (vcn c L) (vcn c (en c L)) (fcn c L) (fcn c (en c L))) (hus : ∀ x, x ∈ us → x < vcn c L) :
    cpX sa b E (d + 4 + 402) T0 p (dC c L) (Rm c L (en c L) (dV c L)) (L : Int) L us (fun _ => True) L (vcn c L) (fcn c L) (dE c L) (dV c L) (dF c L) := by
  have hw := hp.1
  have hn := hw.1
  obtain ⟨f, vs, h, h2, h3, n1, n2, n3, n4, n5, n6, n7, n8, _⟩ := nums hw hL (Or.inl hd.1)
  have c6r : -1 ≤ c L 6 ∧ c L 6 < 200 := by
    by_cases z : L = 0
    · rw [z, hw.flat.2.2.1]; omega
    · have := (hw.flat.2.2.2 L hL).2 (by omega); omega
  -- the body, with what is in sight there
  have hbody : ∃ f8, wf c f8 (c L 4).toNat (en c L) (L : Int) (vcn c L :: us) (vcn c (c L 4).toNat) (vcn c (en c L)) (fcn c (c L 4).toNat) (fcn c (en c L)) := by
    cases f9 with
    | zero => exact h9.elim
    | succ f9 =>
      obtain ⟨_, hh⟩ := h9
      have hv' : vcn c (L + 1) = vcn c L + (if c L 0 = 3 then 2 else if c L 0 = 2 ∨ c L 0 = 5 then 1 else 0) := rfl
      have hf' : fcn c (L + 1) = fcn c L + (if c L 0 = 2 ∨ c L 0 = 3 then 1 else 0) := rfl
      have k5 := hd.1
      rcases hh with hh | hh | hh | hh | hh | hh | hh
      · omega
      · omega
      · omega
      · omega
      · obtain ⟨k0, k1, _, _, _, m, v, g, k4, h1, h2'⟩ := hh
        rw [if_neg (by omega), if_pos (Or.inr k0)] at hv'; rw [if_neg (by omega)] at hf'
        have b1 := wf_cnt _ _ _ _ _ _ _ _ _ h1
        obtain rfl : v = vcn c m := by omega
        obtain rfl : g = fcn c m := by omega
        have em : (c L 4).toNat = m := by omega
        rw [em]
        exact ⟨f9, h2'⟩
      · omega
      · omega
  obtain ⟨f8, hb⟩ := hbody
  have hb2 := wf_fuel _ 200 _ _ _ _ _ _ _ _ (by omega) (wf_small _ _ _ _ _ _ _ _ _ hb)
  have k1 := (n8 hd.1).1
  have hmet := hd.2.1
  rw [k1, Int.toNat_natCast] at hmet
  generalize hm : (c L 4).toNat = m at *
  have eE : dE c L = L + (en c L - m) := by unfold dE; rw [hm]
  have eV : dV c L = vcn c L + (vcn c (en c L) - vcn c m) := by unfold dV; rw [hm]
  have eF : dF c L = fcn c L + (fcn c (en c L) - fcn c m) := by unfold dF; rw [hm]
  have g := cp_plain (sa := sa) (b := b) (E := E) (d := d + 1) (A := m) (B := L) (Av := vcn c m) (Bv := vcn c L) (R := dR c L) hp hpa 200 m (en c L) _ _ _ _ _ _ (-1) hb2 (fun x hx => by
    rcases List.mem_cons.mp hx with z | z
    · have hv' : vcn c (L + 1) = vcn c L + (if c L 0 = 3 then 2 else if c L 0 = 2 ∨ c L 0 = 5 then 1 else 0) := rfl
      have k5 := hd.1
      rw [if_neg (by omega), if_pos (Or.inr k5)] at hv'
      have := vcn_mono (c := c) (show L + 1 ≤ m by omega)
      omega
    · have := hus x z; omega) h2 (Nat.le_refl _) (Nat.le_refl _) (by unfold okI; omega) (by omega) (fun y y1 y2 => by unfold dR; rw [hm, if_neg (by omega)])
  intro T φ hS hu kY kN
  obtain ⟨i1, i2, i3, i4, _⟩ := (cp_P hp hpa hS.1).2.1
  have c06 : dC c L L 6 = c L 6 := by
    unfold dC
    rw [if_neg (by omega), if_pos (by omega), hm, show L + m - L = m by omega, mvC_6, if_pos rfl]
  rw [c06]
  refine w_X7_copy (d := d + 4 + 400) ?_
  unfold f_X7_copy
  rw [show (vI T 0 3).toNat = a by omega, Int.toNat_natCast, i4 L 0 hL (by omega), i4 L 4 hL (by omega), n3]
  refine ⟨fun _ => ⟨by omega, by omega, fun z => absurd rfl z, fun _ => ⟨by omega, by omega, fun z => absurd hd.1 z, fun _ => ⟨by omega, ?_⟩⟩⟩, fun z => absurd hS.2.2.2.2.2.2.2 z⟩
  refine (g T (fcn c L) (c L 6) φ ?_ c6r (fun y y1 y2 => ?_) (fun hfit T' hS' hCM hcE h27 => ?_) (fun hno v T' hF hv => ?_)).mono (by omega) (fun r T' hr => ?_)
  · rw [show m + L - m = L by omega, show vcn c m + vcn c L - vcn c m = vcn c L by omega]; exact hS
  · obtain ⟨k, q1, q2, q3, q4⟩ := y2
    rcases List.mem_cons.mp y1 with z | z
    · rw [z] at q4; exact absurd ⟨q3, q4⟩ (mcn_all hmet (by omega))
    · have hyl := hus y z
      rw [hu y z trivial]
      show ((muM _ _ _ y : Nat) : Int) = _
      unfold muM dR
      rw [hm, if_pos hyl, if_pos (by omega)]
  · rw [show m + L - m = L by omega] at hcE ⊢
    rw [show en c L + L - m = dE c L by omega, show vcn c (en c L) + vcn c L - vcn c m = dV c L by omega, show fcn c L + fcn c (en c L) - fcn c m = dF c L by omega] at hS' hfit
    refine kY hfit T' hS' (fun k k1 k2 w hw7 => ?_) hcE h27
    have := hCM (k + m - L) (by omega) (by omega) w hw7
    rw [show k + m - L + L - m = k by omega] at this
    rw [this]
    unfold dC
    rw [if_neg (by omega), if_pos k2, hm]
  · rw [show en c L + L - m = dE c L by omega, show vcn c (en c L) + vcn c L - vcn c m = dV c L by omega, show fcn c L + fcn c (en c L) - fcn c m = dF c L by omega] at hno
    exact kN hno v T' hF hv
  · obtain ⟨v, rfl, hv⟩ := hr
    exact ⟨v, rfl, _, rfl, hv⟩
end C8
