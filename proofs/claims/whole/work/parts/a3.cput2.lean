/-! THE CLASS WRITES: labels -/
def mKeyW (sa : Nat → Nat) (b : Nat) (E : Nat × mH) : Prop := mStr E b (sa 3) [40, 102, 105, 120, 32] ∧ mStr E b (sa 4) [40, 105, 102] ∧ mStr E b (sa 5) [40, 108, 101, 116, 32]
section CW2
variable {sa : Nat → Nat} {b : Nat} {E : Nat × mH} {d : Nat} {T : gT} {w : List Nat} {φ : gT → Prop} {q : Nat} {c : Nat → Nat → Int} {n nv nf l : Nat}
theorem cPq.fB {T' : gT} (h : cPq T q c n nv nf) (f : fB 63 1 64 T T') : cPq T' q c n nv nf := by
  have hq := h.2.1
  exact h.of (fun k i h1 h2 => f.v (by unfold Wb; omega))
theorem p_blank (hc : cPq T q c n nv nf) (h : mBf T 63 1 64 w) (hl : w.length < 800000) (hi : l < n) (k : ∀ T', mBf T' 63 1 64 (w ++ bS c l) → fB 63 1 64 T T' → φ T') : gC (tP sa) lD b E (d + 1) mX5_putBlank [.ref (b + 63), .ref (b + q), .int (zI (l : Int))] T (fun r T' => pV r (φ T')) := by
  have hn := hc.1.1
  have hcl := hc.2.2.2.2.2.1 l hi
  refine w_X5_putBlank hc.2.1 ?_
  unfold f_X5_putBlank
  rw [aI_n (by omega), hcl.2.2.2.1]
  have put : bS c l = [32] → gC (tP sa) lD b E d mX5_putByte [.ref (b + 63), .int (zI 32)] T (fun r T62 => pV r ((fun r T' => pV r (φ T')) none T62)) := fun e => by
    rw [e] at k
    exact p_byte (x := 32) h (by decide) (by omega) (fun T' h' f' => ⟨rfl, k T' h' f'⟩)
  have non : bS c l = [] → (fun r T' => pV r (φ T')) none T := fun e => by
    rw [e, List.append_nil] at k
    exact ⟨rfl, k T h fG.refl⟩
  by_cases y : c l 6 < 0
  · have e6 : c l 6 = -1 := by
      by_cases y0 : l = 0
      · rw [y0]; exact hc.1.flat.2.2.1
      · have := ((hc.1.flat.2.2.2 l hi).2 (by omega)).1; omega
    have e : bS c l = [] := by unfold bS; rw [if_pos y]
    rw [e6, aI_out (by omega)]
    exact ⟨by omega, fun _ => ⟨fun _ => non e, fun z => absurd rfl z⟩, fun _ => ⟨fun _ => ⟨fun _ => non e, fun z => absurd rfl z⟩, fun z => absurd z (by decide)⟩⟩
  · have l0 : 0 < l := by
      by_cases y0 : l = 0
      · rw [y0, hc.1.flat.2.2.1] at y; omega
      · omega
    obtain ⟨p, hp⟩ : ∃ p : Nat, c l 6 = (p : Int) := ⟨(c l 6).toNat, by omega⟩
    have hpl : p < l := by have := ((hc.1.flat.2.2.2 l hi).2 l0).2; omega
    have hcp := hc.2.2.2.2.2.1 p (by omega)
    have e3 : aP T q (p : Int) 0 = c p 3 := by
      have := aP_n (T := T) (q := q) (l := p) (i := 0) (by omega) (by omega)
      rw [show ((0 : Nat) : Int) = 0 from rfl] at this
      rw [this]
      exact hcp.2.2.2.2.2.2.1
    rw [hp, aI_n (by omega), hcp.1, e3]
    have eb : bS c l = blS (c p 0) (if c p 3 = (l : Int) then 0 else 1) := by unfold bS; rw [if_neg y, hp, Int.toNat_natCast]
    unfold blS at eb
    refine ⟨by omega, fun z => ?_, fun z => ⟨fun z2 => ?_, fun z2 => ⟨fun z3 => ?_, fun z3 => ?_⟩⟩⟩
    · rw [if_pos z] at eb
      exact ⟨fun _ => non eb, fun _ => non eb⟩
    · rw [if_neg z, if_neg (fun z => z2 z.1)] at eb
      exact ⟨fun z => by omega, fun _ => put eb⟩
    · rw [if_neg z, if_neg z3, if_neg (fun z => absurd z.2 (by decide))] at eb
      exact ⟨fun z => by omega, fun _ => put eb⟩
    · rw [if_neg z, if_pos z3, if_pos ⟨z2, rfl⟩] at eb
      exact ⟨fun z => by omega, fun _ => non eb⟩
theorem num_ok (hw : wP c n nv nf) (hl : l < n) : c l 0 = 1 → -999999 ≤ c l 1 ∧ c l 1 ≤ 999999 := by
  obtain ⟨f, vs, h, _, _⟩ := hw.at2 hl
  intro h1
  cases f with
  | zero => exact h.elim
  | succ f =>
    rcases h.2 with h | h | h | h | h | h | h
    · have := h.1; omega
    · exact h.2.1
    · have := h.1; omega
    · have := h.1; omega
    · have := h.1; omega
    · have := h.1; omega
    · have := h.1; omega
theorem p_head (hE : mSta sa b E) (hK : mKeyW sa b E) (hc : cPq T q c n nv nf) (h : mBf T 63 1 64 w) (hl : w.length < 700000) (hi : l < n) (k : ∀ T', mBf T' 63 1 64 (w ++ hdS c l) → fB 63 1 64 T T' → φ T') : gC (tP sa) lD b E (d + 5) mX5_putHead [.ref (b + 63), .ref (b + q), .int (zI (l : Int))] T (fun r T' => pV r (φ T')) := by
  have hn := hc.1.1
  have hnv := hc.1.2.1
  obtain ⟨c1, c2, c3, _⟩ := hc.2.2.2.2.2.1 l hi
  obtain ⟨w1, w2, w3, _⟩ := (hc.1.flat.2.2.2 l hi).1
  have hnum := num_ok hc.1 hi
  have hq := hc.2.1
  refine w_X5_putHead (d := d + 4) hc.2.1 hE ?_
  unfold f_X5_putHead
  rw [aI_n (show l < 200 by omega), aI_n (show l < 200 by omega), c1, c2]
  unfold hdS at k
  refine ⟨by omega, fun z => ?_, fun z => ?_, fun z => ?_, fun z => ?_, fun z => ?_, fun z => ?_, fun z => ?_, fun z => ?_⟩
  · rw [if_pos z] at k
    have := w2 (by omega)
    exact p_var (d := d + 2) h (by omega) (by omega) (fun T1 h1 f1 => ⟨rfl, k T1 h1 f1⟩)
  · rw [if_neg (by omega), if_pos z] at k
    exact p_num (d := d + 3) h (hnum z) (by omega) (fun T1 h1 f1 => ⟨rfl, k T1 h1 f1⟩)
  · rw [if_neg (by omega), if_neg (by omega), if_pos z] at k
    have := w2 (by omega)
    have lv := (vrS_sh (c l 1)).1
    refine p_byte (x := 92) h (by decide) (by omega) (fun T1 h1 f1 => ?_)
    refine p_var (d := d + 2) h1 (by omega) (by rw [List.length_append]; show w.length + 1 < _; omega) (fun T2 h2 f2 => ?_)
    refine p_byte (x := 46) h2 (by decide) (by rw [List.length_append, List.length_append]; show w.length + 1 + _ < _; omega) (fun T3 h3 f3 => ⟨rfl, k T3 ?_ ((f1.trans f2).trans f3)⟩)
    simp only [List.append_assoc, List.cons_append, List.nil_append] at h3 ⊢
    exact h3
  · rw [if_neg (by omega), if_neg (by omega), if_neg (by omega), if_pos z] at k
    have a1 := w2 (by omega)
    have a2 := w3 z
    have lv := (vrS_sh (c l 2)).1
    refine p_text (d := d) hK.1 h (by decide) (by show w.length + 5 < _; omega) (fun T1 h1 f1 => ?_)
    rw [aI_n (show l < 200 by omega), f1.v (by unfold Wb; omega), c3]
    refine p_var (d := d + 2) h1 (by omega) (by rw [List.length_append]; show w.length + 5 < _; omega) (fun T2 h2 f2 => ?_)
    refine p_byte (x := 32) h2 (by decide) (by rw [List.length_append, List.length_append]; show w.length + 5 + _ < _; omega) (fun T3 h3 f3 => ?_)
    refine p_var (d := d + 2) h3 (by omega) (by rw [List.length_append, List.length_append, List.length_append]; show w.length + 5 + _ + 1 < _; omega) (fun T4 h4 f4 => ⟨rfl, k T4 ?_ (((f1.trans f2).trans f3).trans f4)⟩)
    simp only [List.append_assoc, List.cons_append, List.nil_append] at h4 ⊢
    exact h4
  · rw [if_neg (by omega), if_neg (by omega), if_neg (by omega), if_neg (by omega), if_pos z] at k
    exact p_text (d := d) hK.2.1 h (by decide) (by show w.length + 3 < _; omega) (fun T1 h1 f1 => ⟨rfl, k T1 h1 f1⟩)
  · rw [if_neg (by omega), if_neg (by omega), if_neg (by omega), if_neg (by omega), if_neg (by omega), if_pos z] at k
    have a1 := w2 (by omega)
    refine p_text (d := d) hK.2.2 h (by decide) (by show w.length + 5 < _; omega) (fun T1 h1 f1 => ?_)
    refine p_var (d := d + 2) h1 (by omega) (by rw [List.length_append]; show w.length + 5 < _; omega) (fun T2 h2 f2 => ⟨rfl, k T2 ?_ (f1.trans f2)⟩)
    rw [List.append_assoc] at h2
    exact h2
  · rw [if_neg (by omega), if_neg (by omega), if_neg (by omega), if_neg (by omega), if_neg (by omega), if_neg (by omega), if_pos z] at k
    exact p_byte (x := 40) h (by decide) (by omega) (fun T1 h1 f1 => ⟨rfl, k T1 h1 f1⟩)
  · obtain ⟨z0, z1, z2, z3, z4, z5, z11⟩ := z
    rw [if_neg z0, if_neg z1, if_neg z2, if_neg z3, if_neg z4, if_neg z5, if_neg z11] at k
    refine p_byte (x := 40) h (by decide) (by omega) (fun T1 h1 f1 => ⟨by omega, ?_⟩)
    have es : aS stB (c l 0 - 6) = ((stB.getD (c l 0 - 6).toNat 0 : Nat) : Int) := by
      unfold aS
      rw [if_pos ⟨by omega, by show c l 0 - 6 < ((5 : Nat) : Int); omega⟩]
    rw [es]
    refine p_byte h1 (stB_lt _) (by rw [List.length_append]; show w.length + 1 < _; omega) (fun T2 h2 f2 => ⟨rfl, k T2 ?_ (f1.trans f2)⟩)
    rw [List.append_assoc] at h2
    exact h2
theorem p_ends (hc : cPq T q c n nv nf) (h : mBf T 63 1 64 w) (hl : w.length < 600000) (hi : l < n) (k : ∀ T', mBf T' 63 1 64 (w ++ Zs c 201 (l : Int) (l + 1)) → fB 63 1 64 T T' → φ T') : gC (tP sa) lD b E (d + 2) mX5_putEnds [.ref (b + 63), .ref (b + q), .int (zI (l : Int))] T (fun r T' => pV r (φ T')) := by
  have hn := hc.1.1
  have hq := hc.2.1
  refine w_X5_putEnds (d := d) hc.2.1 ?_
  unfold f_X5_putEnds
  have lp : ∀ (j i : Nat) (p : Int) (w1 : List Nat) (T1 : gT), j + i = l + 1 → -1 ≤ p → p + i ≤ l → w1.length + j < 700000 → cPq T1 q c n nv nf → mBf T1 63 1 64 w1 → fB 63 1 64 T T1 → (∀ T', mBf T' 63 1 64 (w1 ++ Zs c 201 p (l + 1)) → fB 63 1 64 T T' → φ T') → gW (tP sa) lD b E (d + 1 + 1) mX5_putEnds 5 [some (.ref (b + 63)), some (.ref (b + q)), some (.int (zI (l : Int))), some (.int (zI p)), some (.int (zI (i : Int)))] [] T1 (fun r T' => pV r (φ T')) := by
    intro j
    induction j with
    | zero =>
      intro i p w1 T1 hj hp hpi hl1 hc1 h1 f1 k1
      refine w_X5_putEnds_5 hc.2.1 ?_
      unfold f_X5_putEnds_5
      rw [Zs_neg (by omega), List.append_nil] at k1
      exact ⟨by omega, by omega, fun _ => ⟨rfl, k1 T1 h1 f1⟩, fun z => by omega⟩
    | succ j ih =>
      intro i p w1 T1 hj hp hpi hl1 hc1 h1 f1 k1
      refine w_X5_putEnds_5 hc.2.1 ?_
      unfold f_X5_putEnds_5
      rw [show (i : Int) + 1 = ((i + 1 : Nat) : Int) by omega]
      by_cases y : p < 0
      · rw [Zs_neg y, List.append_nil] at k1
        rw [aI_out (by omega)]
        exact ⟨by omega, by omega, fun z => by omega, fun _ => ⟨by omega, by omega, fun _ => ⟨rfl, k1 T1 h1 f1⟩, fun z => by omega⟩⟩
      · obtain ⟨m, rfl⟩ : ∃ m : Nat, p = (m : Int) := ⟨p.toNat, by omega⟩
        have hcm := hc1.2.2.2.2.2.1 m (by omega)
        have h6 : c m 6 < (m : Int) ∧ -1 ≤ c m 6 := by
          by_cases y3 : m = 0
          · rw [y3, hc.1.flat.2.2.1]; omega
          · have := (hc.1.flat.2.2.2 m (by omega)).2 (by omega); omega
        rw [aI_n (by omega), aI_n (by omega), hcm.2.2.2.2.2.2.2.2.2, hcm.1]
        rw [Zs_at hc.1 (by omega)] at k1
        refine ⟨by omega, by omega, fun z => by omega, fun _ => ⟨by omega, by omega, fun z => ?_, fun z => ⟨fun z2 => ?_, fun z2 => ?_⟩⟩⟩
        · rw [if_neg (by omega), List.append_nil] at k1
          exact ⟨rfl, k1 T1 h1 f1⟩
        · rw [if_pos (by omega)] at k1
          unfold clS at k1
          rw [if_neg (by omega), List.nil_append] at k1
          rw [aI_n (by omega), hcm.2.2.2.1]
          exact ih (i + 1) _ w1 T1 (by omega) h6.2 (by omega) (by omega) hc1 h1 f1 k1
        · rw [if_pos (by omega)] at k1
          unfold clS at k1
          rw [if_pos (by omega)] at k1
          refine p_byte (x := 41) h1 (by decide) (by omega) (fun T2 h2 f2 => ?_)
          have hc2 := hc1.fB f2
          rw [aI_n (by omega), (hc2.2.2.2.2.2.1 m (by omega)).2.2.2.1]
          refine ih (i + 1) _ _ T2 (by omega) h6.2 (by omega) (by rw [List.length_append]; show w1.length + 1 + j < _; omega) hc2 h2 (f1.trans f2) (fun T' h' f' => k1 T' ?_ f')
          rw [List.append_assoc] at h'
          exact h'
  exact lp (l + 1) 0 l w T (by omega) (by omega) (by omega) (by omega) hc h fG.refl k
theorem p_put (hE : mSta sa b E) (hK : mKeyW sa b E) (hc : cPq T q c n nv nf) (k : ∀ T', mBf T' 63 1 64 (sE c 200 0) → fB 63 1 64 T T' → φ T') : gC (tP sa) lD b E (d + 6) mX5_put [.ref (b + 63), .ref (b + q)] T (fun r T' => pV r (φ T')) := by
  have hn := hc.1.1
  have hq := hc.2.1
  rw [← Fo_all hc.1] at k
  refine w_X5_put (d := d + 5) hc.2.1 ?_
  unfold f_X5_put
  have lp : ∀ (j i : Nat) (T1 : gT), j + i = n → mBf T1 63 1 64 (Fo c i) → fB 63 1 64 T T1 → gW (tP sa) lD b E (d + 5 + 1) mX5_put 7 [some (.ref (b + 63)), some (.ref (b + q)), some (.int (zI (i : Int)))] [] T1 (fun r T' => pV r (φ T')) := by
    intro j
    induction j with
    | zero =>
      intro i T1 hj h1 f1
      obtain rfl : i = n := by omega
      refine w_X5_put_7 (d := d + 5) hc.2.1 ?_
      unfold f_X5_put_7
      rw [(hc.fB f1).2.2.1]
      exact ⟨by omega, fun _ => ⟨rfl, k T1 h1 f1⟩, fun z => absurd (Int.le_refl _) z⟩
    | succ j ih =>
      intro i T1 hj h1 f1
      have hc1 := hc.fB f1
      have lF := (Fo_sh c i).1
      have lB : (bS c i).length ≤ 1 := (shA.ite (fun _ => shA.nil) (fun _ => blS_sh _ _) : shA 1 (bS c i)).1
      have lH := (hdS_sh c i).1
      refine w_X5_put_7 (d := d + 5) hc.2.1 ?_
      unfold f_X5_put_7
      rw [hc1.2.2.1, show (i : Int) + 1 = ((i + 1 : Nat) : Int) by omega]
      refine ⟨by omega, fun z => by omega, fun _ => ?_⟩
      refine p_blank (d := d + 4) hc1 h1 (by omega) (by omega) (fun T2 h2 f2 => ?_)
      refine p_head (d := d) hE hK (hc1.fB f2) h2 (by rw [List.length_append]; omega) (by omega) (fun T3 h3 f3 => ?_)
      refine p_ends (d := d + 3) ((hc1.fB f2).fB f3) h3 (by rw [List.length_append, List.length_append]; omega) (by omega) (fun T4 h4 f4 => ih (i + 1) T4 (by omega) ?_ (((f1.trans f2).trans f3).trans f4))
      rw [List.append_assoc, List.append_assoc] at h4
      exact h4
  refine lp n 0 _ (by omega) ⟨by rw [v_s (by omega)]; rfl, fun i h1 h2 => absurd h2 (Nat.not_lt_zero _)⟩ (fG.refl.gI (Or.inl ⟨rfl, rfl⟩))
end CW2
