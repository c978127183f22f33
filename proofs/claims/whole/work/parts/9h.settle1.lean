/-! SETTLING -/
theorem v_if {T : gT} {k j k2 j2 : Nat} {x : Int} (h : okI x) : vI (gI T k j (zI x)) k2 j2 = if k2 = k ∧ j2 = j then x else vI T k2 j2 := by
  by_cases z : k2 = k ∧ j2 = j
  · rw [if_pos z, z.1, z.2, v_s h]
  · rw [if_neg z, v_o (by omega)]
def tV (c : Nat → Nat → Int) (old : Nat → Nat) (l : Nat) : Int := if c l 0 = 0 ∨ c l 0 = 2 ∨ c l 0 = 3 ∨ c l 0 = 5 then (old (c l 1).toNat : Int) else c l 1
def tS (c : Nat → Nat → Int) (old : Nat → Nat) (l : Nat) : Int := if c l 0 = 3 then (old (c l 2).toNat : Int) else c l 2
/-- kinds -/
def gK (T : gT) (q : Nat) (c : Nat → Nat → Int) (n : Nat) : Prop := vI T q 0 = (n : Int) ∧ ∀ l, l < n → vI T (q + 1) l = c l 0
/-- variables -/
def g1 (T : gT) (q : Nat) (c : Nat → Nat → Int) (n : Nat) (old : Nat → Nat) (i : Nat) : Prop := vI T q 2 = (vcn c i : Int) ∧ (∀ l, l < n → (vI T (q + 2) l = if l < i then c l 1 else tV c old l) ∧ vI T (q + 3) l = if l < i then c l 2 else tS c old l) ∧ ∀ v, v < vcn c i → vI T (q + 8) v = (bdN c n v : Int) ∧ vI T (q + 9) v = (mcn c v i : Int) ∧ vI T (q + 11) v = -1 ∧ vI T (q + 18) (old v) = (v : Int)
/-- parts -/
def g2 (T : gT) (q : Nat) (c : Nat → Nat → Int) (i : Nat) : Prop := ∀ l, l < i → vI T (q + 4) l = c l 6 ∧ vI T (q + 6) l = wi c l ∧ vI T (q + 16) l = (cnt c l i : Int) ∧ ∀ j, j < 3 → vI T (q + 13 + j) l = if c l (3 + j) < (i : Int) then c l (3 + j) else -1
/-- functions -/
def g3 (T : gT) (q : Nat) (c : Nat → Nat → Int) (n i : Nat) : Prop := vI T q 1 = (fcn c i : Int) ∧ (∀ l, l < i → vI T (q + 5) l = foN c l) ∧ ∀ t, t < fcn c i → vI T (q + 7) t = (lbN c n t : Int)
/-- ends -/
def g4 (T : gT) (q : Nat) (c : Nat → Nat → Int) (i : Nat) : Prop := ∀ l, l < i → en c l ≤ i → vI T (q + 17) l = (en c l : Int)
def okO (old : Nat → Nat) (nv : Nat) : Prop := (∀ v, v < nv → old v < 200) ∧ ∀ v w, v < nv → w < nv → old v = old w → v = w
def W1 (q : Nat) (k j : Nat) : Prop := (k = q ∧ j = 2) ∨ k = q + 2 ∨ k = q + 3 ∨ k = q + 8 ∨ k = q + 9 ∨ k = q + 11 ∨ k = q + 18
def W2 (q : Nat) (k _ : Nat) : Prop := k = q + 4 ∨ k = q + 6 ∨ (q + 13 ≤ k ∧ k ≤ q + 16)
def W3 (q : Nat) (k j : Nat) : Prop := (k = q ∧ j = 1) ∨ k = q + 5 ∨ k = q + 7
def W4 (q : Nat) (k _ : Nat) : Prop := k = q + 17
def V0 (_ _ : Nat) : Prop := False
section ST1
variable {sa : Nat → Nat} {b : Nat} {E : Nat × mH} {d : Nat} {T T' : gT} {q : Nat} {c : Nat → Nat → Int} {n nv nf i : Nat} {old : Nat → Nat}
theorem gK.of (h : gK T q c n) (h0 : vI T' q 0 = vI T q 0) (h1 : ∀ l, vI T' (q + 1) l = vI T (q + 1) l) : gK T' q c n := ⟨h0.trans h.1, fun l hl => (h1 l).trans (h.2 l hl)⟩
theorem g1.of (h : g1 T q c n old i) (hf : ∀ k j, W1 q k j → vI T' k j = vI T k j) : g1 T' q c n old i := by
  obtain ⟨h1, h2, h3⟩ := h
  refine ⟨(hf _ _ (Or.inl ⟨rfl, rfl⟩)).trans h1, fun l hl => ⟨(hf _ _ ?_).trans (h2 l hl).1, (hf _ _ ?_).trans (h2 l hl).2⟩, fun v hv => ⟨(hf _ _ ?_).trans (h3 v hv).1, (hf _ _ ?_).trans (h3 v hv).2.1, (hf _ _ ?_).trans (h3 v hv).2.2.1, (hf _ _ ?_).trans (h3 v hv).2.2.2⟩⟩
  all_goals (unfold W1; omega)
theorem g2.of (h : g2 T q c i) (hf : ∀ k j, W2 q k j → vI T' k j = vI T k j) : g2 T' q c i := by
  intro l hl
  obtain ⟨h1, h2, h3, h4⟩ := h l hl
  refine ⟨(hf _ _ ?_).trans h1, (hf _ _ ?_).trans h2, (hf _ _ ?_).trans h3, fun j hj => (hf _ _ ?_).trans (h4 j hj)⟩
  all_goals (unfold W2; omega)
theorem g3.of (h : g3 T q c n i) (hf : ∀ k j, W3 q k j → vI T' k j = vI T k j) : g3 T' q c n i := by
  obtain ⟨h1, h2, h3⟩ := h
  refine ⟨(hf _ _ (Or.inl ⟨rfl, rfl⟩)).trans h1, fun l hl => (hf _ _ ?_).trans (h2 l hl), fun t ht => (hf _ _ ?_).trans (h3 t ht)⟩
  all_goals (unfold W3; omega)
theorem g4.of (h : g4 T q c i) (hf : ∀ j, vI T' (q + 17) j = vI T (q + 17) j) : g4 T' q c i := fun l hl he => (hf _).trans (h l hl he)
/-- a new variable -/
theorem d_newV {o l v : Nat} {φ : Int → gT → Prop} (hq : q = 2 ∨ q = 21) (h2 : vI T q 2 = (v : Int)) (hv : v < 100) (ho : o < 200) (hl : l < 200) (k : ∀ T', fG (W1 q) V0 T T' → vI T' q 2 = (v : Int) + 1 → (∀ x, vI T' (q + 2) x = vI T (q + 2) x) → (∀ x, vI T' (q + 3) x = vI T (q + 3) x) → (∀ x, vI T' (q + 8) x = if x = v then (l : Int) else vI T (q + 8) x) → (∀ x, vI T' (q + 9) x = if x = v then 0 else vI T (q + 9) x) → (∀ x, vI T' (q + 11) x = if x = v then -1 else vI T (q + 11) x) → (∀ x, vI T' (q + 18) x = if x = o then (v : Int) else vI T (q + 18) x) → φ (v : Int) T') :
    gC (tP sa) lD b E d mX3_newVariable [.ref (b + q), .int (zI (o : Int)), .int (zI (l : Int))] T (fun r T' => pI r (fun v => φ v T')) := by
  refine w_X3_newVariable hq ?_
  unfold f_X3_newVariable
  rw [h2]
  refine ⟨fun z => by omega, fun _ => ⟨by omega, fun z => by omega, fun _ => ⟨fun _ => ?_, fun z => by omega⟩⟩⟩
  rw [Int.toNat_natCast]
  have e1 : vI (gI T (q + 18) o (zI (v : Int))) q 2 = (v : Int) := by rw [v_o (by omega), h2]
  rw [e1, Int.toNat_natCast]
  have e2 : vI (gI (gI T (q + 18) o (zI (v : Int))) (q + 8) v (zI (l : Int))) q 2 = (v : Int) := by rw [v_o (by omega), e1]
  rw [e2, Int.toNat_natCast]
  have e3 : vI (gI (gI (gI T (q + 18) o (zI (v : Int))) (q + 8) v (zI (l : Int))) (q + 9) v (zI 0)) q 2 = (v : Int) := by rw [v_o (by omega), e2]
  rw [e3, Int.toNat_natCast]
  have e4 : vI (gI (gI (gI (gI T (q + 18) o (zI (v : Int))) (q + 8) v (zI (l : Int))) (q + 9) v (zI 0)) (q + 11) v (zI (-1))) q 2 = (v : Int) := by rw [v_o (by omega), e3]
  rw [e4, v_s (by omega)]
  refine ⟨by omega, by omega, by omega, by omega, by omega, by omega, by omega, by omega, _, rfl, ?_⟩
  rw [show (v : Int) + 1 - 1 = (v : Int) by omega]
  refine k _ ?_ (v_s (by omega)) (fun x => ?_) (fun x => ?_) (fun x => ?_) (fun x => ?_) (fun x => ?_) (fun x => ?_)
  · refine (((((fG.refl.gI ?_).gI ?_).gI ?_).gI ?_).gI ?_)
    all_goals (unfold W1; omega)
  · rw [v_o (by omega), v_o (by omega), v_o (by omega), v_o (by omega), v_o (by omega)]
  · rw [v_o (by omega), v_o (by omega), v_o (by omega), v_o (by omega), v_o (by omega)]
  · rw [v_o (by omega), v_o (by omega), v_o (by omega), v_if (by omega), v_o (by omega)]
    by_cases e : x = v
    · rw [if_pos ⟨rfl, e⟩, if_pos e]
    · rw [if_neg (fun z => e z.2), if_neg e]
  · rw [v_o (by omega), v_o (by omega), v_if (by omega), v_o (by omega), v_o (by omega)]
    by_cases e : x = v
    · rw [if_pos ⟨rfl, e⟩, if_pos e]
    · rw [if_neg (fun z => e z.2), if_neg e]
  · rw [v_o (by omega), v_if (by omega), v_o (by omega), v_o (by omega), v_o (by omega)]
    by_cases e : x = v
    · rw [if_pos ⟨rfl, e⟩, if_pos e]
    · rw [if_neg (fun z => e z.2), if_neg e]
  · rw [v_o (by omega), v_o (by omega), v_o (by omega), v_o (by omega), v_if (by omega)]
    by_cases e : x = o
    · rw [if_pos ⟨rfl, e⟩, if_pos e]
    · rw [if_neg (fun z => e z.2), if_neg e]
theorem mcn_new (hw : wP c n nv nf) {v : Nat} (hi : i ≤ n) (hv : vcn c i ≤ v) : mcn c v i = 0 := by
  by_cases z : mcn c v i = mcn c v 0
  · exact z
  · obtain ⟨l, _, l1, l2, l3⟩ := (mcn_ne i (Nat.zero_le _)).mp z
    obtain ⟨x, hx, e⟩ := (own hw (show l < n by omega)).2.2.2 l2
    have := vcn_mono (c := c) (show l ≤ i by omega)
    omega
theorem bdN_self (hw : wP c n nv nf) {v : Nat} (hi : i < n) (h1 : vcn c i ≤ v) (h2 : v < vcn c (i + 1)) : bdN c n v = i := by
  have hv : v < vcn c n := Nat.lt_of_lt_of_le h2 (vcn_mono (show i + 1 ≤ n by omega))
  have a := (bdN_lt hw (i := i + 1) (by omega) hv).mpr h2
  have b' := (bdN_lt hw (i := i) (by omega) hv)
  have : ¬ bdN c n v < i := fun z => by have := b'.mp z; omega
  omega
theorem c2_no (hw : wP c n nv nf) (hi : i < n) : (c i 0 ≠ 3 → c i 2 = -1) := by
  obtain ⟨f, vs, h, _⟩ := hw.at2 hi
  intro y
  cases f with
  | zero => exact h.elim
  | succ f =>
    obtain ⟨_, h⟩ := h
    rcases h with h | h | h | h | h | h | h <;> omega
theorem vcn_nv (hw : wP c n nv nf) : vcn c n = nv := by
  obtain ⟨F, _, h, _⟩ := hw.can
  exact h
/-- the variables of label i -/
theorem d_numV {φ : gT → Prop} (hw : wP c n nv nf) (hO : okO old nv) (hq : q = 2 ∨ q = 21) (hi : i < n) (hK : gK T q c n) (h : g1 T q c n old i) (k : ∀ T', fG (W1 q) V0 T T' → g1 T' q c n old (i + 1) → φ T') :
    gC (tP sa) lD b E (d + 1) mX3_numberVariables [.ref (b + q), .int (zI (i : Int))] T (fun r T' => pV r (φ T')) := by
  have hn := hw.1
  have hnv := hw.2.1
  have hvn := vcn_nv hw
  have hmo := vcn_mono (c := c) (show i + 1 ≤ n by omega)
  obtain ⟨o1, o2, o3, o4⟩ := own hw hi
  have kk := kid hw hi
  have c2 := c2_no hw hi
  obtain ⟨f1, f2, f3⟩ := id h
  have fi := f2 i hi
  rw [if_neg (by omega), if_neg (by omega)] at fi
  have mono : vcn c i ≤ vcn c (i + 1) := vcn_mono (by omega)
  refine w_X3_numberVariables hq ?_
  unfold f_X3_numberVariables
  rw [Int.toNat_natCast, hK.2 i hi]
  -- one new variable
  have one : c i 0 = 2 ∨ c i 0 = 5 → vcn c (i + 1) = vcn c i + 1 ∧ c i 1 = (vcn c i : Int) := fun z => ⟨by rw [vcn, if_neg (by omega), if_pos z], by rcases z with z | z; exact o1 z; exact o3 z⟩
  have m0 : ∀ v, c i 0 ≠ 0 → mcn c v (i + 1) = mcn c v i := fun v z => by rw [mcn, if_neg (fun y => z y.1)]; rfl
  refine ⟨by omega, by omega, fun z => ?_, fun z => ?_, fun z => ?_, fun z => ?_⟩
  · obtain ⟨x, x1, x2⟩ := o4 z
    have ex := (f3 x x1)
    have e1 : vI T (q + 2) i = (old x : Int) := by rw [fi.1]; unfold tV; rw [if_pos (by omega), x2, Int.toNat_natCast]
    have ho := hO.1 x (by omega)
    rw [e1, aI_n ho, ex.2.2.2, v_s (by omega)]
    refine w_X3_countMeeting hq ?_
    unfold f_X3_countMeeting
    rw [Int.toNat_natCast, v_o (by omega), ex.2.1]
    have vc : vcn c (i + 1) = vcn c i := by rw [vcn, if_neg (by omega), if_neg (by omega)]; rfl
    have hml := mcn_le (c := c) (v := x) (l := i)
    refine ⟨by omega, fun z => by omega, fun _ => ⟨fun z => by omega, fun _ => ⟨by omega, by omega, rfl, rfl, k _ ?_ ⟨?_, fun l hl => ?_, fun v hv => ?_⟩⟩⟩⟩
    · refine ((fG.refl.gI ?_).gI ?_)
      all_goals (unfold W1; omega)
    · rw [v_o (by omega), v_o (by omega), vc]; exact f1
    · rw [v_o (by omega), v_if (by omega), v_o (by omega), v_o (by omega)]
      have := f2 l hl
      by_cases y : l = i
      · subst y
        rw [if_pos ⟨rfl, rfl⟩, if_pos (by omega), if_pos (by omega)]
        refine ⟨x2.symm, ?_⟩
        rw [fi.2]; unfold tS; rw [if_neg (by omega)]
      · rw [if_neg (by omega)]
        by_cases y2 : l < i
        · rw [if_pos y2, if_pos y2] at this; rw [if_pos (by omega), if_pos (by omega)]; exact this
        · rw [if_neg y2, if_neg y2] at this; rw [if_neg (by omega), if_neg (by omega)]; exact this
    · rw [vc] at hv
      have := f3 v hv
      rw [v_o (by omega), v_o (by omega), v_if (by omega), v_o (by omega), v_o (by omega), v_o (by omega), v_o (by omega), v_o (by omega)]
      refine ⟨this.1, ?_, this.2.2.1, this.2.2.2⟩
      rw [mcn]
      by_cases y : v = x
      · rw [if_pos ⟨rfl, y⟩, if_pos ⟨z, by rw [y]; exact x2⟩, y]; omega
      · rw [if_neg (by omega), if_neg (fun e => y (by omega))]; exact this.2.1
  · obtain ⟨vc, e1⟩ := one z
    have e2 : vI T (q + 2) i = (old (vcn c i) : Int) := by rw [fi.1]; unfold tV; rw [if_pos (by omega), e1, Int.toNat_natCast]
    have ho := hO.1 (vcn c i) (by omega)
    rw [e2]
    refine d_newV hq f1 (by omega) ho (by omega) (fun T1 hf a2 b2 b3 b8 b9 b11 b18 => ⟨rfl, k _ (hf.gI (by unfold W1; omega)) ⟨?_, fun l hl => ?_, fun v hv => ?_⟩⟩)
    · rw [v_o (by omega), a2, vc]; omega
    · rw [v_if (by omega), v_o (by omega), b2, b3]
      have := f2 l hl
      by_cases y : l = i
      · subst y
        rw [if_pos ⟨rfl, rfl⟩, if_pos (by omega), if_pos (by omega)]
        refine ⟨e1.symm, ?_⟩
        rw [fi.2]; unfold tS; rw [if_neg (by omega)]
      · rw [if_neg (by omega)]
        by_cases y2 : l < i
        · rw [if_pos y2, if_pos y2] at this; rw [if_pos (by omega), if_pos (by omega)]; exact this
        · rw [if_neg y2, if_neg y2] at this; rw [if_neg (by omega), if_neg (by omega)]; exact this
    · rw [v_o (by omega), v_o (by omega), v_o (by omega), v_o (by omega), b8, b9, b11, b18, m0 v (by omega)]
      by_cases y : v = vcn c i
      · rw [if_pos y, if_pos y, if_pos y, if_pos (by rw [y]), mcn_new hw (by omega) (by omega), bdN_self hw hi (by omega) hv, y]
        exact ⟨rfl, rfl, rfl, rfl⟩
      · rw [if_neg y, if_neg y, if_neg y, if_neg (fun e => y (hO.2 v _ (by omega) (by omega) e))]
        exact f3 v (by omega)
  · obtain ⟨o21, o22⟩ := o2 z
    have vc : vcn c (i + 1) = vcn c i + 2 := by rw [vcn, if_pos z]
    have e2 : vI T (q + 3) i = (old (vcn c i) : Int) := by rw [fi.2]; unfold tS; rw [if_pos z, o22, Int.toNat_natCast]
    have e3 : vI T (q + 2) i = (old (vcn c i + 1) : Int) := by rw [fi.1]; unfold tV; rw [if_pos (by omega), o21, show ((vcn c i : Int) + 1).toNat = vcn c i + 1 by omega]
    have ho := hO.1 (vcn c i) (by omega)
    have ho1 := hO.1 (vcn c i + 1) (by omega)
    rw [e2]
    refine d_newV hq f1 (by omega) ho (by omega) (fun T1 hf a2 b2 b3 b8 b9 b11 b18 => ?_)
    rw [v_o (by omega), b2, e3]
    refine d_newV (v := vcn c i + 1) hq (by rw [v_o (by omega), a2]; omega) (by omega) ho1 (by omega) (fun T2 hf2 a2' b2' b3' b8' b9' b11' b18' => ⟨rfl, k _ ?_ ⟨?_, fun l hl => ?_, fun v hv => ?_⟩⟩)
    · exact (fG.trans (hf.gI (by unfold W1; omega)) hf2).gI (by unfold W1; omega)
    · rw [v_o (by omega), a2', vc]; omega
    · rw [v_if (by omega), v_o (by omega), b2', b3', v_o (by omega), v_if (by omega), b2, b3]
      have := f2 l hl
      by_cases y : l = i
      · subst y
        rw [if_pos ⟨rfl, rfl⟩, if_pos (by omega), if_pos ⟨rfl, rfl⟩, if_pos (by omega)]
        exact ⟨by omega, o22.symm⟩
      · by_cases y2 : l < i
        · rw [if_pos y2, if_pos y2] at this; rw [if_neg (by omega), if_pos (by omega), if_neg (by omega), if_pos (by omega)]; exact this
        · rw [if_neg y2, if_neg y2] at this; rw [if_neg (by omega), if_neg (by omega), if_neg (by omega), if_neg (by omega)]; exact this
    · rw [v_o (by omega), v_o (by omega), v_o (by omega), v_o (by omega), b8', b9', b11', b18', m0 v (by omega)]
      by_cases y1 : v = vcn c i + 1
      · rw [if_pos y1, if_pos y1, if_pos y1, if_pos (by rw [y1]), mcn_new hw (by omega) (by omega), bdN_self hw hi (by omega) hv, y1]
        exact ⟨rfl, rfl, rfl, rfl⟩
      rw [if_neg y1, if_neg y1, if_neg y1, if_neg (fun e => y1 (hO.2 v _ (by omega) (by omega) e)), v_o (by omega), v_o (by omega), v_o (by omega), v_o (by omega), b8, b9, b11, b18]
      by_cases y : v = vcn c i
      · rw [if_pos y, if_pos y, if_pos y, if_pos (by rw [y]), mcn_new hw (by omega) (by omega), bdN_self hw hi (by omega) hv, y]
        exact ⟨rfl, rfl, rfl, rfl⟩
      · rw [if_neg y, if_neg y, if_neg y, if_neg (fun e => y (hO.2 v _ (by omega) (by omega) e))]
        exact f3 v (by omega)
  · have vc : vcn c (i + 1) = vcn c i := by rw [vcn, if_neg (by omega), if_neg (by omega)]; rfl
    refine ⟨rfl, k T fG.refl ⟨by rw [vc]; exact f1, fun l hl => ?_, fun v hv => ?_⟩⟩
    · have := f2 l hl
      by_cases y : l = i
      · subst y
        rw [if_pos (by omega), if_pos (by omega), fi.1, fi.2]
        unfold tV tS
        rw [if_neg (by omega), if_neg (by omega)]
        exact ⟨rfl, rfl⟩
      · by_cases y2 : l < i
        · rw [if_pos y2, if_pos y2] at this; rw [if_pos (by omega), if_pos (by omega)]; exact this
        · rw [if_neg y2, if_neg y2] at this; rw [if_neg (by omega), if_neg (by omega)]; exact this
    · rw [vc] at hv
      rw [m0 v (by omega)]
      exact f3 v hv
end ST1
