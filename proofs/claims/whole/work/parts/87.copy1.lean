/-! THE REFERENCE COPIES -/
def Wk (p k i : Nat) : Prop := (k = 0 ∧ (i = 48 ∨ i = 49)) ∨ ((k = 2 ∨ k = 3) ∧ i = p) ∨ (k = 4 ∧ 1400 * p ≤ i ∧ i < 1400 * p + 1400) ∨ k = 27
/-- it copies into p: exprs, variables, functions there -/
def cpS (T0 T : gT) (p n1 m1 q1 : Nat) : Prop := fr (Wk p) T0 T ∧ vI T 2 p = (n1 : Int) ∧ n1 ≤ 200 ∧ vI T 3 p = (m1 : Int) ∧ m1 ≤ 100 ∧ vI T 0 48 = (q1 : Int) ∧ q1 ≤ 50 ∧ vI T 0 49 = 0
/-- there is no room -/
def cpF (T0 T : gT) (p : Nat) : Prop := fr (Wk p) T0 T ∧ vI T 0 49 = 1 ∧ 0 ≤ vI T 3 p ∧ vI T 3 p ≤ 100
def CM (T : gT) (p : Nat) (c : Nat → Nat → Int) (A B Av Bv : Nat) (R : Nat → Nat) (up : Int) (l x y : Nat) : Prop := ∀ j, x ≤ j → j < y → ∀ w, w < 7 → cV T p (j + B - A) w = mvC c A B Av Bv R up l j w
section CP
variable {sa : Nat → Nat} {b : Nat} {E : Nat × mH} {d : Nat} {T0 T T' : gT} {a p : Nat} {c : Nat → Nat → Int} {n nv nf n1 m1 q1 : Nat} {Q : Option Value → gT → Prop}
theorem cp_P (hp : rPa T0 a c n nv nf) (hpa : p + a = 1) (hf : fr (Wk p) T0 T) : rPa T a c n nv nf := hp.of (fun k j z => hf.v (by unfold Wk; omega)) (fun k j _ _ => by rw [hf.2])
theorem k_fresh (ha : a < 2) (hpa : p + a = 1) (h3 : vI T 0 3 = (a : Int)) {φ : Int → gT → Prop} (h : cpS T0 T p n1 m1 q1)
    (kY : m1 < 100 → ∀ T', cpS T0 T' p n1 (m1 + 1) q1 → (∀ k i, ¬ (k = 0 ∧ i = 49) → ¬ (k = 3 ∧ i = p) → T'.1 k i = T.1 k i) → φ (m1 : Int) T') (kN : m1 = 100 → ∀ T', cpF T0 T' p → φ 100 T') : gC (tP sa) lM b E d mX7_fresh [.ref (b + 0)] T (fun r T' => pI r (fun v => φ v T')) := by
  obtain ⟨g1, g2, g3, g4, g5, g6, g7, g8⟩ := h
  have ep : (1 - vI T 0 3).toNat = p := by omega
  refine w_X7_fresh ?_
  unfold f_X7_fresh
  rw [ep, g4]
  have s1 : ∀ s0 : Int, (s0 = 0 ∨ s0 = 1) → ((s0 = 0) ↔ m1 < 100) → gW (tP sa) lM b E d mX7_fresh 31 [some (.ref (b + 0)), some (.int (zI (m1 : Int)))] [.int (zI s0), .ref (b + 0)] T (fun r T' => pI r (fun v => φ v T')) := by
    intro s0 hs hm
    refine w_X7_fresh_31 ?_
    unfold f_X7_fresh_31
    rw [ep, g4]
    refine ⟨hs, by omega, by omega, by omega, fun z => ⟨_, rfl, ?_⟩, fun z => ⟨_, rfl, ?_⟩⟩
    · have hm1 := hm.mp z
      refine kY hm1 _ ⟨(g1.gI (Or.inl ⟨rfl, by omega⟩)).gI (Or.inr (Or.inl ⟨by omega, rfl⟩)), ?_, g3, ?_, by omega, ?_, g7, ?_⟩ (fun k i z1 z2 => ?_)
      · rw [v_o (by omega), v_o (by omega)]; exact g2
      · rw [v_s (by omega)]; omega
      · rw [v_o (by omega), v_o (by omega)]; exact g6
      · rw [v_o (by omega), z, v_s (by omega)]
      · rw [gI_I, if_neg (by omega), gI_I, if_neg (by omega)]
    · have hm1 : m1 = 100 := by omega
      have hs1 : s0 = 1 := by omega
      subst hm1
      refine kN rfl _ ⟨(g1.gI (Or.inl ⟨rfl, by omega⟩)).gI (Or.inr (Or.inl ⟨by omega, rfl⟩)), ?_, ?_⟩
      · rw [v_o (by omega), v_s (by omega)]; exact hs1
      · rw [v_s (by omega)]; omega
  refine ⟨by omega, by omega, fun z => by omega, fun _ => ⟨fun z => s1 0 (Or.inl rfl) (by omega), fun z => ?_⟩⟩
  refine w_X7_fresh_26 ?_
  unfold f_X7_fresh_26
  exact s1 1 (Or.inr rfl) (by omega)
theorem k_freshF (ha : a < 2) (hpa : p + a = 1) (h3 : vI T 0 3 = (a : Int)) {φ : Int → gT → Prop} (h : cpF T0 T p) (kN : ∀ v T', (0 ≤ v ∧ v ≤ 100) → cpF T0 T' p → φ v T') : gC (tP sa) lM b E d mX7_fresh [.ref (b + 0)] T (fun r T' => pI r (fun v => φ v T')) := by
  obtain ⟨g1, g2, g3, g4⟩ := h
  have ep : (1 - vI T 0 3).toNat = p := by omega
  refine w_X7_fresh ?_
  unfold f_X7_fresh
  rw [ep]
  refine ⟨by omega, by omega, fun _ => ?_, fun z => by omega⟩
  refine w_X7_fresh_26 ?_
  unfold f_X7_fresh_26
  refine w_X7_fresh_31 ?_
  unfold f_X7_fresh_31
  rw [ep]
  refine ⟨by omega, by omega, by omega, by omega, fun z => by omega, fun z => ⟨_, rfl, kN _ _ ⟨g3, g4⟩ ⟨(g1.gI (Or.inl ⟨rfl, by omega⟩)).gI (Or.inr (Or.inl ⟨by omega, rfl⟩)), ?_, ?_⟩⟩⟩
  · rw [v_o (by omega), v_s (by omega)]
  · rw [v_s (by omega)]; omega
theorem k_copyF {l l3 part : Int} {φ : Int → gT → Prop} (h : cpF T0 T p) (kN : φ (-1) T) : gC (tP sa) lM b E (d + 2) mX7_copy [.ref (b + 0), .int (zI l), .int (zI part), .int (zI l3)] T (fun r T' => pI r (fun v => φ v T')) := by
  refine w_X7_copy (d := d) ?_
  unfold f_X7_copy
  exact ⟨fun z => by have := h.2.1; omega, fun _ => ⟨_, rfl, kN⟩⟩
theorem cpF.cst {l w : Nat} {x : Int} (h : cpF T0 T p) (hl : l < 200) (hw : w < 7) : cpF T0 (cS T p l w x) p := by
  obtain ⟨g1, g2, g3⟩ := h
  unfold cS
  exact ⟨g1.gI (Or.inr (Or.inr (Or.inl ⟨rfl, by omega, by omega⟩))), by rw [v_o (by omega)]; exact g2, by rw [v_o (by omega)]; exact g3⟩
theorem cpF.row {i : Nat} {x : Int32} (h : cpF T0 T p) : cpF T0 (gI T 27 i x) p := by
  obtain ⟨g1, g2, g3⟩ := h
  exact ⟨g1.gI (Or.inr (Or.inr (Or.inr rfl))), by rw [v_o (by omega)]; exact g2, by rw [v_o (by omega)]; exact g3⟩
theorem cpS.cst {l w : Nat} {x : Int} (h : cpS T0 T p n1 m1 q1) (hl : l < 200) (hw : w < 7) : cpS T0 (cS T p l w x) p n1 m1 q1 := by
  obtain ⟨g1, g2, g3, g4, g5, g6, g7, g8⟩ := h
  unfold cS
  exact ⟨g1.gI (Or.inr (Or.inr (Or.inl ⟨rfl, by omega, by omega⟩))), by rw [v_o (by omega)]; exact g2, g3, by rw [v_o (by omega)]; exact g4, g5, by rw [v_o (by omega)]; exact g6, g7, by rw [v_o (by omega)]; exact g8⟩
theorem cpS.row {i : Nat} {x : Int32} (h : cpS T0 T p n1 m1 q1) : cpS T0 (gI T 27 i x) p n1 m1 q1 := by
  obtain ⟨g1, g2, g3, g4, g5, g6, g7, g8⟩ := h
  exact ⟨g1.gI (Or.inr (Or.inr (Or.inr rfl))), by rw [v_o (by omega)]; exact g2, g3, by rw [v_o (by omega)]; exact g4, g5, by rw [v_o (by omega)]; exact g6, g7, by rw [v_o (by omega)]; exact g8⟩
/-- begin -/
theorem cpS.beg {k v u : Int32} (h : cpS T0 T p n1 m1 q1) (hn : n1 < 200) : cpS T0 (mBeg T p n1 k v u) p (n1 + 1) m1 q1 := by
  obtain ⟨g1, g2, g3, g4, g5, g6, g7, g8⟩ := h
  refine ⟨⟨fun k2 i z => ?_, g1.2⟩, mBeg_n hn, by omega, by rw [mBeg_o (by omega) (by omega)]; exact g4, g5, by rw [mBeg_o (by omega) (by omega)]; exact g6, g7, by rw [mBeg_o (by omega) (by omega)]; exact g8⟩
  rw [← g1.1 k2 i z]
  have := mBeg_o (T := T) (p := p) (n := n1) (k := k) (v := v) (u := u) (k2 := k2) (j2 := i) (by unfold Wk at z; omega) (by unfold Wk at z; omega)
  unfold vI at this
  exact Int32.toInt_inj.mp this
/-- the loop over the parts, once there is no room -/
theorem lp_full (hp : rPa T0 a c n nv nf) (hpa : p + a = 1) {l n1 : Nat} {part l3 l5 l6 : Int} (hl : l < n) (hn1 : n1 < 200) {φ : Int → gT → Prop} (kN : ∀ T', cpF T0 T' p → φ (n1 : Int) T') : ∀ (j k : Nat) (T : gT) (l9 : Int), j + k = 6 → 3 ≤ k → cpF T0 T p → gW (tP sa) lM b E (d + 4) mX7_copy 288 [some (.ref (b + 0)), some (.int (zI (l : Int))), some (.int (zI part)), some (.int (zI l3)), some (.int (zI (p : Int))), some (.int (zI l5)), some (.int (zI l6)), some (.int (zI (n1 : Int))), some (.int (zI (k : Int))), some (.int (zI l9)), none] [] T (fun r T' => pI r (fun v => φ v T')) := by
  have hn := hp.1.1
  intro j
  induction j with
  | zero =>
    intro k T l9 hj hk hF
    refine w_X7_copy_288b (d := d + 2) ?_
    unfold f_X7_copy_288b
    exact ⟨by omega, fun _ => ⟨_, rfl, kN T hF⟩, fun z => absurd z (by omega)⟩
  | succ j ih =>
    intro k T l9 hj hk hF
    obtain ⟨m1', m2', m3', m4', _⟩ := (cp_P hp hpa hF.1).2.1
    refine w_X7_copy_288b (d := d + 2) ?_
    unfold f_X7_copy_288b
    rw [show (k : Int) + 1 = ((k + 1 : Nat) : Int) by omega]
    refine ⟨by omega, fun z => absurd z (by omega), fun _ => ⟨by omega, by omega, by omega, fun _ => ih (k + 1) T l9 (by omega) (by omega) hF, fun _ => ⟨by omega, by omega, ?_⟩⟩⟩
    refine k_copyF (d := d + 1) hF ⟨by omega, by omega, by omega, ?_⟩
    rw [Int.toNat_natCast, Int.toNat_natCast, Int.toNat_natCast]
    exact ih (k + 1) _ (-1) (by omega) (by omega) (hF.cst hn1 (by omega))
end CP
