/-! THE REFERENCE CHANGES: functions, meetings, the function round each expr -/
/-- what it knows of labels below i -/
def mCn (T : gT) (a n : Nat) (c : Nat → Nat → Int) (i : Nat) : Prop := a < 2 ∧ vI T 0 3 = (a : Int) ∧ vI T 2 a = (n : Int) ∧ (∀ l w, l < n → w < 7 → cV T a l w = c l w) ∧ vI T 0 8 = (fcn c i : Int) ∧ (∀ l, l < i → vI T 5 l = foN c l) ∧ (∀ l, l < i → isFn c l → vI T 6 (fcn c l) = (l : Int)) ∧ (∀ l, l < i → vI T 7 l = wi c l) ∧ ∀ v, v < 100 → vI T 8 v = (mcn c v i : Int)
/-- what change may change, flows beside -/
def Wc (k i : Nat) : Prop := (k = 0 ∧ (i = 3 ∨ i = 4 ∨ i = 8 ∨ i = 16 ∨ i = 17 ∨ i = 28)) ∨ k = 5 ∨ k = 6 ∨ k = 7 ∨ k = 8
/-- what its loop over the labels may change -/
def Wl (k i : Nat) : Prop := (k = 0 ∧ i = 8) ∨ k = 5 ∨ k = 6 ∨ k = 7 ∨ k = 8
/-- a frame for the ints alone -/
def fI (W : Nat → Nat → Prop) (T T' : gT) : Prop := ∀ k i, ¬ W k i → T'.1 k i = T.1 k i
theorem fI.refl {W : Nat → Nat → Prop} {T : gT} : fI W T T := fun _ _ _ => rfl
theorem fI.trans {W : Nat → Nat → Prop} {T T' T'' : gT} (h : fI W T T') (h2 : fI W T' T'') : fI W T T'' := fun k i q => (h2 k i q).trans (h k i q)
theorem fI.gI {W : Nat → Nat → Prop} {T T' : gT} (h : fI W T T') {k j : Nat} {x : Int32} (hw : W k j) : fI W T (gI T' k j x) := fun k2 i q => by rw [gI_I, if_neg (fun e => q (by rw [e.1, e.2]; exact hw))]; exact h k2 i q
theorem fI.v {W : Nat → Nat → Prop} {T T' : gT} (h : fI W T T') {k i : Nat} (hw : ¬ W k i) : vI T' k i = vI T k i := by unfold vI; rw [h k i hw]
theorem fI.mono {W W2 : Nat → Nat → Prop} {T T' : gT} (h : fI W T T') (h2 : ∀ k i, W k i → W2 k i) : fI W2 T T' := fun k i q => h k i (fun z => q (h2 k i z))
theorem Wl_Wc (k i : Nat) (h : Wl k i) : Wc k i := by unfold Wl at h; unfold Wc; omega
theorem mcn_le {c : Nat → Nat → Int} {v l : Nat} : mcn c v l ≤ l := by
  induction l with
  | zero => exact Nat.le_refl _
  | succ l ih => rw [mcn]; split <;> omega
section CHG
variable {sa : Nat → Nat} {b : Nat} {E : Nat × mH} {d : Nat} {T : gT} {Q : Option Value → gT → Prop} {c : Nat → Nat → Int} {a n nv nf i : Nat}
theorem mCn_cell {l w : Nat} {k j : Nat} {x : Int32} {T1 : gT} (h : ∀ l w, l < n → w < 7 → cV T1 a l w = c l w) (hk : k ≠ 4) : ∀ l w, l < n → w < 7 → cV (gI T1 k j x) a l w = c l w := by
  intro l w hl hw
  rw [← h l w hl hw]; unfold cV; rw [v_o (by omega)]
theorem chg_one {a2 a3 a4 : Int} (hw : wP c n nv nf) (h : mCn T a n c i) (hi : i < n)
    (k : ∀ T' b2 b3 b4, mCn T' a n c (i + 1) → fI Wl T T' → T'.2 = T.2 → gW (tP sa) lM b E (d + 1 + 1) mX7_change 58 [some (.ref (b + 0)), some (.int (zI ((i : Int) + 1))), some (.int (zI b2)), some (.int (zI b3)), some (.int (zI b4))] [] T' Q) :
    gW (tP sa) lM b E (d + 1 + 1) mX7_change 58 [some (.ref (b + 0)), some (.int (zI (i : Int))), none, none, none] [] T Q := by
  obtain ⟨g1, g2, g3, g4⟩ := hw.flat
  have hn := hw.1
  have hnv := hw.2.1
  have hnf := hw.2.2.1
  have hU : ∀ l, l < n → c l 6 = -1 ∨ (0 ≤ c l 6 ∧ c l 6 < l) := by
    intro l hl
    by_cases z : l = 0
    · rw [z]; exact Or.inl g3
    · exact Or.inr ((g4 l hl).2 (by omega))
  obtain ⟨h1, h2, h3, h4, h5, h6, h7, h8, h9⟩ := h
  obtain ⟨q1, q2⟩ := g4 i hi
  have hfi : fcn c (i + 1) ≤ fcn c n := fcn_mono (by omega)
  have hm := fun v => mcn_le (c := c) (v := v) (l := i)
  have ea : (vI T 0 3).toNat = a := by omega
  -- the last piece
  have last : ∀ (T1 : gT) (b2 b3 : Int) (b4 : Int), vI T1 0 3 = (a : Int) → vI T1 2 a = (n : Int) → (∀ l w, l < n → w < 7 → cV T1 a l w = c l w) → vI T1 0 8 = (fcn c (i + 1) : Int) → (∀ l, l < i + 1 → vI T1 5 l = foN c l) → (∀ l, l < i + 1 → isFn c l → vI T1 6 (fcn c l) = (l : Int)) → (∀ l, l < i → vI T1 7 l = wi c l) → (∀ v, v < 100 → vI T1 8 v = (mcn c v (i + 1) : Int)) → fI Wl T T1 → T1.2 = T.2 →
      ∀ (z4 : Option Value), (z4 = none) → gW (tP sa) lM b E (d + 1 + 1) mX7_change 155 [some (.ref (b + 0)), some (.int (zI (i : Int))), some (.int (zI b2)), some (.int (zI b3)), z4] [] T1 Q := by
    intro T1 b2 b3 b4 t1 t2 t3 t4 t5 t6 t7 t8 t9 t10 z4 hz4
    subst hz4
    refine w_X7_change_155 ?_
    unfold f_X7_change_155
    rw [Int.toNat_natCast, show (vI T1 0 3).toNat = a by omega, t3 i 6 hi (by omega)]
    have fin : ∀ x : Int, x = wi c i → gW (tP sa) lM b E (d + 1 + 1) mX7_change 58 [some (.ref (b + 0)), some (.int (zI ((i : Int) + 1))), some (.int (zI b2)), some (.int (zI b3)), some (.int (zI (c i 6)))] [] (gI T1 7 i (zI x)) Q := by
      intro x hx
      have hr := wi_rg hU i hi
      refine k _ _ _ _ ⟨h1, ?_, ?_, mCn_cell (l := 0) (w := 0) t3 (by decide), ?_, ?_, ?_, ?_, ?_⟩ (t9.gI (Or.inr (Or.inr (Or.inr (Or.inl rfl))))) t10
      · rw [v_o (by omega)]; exact t1
      · rw [v_o (by omega)]; exact t2
      · rw [v_o (by omega)]; exact t4
      · intro l hl; rw [v_o (by omega)]; exact t5 l hl
      · intro l hl hf; rw [v_o (by omega)]; exact t6 l hl hf
      · intro l hl
        by_cases e : l = i
        · rw [e, v_s (by omega)]; exact hx
        · rw [v_o (by omega)]; exact t7 l (by omega)
      · intro v hv; rw [v_o (by omega)]; exact t8 v hv
    have hwi := wi_eq hU hi
    have hUi := hU i hi
    refine ⟨by omega, by omega, fun u1 => ⟨by omega, by omega, fun u2 => ⟨by omega, by omega, fin _ ?_⟩, fun u2 => ⟨by omega, by omega, fin _ ?_⟩⟩, fun u1 => ⟨by omega, by omega, fin _ ?_⟩⟩
    · rw [t5 _ (by omega)] at u2
      rw [hwi, if_neg u1, if_pos u2, t7 _ (by omega)]
    · rw [t5 _ (by omega)] at u2 ⊢
      rw [hwi, if_neg u1, if_neg u2]
    · rw [hwi, if_pos u1]
  -- the meetings
  have meet : ∀ (T1 : gT) (b3 : Int), vI T1 0 3 = (a : Int) → vI T1 2 a = (n : Int) → (∀ l w, l < n → w < 7 → cV T1 a l w = c l w) → vI T1 0 8 = (fcn c (i + 1) : Int) → (∀ l, l < i + 1 → vI T1 5 l = foN c l) → (∀ l, l < i + 1 → isFn c l → vI T1 6 (fcn c l) = (l : Int)) → (∀ l, l < i → vI T1 7 l = wi c l) → (∀ v, v < 100 → vI T1 8 v = (mcn c v i : Int)) → fI Wl T T1 → T1.2 = T.2 →
      gW (tP sa) lM b E (d + 1 + 1) mX7_change 136 [some (.ref (b + 0)), some (.int (zI (i : Int))), some (.int (zI (c i 0))), some (.int (zI b3)), none] [] T1 Q := by
    intro T1 b3 t1 t2 t3 t4 t5 t6 t7 t8 t9 t10
    refine w_X7_change_136 ?_
    unfold f_X7_change_136
    rw [Int.toNat_natCast, show (vI T1 0 3).toNat = a by omega, t3 i 1 hi (by omega)]
    have hk0 := q1.1
    refine ⟨by omega, fun u1 => ?_, fun u1 => ?_⟩
    · refine last T1 _ _ 0 t1 t2 t3 t4 t5 t6 t7 (fun v hv => ?_) t9 t10 _ rfl
      rw [t8 v hv, mcn, if_neg (fun z => u1 z.1)]; rfl
    · have hv1 := q1.2.1 (Or.inl u1)
      refine ⟨by omega, by omega, by omega, by omega, last _ _ _ 0 ?_ ?_ (mCn_cell (l := 0) (w := 0) t3 (by decide)) ?_ ?_ ?_ ?_ (fun v hv => ?_) (t9.gI (Or.inr (Or.inr (Or.inr (Or.inr rfl))))) t10 _ rfl⟩
      · rw [v_o (by omega)]; exact t1
      · rw [v_o (by omega)]; exact t2
      · rw [v_o (by omega)]; exact t4
      · intro l hl; rw [v_o (by omega)]; exact t5 l hl
      · intro l hl hf; rw [v_o (by omega)]; exact t6 l hl hf
      · intro l hl; rw [v_o (by omega)]; exact t7 l hl
      · have hmv := hm v
        by_cases e : v = (c i 1).toNat
        · rw [← e, v_s (by rw [t8 v hv]; omega), t8 v hv, mcn, if_pos ⟨u1, by omega⟩]; omega
        · rw [v_o (by omega), t8 v hv, mcn, if_neg (fun z => e (by omega))]; rfl
  -- is it a function
  have h93 : ∀ s0 : Int, (s0 = 1 ∧ isFn c i) ∨ (s0 = 0 ∧ ¬ isFn c i) → gW (tP sa) lM b E (d + 1 + 1) mX7_change 93 [some (.ref (b + 0)), some (.int (zI (i : Int))), some (.int (zI (c i 0))), none, none] [.int (zI s0)] T Q := by
    intro s0 hs
    refine w_X7_change_93 ?_
    unfold f_X7_change_93
    refine ⟨by omega, fun u1 => ?_, fun u1 => ?_⟩
    · have hnf' : ¬ isFn c i := by rcases hs with z | z; omega; exact z.2
      have e0 : foN c i = -1 := by unfold foN; rw [if_neg hnf']
      have e1 : fcn c (i + 1) = fcn c i := by rw [fcn, if_neg hnf']; rfl
      refine w_X7_change_111 ?_
      unfold f_X7_change_111
      rw [Int.toNat_natCast]
      refine ⟨by omega, by omega, by omega, fun _ => meet _ _ ?_ ?_ (mCn_cell (l := 0) (w := 0) h4 (by decide)) ?_ ?_ ?_ ?_ ?_ (fI.refl.gI (Or.inr (Or.inl rfl))) rfl, fun z => absurd u1 z⟩
      · rw [v_o (by omega)]; exact h2
      · rw [v_o (by omega)]; exact h3
      · rw [v_o (by omega), e1]; exact h5
      · intro l hl
        by_cases e : l = i
        · rw [e, v_s (by omega), e0]
        · rw [v_o (by omega)]; exact h6 l (by omega)
      · intro l hl hf
        by_cases e : l = i
        · rw [e] at hf; exact absurd hf hnf'
        · rw [v_o (by omega)]; exact h7 l (by omega) hf
      · intro l hl; rw [v_o (by omega)]; exact h8 l hl
      · intro v hv; rw [v_o (by omega)]; exact h9 v hv
    · have hf : isFn c i := by rcases hs with z | z; exact z.2; omega
      have e0 : foN c i = (fcn c i : Int) := by unfold foN; rw [if_pos hf]
      have e1 : fcn c (i + 1) = fcn c i + 1 := by rw [fcn, if_pos hf]
      refine w_X7_change_111 ?_
      unfold f_X7_change_111
      rw [Int.toNat_natCast, h5]
      refine ⟨by omega, by omega, by omega, fun z => absurd z u1, fun _ => ⟨by omega, by omega, ?_⟩⟩
      rw [Int.toNat_natCast]
      refine meet _ _ ?_ ?_ (mCn_cell (l := 0) (w := 0) (mCn_cell (l := 0) (w := 0) (mCn_cell (l := 0) (w := 0) h4 (by decide)) (by decide)) (by decide)) ?_ ?_ ?_ ?_ ?_ (((fI.refl.gI (Or.inr (Or.inl rfl))).gI (Or.inr (Or.inr (Or.inl rfl)))).gI (Or.inl ⟨rfl, rfl⟩)) rfl
      · rw [v_o (by omega), v_o (by omega), v_o (by omega)]; exact h2
      · rw [v_o (by omega), v_o (by omega), v_o (by omega)]; exact h3
      · rw [v_s (by omega)]; omega
      · intro l hl
        rw [v_o (by omega), v_o (by omega)]
        by_cases e : l = i
        · rw [e, v_s (by omega), e0]
        · rw [v_o (by omega)]; exact h6 l (by omega)
      · intro l hl hfl
        rw [v_o (by omega)]
        by_cases e : l = i
        · rw [e, v_s (by omega)]
        · have h10 : fcn c (l + 1) ≤ fcn c i := fcn_mono (by omega)
          rw [fcn, if_pos hfl] at h10
          rw [v_o (by omega), v_o (by omega)]; exact h7 l (by omega) hfl
      · intro l hl; rw [v_o (by omega), v_o (by omega), v_o (by omega)]; exact h8 l hl
      · intro v hv; rw [v_o (by omega), v_o (by omega), v_o (by omega)]; exact h9 v hv
  refine w_X7_change_58 ?_
  unfold f_X7_change_58
  rw [ea, h3, h2, Int.toNat_natCast, h4 i 0 hi (by omega)]
  refine ⟨by omega, by omega, by omega, fun z => absurd z (by omega), fun _ => ⟨by omega, by omega, fun k2 => ?_, fun k2 => ⟨fun k3 => ?_, fun k3 => ?_⟩⟩⟩
  · exact w_X7_change_88 (h93 1 (Or.inl ⟨rfl, Or.inl k2⟩))
  · exact h93 0 (Or.inr ⟨rfl, fun z => by rcases z with z | z; exact k2 z; exact k3 z⟩)
  · exact w_X7_change_88 (h93 1 (Or.inl ⟨rfl, Or.inr k3⟩))
theorem chg_oneb {a2 a3 a4 : Int} (hw : wP c n nv nf) (h : mCn T a n c i) (hi : i < n)
    (k : ∀ T' b2 b3 b4, mCn T' a n c (i + 1) → fI Wl T T' → T'.2 = T.2 → gW (tP sa) lM b E (d + 1 + 1) mX7_change 58 [some (.ref (b + 0)), some (.int (zI ((i : Int) + 1))), some (.int (zI b2)), some (.int (zI b3)), some (.int (zI b4))] [] T' Q) :
    gW (tP sa) lM b E (d + 1 + 1) mX7_change 58 [some (.ref (b + 0)), some (.int (zI (i : Int))), some (.int (zI a2)), some (.int (zI a3)), some (.int (zI a4))] [] T Q := by
  obtain ⟨g1, g2, g3, g4⟩ := hw.flat
  have hn := hw.1
  have hnv := hw.2.1
  have hnf := hw.2.2.1
  have hU : ∀ l, l < n → c l 6 = -1 ∨ (0 ≤ c l 6 ∧ c l 6 < l) := by
    intro l hl
    by_cases z : l = 0
    · rw [z]; exact Or.inl g3
    · exact Or.inr ((g4 l hl).2 (by omega))
  obtain ⟨h1, h2, h3, h4, h5, h6, h7, h8, h9⟩ := h
  obtain ⟨q1, q2⟩ := g4 i hi
  have hfi : fcn c (i + 1) ≤ fcn c n := fcn_mono (by omega)
  have hm := fun v => mcn_le (c := c) (v := v) (l := i)
  have ea : (vI T 0 3).toNat = a := by omega
  -- the last piece
  have last : ∀ (T1 : gT) (b2 b3 : Int) (b4 : Int), vI T1 0 3 = (a : Int) → vI T1 2 a = (n : Int) → (∀ l w, l < n → w < 7 → cV T1 a l w = c l w) → vI T1 0 8 = (fcn c (i + 1) : Int) → (∀ l, l < i + 1 → vI T1 5 l = foN c l) → (∀ l, l < i + 1 → isFn c l → vI T1 6 (fcn c l) = (l : Int)) → (∀ l, l < i → vI T1 7 l = wi c l) → (∀ v, v < 100 → vI T1 8 v = (mcn c v (i + 1) : Int)) → fI Wl T T1 → T1.2 = T.2 →
      ∀ (z4 : Option Value), (z4 = some (.int (zI a4))) → gW (tP sa) lM b E (d + 1 + 1) mX7_change 155 [some (.ref (b + 0)), some (.int (zI (i : Int))), some (.int (zI b2)), some (.int (zI b3)), z4] [] T1 Q := by
    intro T1 b2 b3 b4 t1 t2 t3 t4 t5 t6 t7 t8 t9 t10 z4 hz4
    subst hz4
    refine w_X7_change_155b ?_
    unfold f_X7_change_155b
    rw [Int.toNat_natCast, show (vI T1 0 3).toNat = a by omega, t3 i 6 hi (by omega)]
    have fin : ∀ x : Int, x = wi c i → gW (tP sa) lM b E (d + 1 + 1) mX7_change 58 [some (.ref (b + 0)), some (.int (zI ((i : Int) + 1))), some (.int (zI b2)), some (.int (zI b3)), some (.int (zI (c i 6)))] [] (gI T1 7 i (zI x)) Q := by
      intro x hx
      have hr := wi_rg hU i hi
      refine k _ _ _ _ ⟨h1, ?_, ?_, mCn_cell (l := 0) (w := 0) t3 (by decide), ?_, ?_, ?_, ?_, ?_⟩ (t9.gI (Or.inr (Or.inr (Or.inr (Or.inl rfl))))) t10
      · rw [v_o (by omega)]; exact t1
      · rw [v_o (by omega)]; exact t2
      · rw [v_o (by omega)]; exact t4
      · intro l hl; rw [v_o (by omega)]; exact t5 l hl
      · intro l hl hf; rw [v_o (by omega)]; exact t6 l hl hf
      · intro l hl
        by_cases e : l = i
        · rw [e, v_s (by omega)]; exact hx
        · rw [v_o (by omega)]; exact t7 l (by omega)
      · intro v hv; rw [v_o (by omega)]; exact t8 v hv
    have hwi := wi_eq hU hi
    have hUi := hU i hi
    refine ⟨by omega, by omega, fun u1 => ⟨by omega, by omega, fun u2 => ⟨by omega, by omega, fin _ ?_⟩, fun u2 => ⟨by omega, by omega, fin _ ?_⟩⟩, fun u1 => ⟨by omega, by omega, fin _ ?_⟩⟩
    · rw [t5 _ (by omega)] at u2
      rw [hwi, if_neg u1, if_pos u2, t7 _ (by omega)]
    · rw [t5 _ (by omega)] at u2 ⊢
      rw [hwi, if_neg u1, if_neg u2]
    · rw [hwi, if_pos u1]
  -- the meetings
  have meet : ∀ (T1 : gT) (b3 : Int), vI T1 0 3 = (a : Int) → vI T1 2 a = (n : Int) → (∀ l w, l < n → w < 7 → cV T1 a l w = c l w) → vI T1 0 8 = (fcn c (i + 1) : Int) → (∀ l, l < i + 1 → vI T1 5 l = foN c l) → (∀ l, l < i + 1 → isFn c l → vI T1 6 (fcn c l) = (l : Int)) → (∀ l, l < i → vI T1 7 l = wi c l) → (∀ v, v < 100 → vI T1 8 v = (mcn c v i : Int)) → fI Wl T T1 → T1.2 = T.2 →
      gW (tP sa) lM b E (d + 1 + 1) mX7_change 136 [some (.ref (b + 0)), some (.int (zI (i : Int))), some (.int (zI (c i 0))), some (.int (zI b3)), some (.int (zI a4))] [] T1 Q := by
    intro T1 b3 t1 t2 t3 t4 t5 t6 t7 t8 t9 t10
    refine w_X7_change_136b ?_
    unfold f_X7_change_136b
    rw [Int.toNat_natCast, show (vI T1 0 3).toNat = a by omega, t3 i 1 hi (by omega)]
    have hk0 := q1.1
    refine ⟨by omega, fun u1 => ?_, fun u1 => ?_⟩
    · refine last T1 _ _ 0 t1 t2 t3 t4 t5 t6 t7 (fun v hv => ?_) t9 t10 _ rfl
      rw [t8 v hv, mcn, if_neg (fun z => u1 z.1)]; rfl
    · have hv1 := q1.2.1 (Or.inl u1)
      refine ⟨by omega, by omega, by omega, by omega, last _ _ _ 0 ?_ ?_ (mCn_cell (l := 0) (w := 0) t3 (by decide)) ?_ ?_ ?_ ?_ (fun v hv => ?_) (t9.gI (Or.inr (Or.inr (Or.inr (Or.inr rfl))))) t10 _ rfl⟩
      · rw [v_o (by omega)]; exact t1
      · rw [v_o (by omega)]; exact t2
      · rw [v_o (by omega)]; exact t4
      · intro l hl; rw [v_o (by omega)]; exact t5 l hl
      · intro l hl hf; rw [v_o (by omega)]; exact t6 l hl hf
      · intro l hl; rw [v_o (by omega)]; exact t7 l hl
      · have hmv := hm v
        by_cases e : v = (c i 1).toNat
        · rw [← e, v_s (by rw [t8 v hv]; omega), t8 v hv, mcn, if_pos ⟨u1, by omega⟩]; omega
        · rw [v_o (by omega), t8 v hv, mcn, if_neg (fun z => e (by omega))]; rfl
  -- is it a function
  have h93 : ∀ s0 : Int, (s0 = 1 ∧ isFn c i) ∨ (s0 = 0 ∧ ¬ isFn c i) → gW (tP sa) lM b E (d + 1 + 1) mX7_change 93 [some (.ref (b + 0)), some (.int (zI (i : Int))), some (.int (zI (c i 0))), some (.int (zI a3)), some (.int (zI a4))] [.int (zI s0)] T Q := by
    intro s0 hs
    refine w_X7_change_93b ?_
    unfold f_X7_change_93b
    refine ⟨by omega, fun u1 => ?_, fun u1 => ?_⟩
    · have hnf' : ¬ isFn c i := by rcases hs with z | z; omega; exact z.2
      have e0 : foN c i = -1 := by unfold foN; rw [if_neg hnf']
      have e1 : fcn c (i + 1) = fcn c i := by rw [fcn, if_neg hnf']; rfl
      refine w_X7_change_111b ?_
      unfold f_X7_change_111b
      rw [Int.toNat_natCast]
      refine ⟨by omega, by omega, by omega, fun _ => meet _ _ ?_ ?_ (mCn_cell (l := 0) (w := 0) h4 (by decide)) ?_ ?_ ?_ ?_ ?_ (fI.refl.gI (Or.inr (Or.inl rfl))) rfl, fun z => absurd u1 z⟩
      · rw [v_o (by omega)]; exact h2
      · rw [v_o (by omega)]; exact h3
      · rw [v_o (by omega), e1]; exact h5
      · intro l hl
        by_cases e : l = i
        · rw [e, v_s (by omega), e0]
        · rw [v_o (by omega)]; exact h6 l (by omega)
      · intro l hl hf
        by_cases e : l = i
        · rw [e] at hf; exact absurd hf hnf'
        · rw [v_o (by omega)]; exact h7 l (by omega) hf
      · intro l hl; rw [v_o (by omega)]; exact h8 l hl
      · intro v hv; rw [v_o (by omega)]; exact h9 v hv
    · have hf : isFn c i := by rcases hs with z | z; exact z.2; omega
      have e0 : foN c i = (fcn c i : Int) := by unfold foN; rw [if_pos hf]
      have e1 : fcn c (i + 1) = fcn c i + 1 := by rw [fcn, if_pos hf]
      refine w_X7_change_111b ?_
      unfold f_X7_change_111b
      rw [Int.toNat_natCast, h5]
      refine ⟨by omega, by omega, by omega, fun z => absurd z u1, fun _ => ⟨by omega, by omega, ?_⟩⟩
      rw [Int.toNat_natCast]
      refine meet _ _ ?_ ?_ (mCn_cell (l := 0) (w := 0) (mCn_cell (l := 0) (w := 0) (mCn_cell (l := 0) (w := 0) h4 (by decide)) (by decide)) (by decide)) ?_ ?_ ?_ ?_ ?_ (((fI.refl.gI (Or.inr (Or.inl rfl))).gI (Or.inr (Or.inr (Or.inl rfl)))).gI (Or.inl ⟨rfl, rfl⟩)) rfl
      · rw [v_o (by omega), v_o (by omega), v_o (by omega)]; exact h2
      · rw [v_o (by omega), v_o (by omega), v_o (by omega)]; exact h3
      · rw [v_s (by omega)]; omega
      · intro l hl
        rw [v_o (by omega), v_o (by omega)]
        by_cases e : l = i
        · rw [e, v_s (by omega), e0]
        · rw [v_o (by omega)]; exact h6 l (by omega)
      · intro l hl hfl
        rw [v_o (by omega)]
        by_cases e : l = i
        · rw [e, v_s (by omega)]
        · have h10 : fcn c (l + 1) ≤ fcn c i := fcn_mono (by omega)
          rw [fcn, if_pos hfl] at h10
          rw [v_o (by omega), v_o (by omega)]; exact h7 l (by omega) hfl
      · intro l hl; rw [v_o (by omega), v_o (by omega), v_o (by omega)]; exact h8 l hl
      · intro v hv; rw [v_o (by omega), v_o (by omega), v_o (by omega)]; exact h9 v hv
  refine w_X7_change_58b ?_
  unfold f_X7_change_58b
  rw [ea, h3, h2, Int.toNat_natCast, h4 i 0 hi (by omega)]
  refine ⟨by omega, by omega, by omega, fun z => absurd z (by omega), fun _ => ⟨by omega, by omega, fun k2 => ?_, fun k2 => ⟨fun k3 => ?_, fun k3 => ?_⟩⟩⟩
  · exact w_X7_change_88b (h93 1 (Or.inl ⟨rfl, Or.inl k2⟩))
  · exact h93 0 (Or.inr ⟨rfl, fun z => by rcases z with z | z; exact k2 z; exact k3 z⟩)
  · exact w_X7_change_88b (h93 1 (Or.inl ⟨rfl, Or.inr k3⟩))
theorem chg_lp (hw : wP c n nv nf) (k : ∀ T', mCn T' a n c n → fI Wl T T' → T'.2 = T.2 → gC (tP sa) lM b E (d + 1) mX7_findFlows [.ref (b + 0)] T' (fun r T215 => pV r (Q none T215))) :
    ∀ (j i : Nat) (T1 : gT) (a2 a3 a4 : Int), n - i = j → i ≤ n → mCn T1 a n c i → fI Wl T T1 → T1.2 = T.2 → gW (tP sa) lM b E (d + 1 + 1) mX7_change 58 [some (.ref (b + 0)), some (.int (zI (i : Int))), some (.int (zI a2)), some (.int (zI a3)), some (.int (zI a4))] [] T1 Q := by
  intro j
  have hn := hw.1
  induction j with
  | zero =>
    intro i T1 a2 a3 a4 hj hi h hf ht
    obtain rfl : i = n := by omega
    refine w_X7_change_58b ?_
    unfold f_X7_change_58b
    obtain ⟨h1, h2, h3, h4⟩ := id h
    rw [show (vI T1 0 3).toNat = a by omega, h3]
    exact ⟨by omega, by omega, by omega, fun _ => k T1 h hf ht, fun z => absurd z (by omega)⟩
  | succ j ih =>
    intro i T1 a2 a3 a4 hj hi h hf ht
    refine chg_oneb hw h (by omega) (fun T' b2 b3 b4 h' hf' ht' => ?_)
    have := ih (i + 1) T' b2 b3 b4 (by omega) (by omega) h' (hf.trans hf') (ht'.trans ht)
    rw [show ((i + 1 : Nat) : Int) = (i : Int) + 1 by omega] at this
    exact this
theorem c_change_to {p : Nat} (hw : wP c n nv nf) (hp : p < 2) (hnow : vI T 0 3 = 1 - (p : Int)) (hex : vI T 2 p = (n : Int)) (hcl : ∀ l w, l < n → w < 7 → cV T p l w = c l w)
    (k : ∀ T', mCn T' p n c n → fI Wc T T' → vI T' 0 4 = 1 → vI T' 0 16 = 0 → vI T' 0 17 = 0 → T'.2 = (gJ T 0 18 0).2 → gC (tP sa) lM b E (d + 1) mX7_findFlows [.ref (b + 0)] T' (fun r T215 => pV r (Q none T215))) :
    gC (tP sa) lM b E (d + 1 + 1) mX7_change [.ref (b + 0)] T Q := by
  have hn := hw.1
  obtain ⟨g1, g2, g3, g4⟩ := hw.flat
  have lp : ∀ (j i : Nat) (T1 : gT), 100 - i = j → i ≤ 100 → vI T1 0 3 = (p : Int) → vI T1 2 p = (n : Int) → (∀ l w, l < n → w < 7 → cV T1 p l w = c l w) → vI T1 0 8 = 0 → (∀ v, v < i → vI T1 8 v = 0) → fI Wc T T1 → vI T1 0 4 = 1 → vI T1 0 16 = 0 → vI T1 0 17 = 0 → T1.2 = (gJ T 0 18 0).2 →
      gW (tP sa) lM b E (d + 1 + 1) mX7_change 37 [some (.ref (b + 0)), some (.int (zI (i : Int))), none, none, none] [] T1 Q := by
    intro j
    induction j with
    | zero =>
      intro i T1 hj hi t1 t2 t3 t4 t5 t6 t7 t8 t9 t10
      refine w_X7_change_37 ?_
      unfold f_X7_change_37
      refine ⟨by omega, fun _ => ?_, fun z => absurd z (by omega)⟩
      have hm0 : mCn T1 p n c 0 := ⟨hp, t1, t2, t3, t4, fun l hl => by omega, fun l hl => by omega, fun l hl => by omega, fun v hv => t5 v (by omega)⟩
      refine chg_one (a2 := 0) (a3 := 0) (a4 := 0) (i := 0) hw hm0 g1 (fun T' b2 b3 b4 h' hf' ht' => ?_)
      refine chg_lp (sa := sa) (b := b) (E := E) (d := d) (Q := Q) (T := T') hw (fun T'' h'' hf'' ht'' => ?_) _ 1 T' b2 b3 b4 rfl g1 h' fI.refl rfl
      have ff := hf'.trans hf''
      refine k T'' h'' (t6.trans (ff.mono Wl_Wc)) ?_ ?_ ?_ ((ht''.trans ht').trans t10)
      · rw [ff.v (by unfold Wl; omega)]; exact t7
      · rw [ff.v (by unfold Wl; omega)]; exact t8
      · rw [ff.v (by unfold Wl; omega)]; exact t9
    | succ j ih =>
      intro i T1 hj hi t1 t2 t3 t4 t5 t6 t7 t8 t9 t10
      refine w_X7_change_37 ?_
      unfold f_X7_change_37
      refine ⟨by omega, fun z => absurd z (by omega), fun _ => ⟨by omega, by omega, ?_⟩⟩
      rw [Int.toNat_natCast]
      have := ih (i + 1) (gI T1 8 i (zI 0)) (by omega) (by omega) (by rw [v_o (by omega)]; exact t1) (by rw [v_o (by omega)]; exact t2) (mCn_cell (l := 0) (w := 0) t3 (by decide)) (by rw [v_o (by omega)]; exact t4) (fun v hv => by
        by_cases e : v = i
        · rw [e, v_s (by omega)]
        · rw [v_o (by omega)]; exact t5 v (by omega)) (t6.gI (Or.inr (Or.inr (Or.inr (Or.inr rfl))))) (by rw [v_o (by omega)]; exact t7) (by rw [v_o (by omega)]; exact t8) (by rw [v_o (by omega)]; exact t9) t10
      rw [show ((i + 1 : Nat) : Int) = (i : Int) + 1 by omega] at this
      exact this
  refine w_X7_change (d := d) ?_
  unfold f_X7_change
  have e1p : (1 : Int) - vI T 0 3 = (p : Int) := by omega
  rw [e1p]
  refine lp _ 0 _ rfl (by omega) ?_ ?_ ?_ ?_ (fun v hv => by omega) ?_ ?_ ?_ ?_ ?_
  · repeat first | rw [v_o (by omega)] | rw [vI_gJ] | rw [v_s (by omega)]
  · repeat first | rw [v_o (by omega)] | rw [vI_gJ]
    exact hex
  · intro l w hl hw2
    rw [← hcl l w hl hw2]
    unfold cV
    repeat first | rw [v_o (by omega)] | rw [vI_gJ]
  · repeat first | rw [v_o (by omega)] | rw [vI_gJ] | rw [v_s (by omega)]
  · have f0 : fI Wc T (gI (gI (gI (gI T 0 3 (zI (p : Int))) 0 4 (zI 1)) 0 16 (zI 0)) 0 17 (zI 0)) := (((fI.refl.gI (Or.inl ⟨rfl, by omega⟩)).gI (Or.inl ⟨rfl, by omega⟩)).gI (Or.inl ⟨rfl, by omega⟩)).gI (Or.inl ⟨rfl, by omega⟩)
    have f1 : fI Wc T (gJ (gI (gI (gI (gI T 0 3 (zI (p : Int))) 0 4 (zI 1)) 0 16 (zI 0)) 0 17 (zI 0)) 0 18 0) := f0
    exact f1.gI (Or.inl ⟨rfl, by omega⟩)
  · repeat first | rw [v_o (by omega)] | rw [vI_gJ] | rw [v_s (by omega)]
  · repeat first | rw [v_o (by omega)] | rw [vI_gJ] | rw [v_s (by omega)]
  · repeat first | rw [v_o (by omega)] | rw [vI_gJ] | rw [v_s (by omega)]
  · rfl
end CHG
