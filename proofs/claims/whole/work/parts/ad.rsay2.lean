/-! THE REFERENCE WRITES: exprs -/
def mKeyS (sa : Nat → Nat) (b : Nat) (E : Nat × mH) : Prop := mStr E b (sa 11) [105, 102, 32] ∧ mStr E b (sa 12) [108, 101, 116, 32] ∧ mStr E b (sa 13) [102, 105, 120, 32] ∧ mStr E b (sa 14) [43, 45, 42, 61, 60]
/-- the program's cells -/
def rW (T : gT) (a : Nat) (c : Nat → Nat → Int) (n : Nat) : Prop := a < 2 ∧ vI T 0 3 = (a : Int) ∧ ∀ l w, l < n → w < 7 → cV T a l w = c l w
theorem rW.fBa {T T' : gT} {a k n : Nat} {c : Nat → Nat → Int} (h : rW T a c n) (f : fBa k T T') : rW T' a c n := ⟨h.1, (f.v (by unfold Wb; omega)).trans h.2.1, fun l w h1 h2 => (f.v (by unfold Wb; omega)).trans (h.2.2 l w h1 h2)⟩
section RX
variable {sa : Nat → Nat} {b : Nat} {E : Nat × mH} {d : Nat} {c : Nat → Nat → Int} {n nv nf a : Nat}
/-- an expr is said, f: how deep -/
def hSy (sa : Nat → Nat) (b : Nat) (E : Nat × mH) (D : Nat) (a : Nat) (c : Nat → Nat → Int) (n f : Nat) : Prop := ∀ (l : Nat) (T : gT) (w : List Nat) (φ : gT → Prop), l < n → n ≤ l + f → rW T a c n → mBf T 0 51 28 w → w.length + (sE c f l).length < 500000 → (∀ T', mBf T' 0 51 28 (w ++ sE c f l) → fBa (en c l - l) T T' → φ T') → gC (tP sa) lM b E D mX7_sayExpr [.ref (b + 0), .int (zI (l : Int))] T (fun r T' => pV r (φ T'))
theorem rW.get {T : gT} {l w : Nat} (h : rW T a c n) (hl : l < n) (hw : w < 7) : cV T (vI T 0 3).toNat ((l : Int)).toNat w = c l w := by
  rw [h.2.1, Int.toNat_natCast, Int.toNat_natCast]; exact h.2.2 l w hl hw
theorem rW.gz {T : gT} {l : Nat} {w : Int} (h : rW T a c n) (hl : l < n) (hw : 0 ≤ w ∧ w < 7) : cV T (vI T 0 3).toNat ((l : Int)).toNat w.toNat = c l w.toNat := h.get hl (by omega)
theorem rW.now {T : gT} (h : rW T a c n) : vI T 0 3 = 0 ∨ vI T 0 3 = 1 := by have := h.1; have := h.2.1; omega
/-- the loop over the parts, from the k-th -/
theorem t_124 {f l : Nat} {Q : Option Value → gT → Prop} {T : gT} {w : List Nat} {k m : Nat} {kd : Int} (hw : wP c n nv nf) (hR : hSy sa b E (d + 4) a c n f) (hl : l < n) (h : rW T a c n) (hB : mBf T 0 51 28 w) (hk : k = 3 ∨ k = 4 ∨ k = 5) (hm : c l k = (m : Int)) (hmn : m < n) (hmf : n ≤ m + f) (hlen : w.length + 1 + (sE c f m).length < 500000)
    (kk : ∀ T', mBf T' 0 51 28 (w ++ ((if k = 3 then [] else [32]) ++ sE c f m)) → fBa (en c m - m) T T' → gW (tP sa) lM b E (d + 4 + 1) mX7_sayForm 124 [some (.ref (b + 0)), some (.int (zI (l : Int))), some (.int (zI kd)), some (.int (zI ((k : Int) + 1)))] [] T' Q) :
    gW (tP sa) lM b E (d + 4 + 1) mX7_sayForm 124 [some (.ref (b + 0)), some (.int (zI (l : Int))), some (.int (zI kd)), some (.int (zI (k : Int)))] [] T Q := by
  have hn := hw.1
  refine w_X7_sayForm_124 ?_
  unfold f_X7_sayForm_124
  rw [h.gz hl (by omega), Int.toNat_natCast, hm]
  refine ⟨by omega, fun z => by omega, fun _ => ⟨h.now, by omega, fun z => by omega, fun _ => ⟨fun z => ?_, fun z => ?_⟩⟩⟩
  · rw [if_pos (by omega), List.nil_append] at kk
    exact hR m T w _ hmn hmf h hB (by omega) kk
  · rw [if_neg (by omega)] at kk
    refine t_say (x := 32) hB (by decide) (by omega) (fun T1 h1 f1 => ?_)
    have r1 := h.fBa (fB.a f1)
    have e : cV T1 (vI T1 0 3).toNat ((l : Int)).toNat k = (m : Int) := by
      rw [r1.get hl (by omega), hm]
    rw [e]
    refine ⟨r1.now, hR m T1 _ _ hmn hmf r1 h1 (by rw [List.length_append]; show w.length + 1 + _ < _; omega) (fun T2 h2 f2 => kk T2 ?_ (((fB.a f1).trans f2).le (by omega)))⟩
    rw [List.append_assoc] at h2
    exact h2
theorem t_124n {l : Nat} {Q : Option Value → gT → Prop} {T : gT} {k : Nat} {kd : Int} (hw : wP c n nv nf) (hl : l < n) (h : rW T a c n) (hk : k = 4 ∨ k = 5) (hm : c l k = -1)
    (kk : gW (tP sa) lM b E (d + 4 + 1) mX7_sayForm 124 [some (.ref (b + 0)), some (.int (zI (l : Int))), some (.int (zI kd)), some (.int (zI ((k : Int) + 1)))] [] T Q) :
    gW (tP sa) lM b E (d + 4 + 1) mX7_sayForm 124 [some (.ref (b + 0)), some (.int (zI (l : Int))), some (.int (zI kd)), some (.int (zI (k : Int)))] [] T Q := by
  have hn := hw.1
  refine w_X7_sayForm_124 ?_
  unfold f_X7_sayForm_124
  rw [h.gz hl (by omega), Int.toNat_natCast, hm]
  exact ⟨by omega, fun z => by omega, fun _ => ⟨h.now, by omega, fun _ => kk, fun z => absurd rfl z⟩⟩
theorem t_124e {l1 kd : Int} {Q : Option Value → gT → Prop} {T : gT} (k : Q none T) : gW (tP sa) lM b E (d + 4 + 1) mX7_sayForm 124 [some (.ref (b + 0)), some (.int (zI l1)), some (.int (zI kd)), some (.int (zI 6))] [] T Q := by
  refine w_X7_sayForm_124 ?_
  unfold f_X7_sayForm_124
  exact ⟨by omega, fun _ => k, fun z => absurd (Int.le_refl _) z⟩
/-- all parts of a form -/
def ptS (c : Nat → Nat → Int) (f l : Nat) : List Nat := sE c f (c l 3).toNat ++ ((if 1 < np (c l 0) then 32 :: sE c f (c l 4).toNat else []) ++ (if 2 < np (c l 0) then 32 :: sE c f (c l 5).toNat else []))
theorem t_parts {f l : Nat} {φ : gT → Prop} {T : gT} {w : List Nat} {kd : Int} (hw : wP c n nv nf) (hR : hSy sa b E (d + 4) a c n f) (hl : l < n) (hf : n ≤ l + (f + 1)) (h3 : 3 ≤ c l 0) (h : rW T a c n) (hB : mBf T 0 51 28 w) (hlen : w.length + (ptS c f l).length < 499999) (k : ∀ T', mBf T' 0 51 28 (w ++ ptS c f l) → fBa (en c l - (l + 1)) T T' → φ T') :
    gW (tP sa) lM b E (d + 4 + 1) mX7_sayForm 124 [some (.ref (b + 0)), some (.int (zI (l : Int))), some (.int (zI kd)), some (.int (zI 3))] [] T (fun r T' => pV r (φ T')) := by
  have hn := hw.1
  obtain ⟨k1, k2, k3, kk⟩ := kid hw hl
  unfold ptS at k hlen
  have q4 : (((3 : Nat) : Int) + 1) = ((4 : Nat) : Int) := rfl
  have q5 : (((4 : Nat) : Int) + 1) = ((5 : Nat) : Int) := rfl
  have q6 : (((5 : Nat) : Int) + 1) = 6 := rfl
  rcases kk with ⟨a1, a3, a4, a5, ae⟩ | ⟨a1, p0, a4, a5, ae⟩ | ⟨a1, m, m2, p0, p1, p2, e1, e2, e3, o1, o2, o3⟩ | ⟨a1, m, p0, p1, a5, e1, e2, o1, o2⟩
  · omega
  · have hnp : np (c l 0) = 1 := by unfold np; rw [if_neg (by omega), if_pos (by omega)]
    have p00 : c l 3 = ((l + 1 : Nat) : Int) := p0.1
    rw [hnp, if_neg (by omega), if_neg (by omega), List.append_nil, List.append_nil, p00, Int.toNat_natCast] at k hlen
    refine t_124 (k := 3) (m := l + 1) (f := f) hw hR hl h hB (Or.inl rfl) p00 p0.2.2.1 (by omega) (by omega) (fun T1 h1 f1 => ?_)
    have r1 := h.fBa f1
    rw [if_pos rfl, List.nil_append] at h1
    rw [q4]
    refine t_124n (k := 4) hw hl r1 (Or.inl rfl) a4 ?_
    rw [q5]
    refine t_124n (k := 5) hw hl r1 (Or.inr rfl) a5 ?_
    rw [q6]
    exact t_124e ⟨rfl, k T1 h1 (f1.le (by omega))⟩
  · have hnp : np (c l 0) = 3 := by unfold np; rw [if_neg (by omega), if_neg (by omega), if_pos a1]
    have p00 : c l 3 = ((l + 1 : Nat) : Int) := p0.1
    have p10 : c l 4 = (m : Int) := p1.1
    have p20 : c l 5 = (m2 : Int) := p2.1
    rw [hnp, if_pos (by omega), if_pos (by omega), p00, p10, p20, Int.toNat_natCast, Int.toNat_natCast, Int.toNat_natCast] at k hlen
    simp only [List.length_append, List.length_cons] at hlen
    refine t_124 (k := 3) (m := l + 1) (f := f) hw hR hl h hB (Or.inl rfl) p00 p0.2.2.1 (by omega) (by omega) (fun T1 h1 f1 => ?_)
    have r1 := h.fBa f1
    rw [if_pos rfl, List.nil_append] at h1
    rw [q4]
    refine t_124 (k := 4) (m := m) (f := f) hw hR hl r1 h1 (Or.inr (Or.inl rfl)) p10 p1.2.2.1 (by omega) (by rw [List.length_append]; omega) (fun T2 h2 f2 => ?_)
    have r2 := r1.fBa f2
    rw [if_neg (by omega)] at h2
    rw [q5]
    refine t_124 (k := 5) (m := m2) (f := f) hw hR hl r2 h2 (Or.inr (Or.inr rfl)) p20 p2.2.2.1 (by omega) (by simp only [List.length_append, List.length_cons, List.length_nil]; omega) (fun T3 h3' f3 => ?_)
    rw [if_neg (by omega)] at h3'
    rw [q6]
    refine t_124e ⟨rfl, k T3 ?_ (((f1.trans f2).trans f3).le (by omega))⟩
    simp only [List.append_assoc, List.cons_append, List.nil_append] at h3' ⊢
    exact h3'
  · have hnp : np (c l 0) = 2 := by unfold np; rw [if_neg (by omega), if_neg (by omega), if_neg (by omega)]
    have p00 : c l 3 = ((l + 1 : Nat) : Int) := p0.1
    have p10 : c l 4 = (m : Int) := p1.1
    rw [hnp, if_pos (by omega), if_neg (by omega), p00, p10, Int.toNat_natCast, Int.toNat_natCast] at k hlen
    simp only [List.length_append, List.length_cons, List.length_nil] at hlen
    refine t_124 (k := 3) (m := l + 1) (f := f) hw hR hl h hB (Or.inl rfl) p00 p0.2.2.1 (by omega) (by omega) (fun T1 h1 f1 => ?_)
    have r1 := h.fBa f1
    rw [if_pos rfl, List.nil_append] at h1
    rw [q4]
    refine t_124 (k := 4) (m := m) (f := f) hw hR hl r1 h1 (Or.inr (Or.inl rfl)) p10 p1.2.2.1 (by omega) (by rw [List.length_append]; omega) (fun T2 h2 f2 => ?_)
    have r2 := r1.fBa f2
    rw [if_neg (by omega)] at h2
    rw [q5]
    refine t_124n (k := 5) hw hl r2 (Or.inr rfl) a5 ?_
    rw [q6]
    refine t_124e ⟨rfl, k T2 ?_ ((f1.trans f2).le (by omega))⟩
    simp only [List.append_assoc, List.cons_append, List.nil_append, List.append_nil] at h2 ⊢
    exact h2
end RX
