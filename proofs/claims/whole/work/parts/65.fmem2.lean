/-! THE LEAST SOLUTION IS REACHED -/
/-- all exprs, the last first -/
def bkw (c : Nat → Nat → Int) (n : Nat) : Nat → fS → fS
  | 0, s => s
  | k + 1, s => bkw c n k (fl c n k s)
def zS : fS := (fun _ => 0, fun _ => 0, true)
section BK
variable {c : Nat → Nat → Int} {n nv nf : Nat} {s : fS} {X Y : Nat → Nat}
theorem bkw_stp (hw : wP c n nv nf) : ∀ (k : Nat) (s : fS), k ≤ n → bnd s → stp s (bkw c n k s) := by
  intro k
  induction k with
  | zero => intro s _ h; exact stp.refl h
  | succ k ih => intro s hk h; have s1 := fl_stp hw (l := k) (by omega) h; exact s1.trans (ih _ (by omega) s1.1)
theorem bkw_no (hw : wP c n nv nf) : ∀ (k : Nat) (s : fS), k ≤ n → bnd s → (bkw c n k s).2.2 = false → bkw c n k s = s ∧ ∀ l, l < k → con c n l s.1 s.2.1 := by
  intro k
  induction k with
  | zero => intro s _ _ _; exact ⟨rfl, fun l h => by omega⟩
  | succ k ih =>
    intro s hk h hm
    rw [bkw] at hm ⊢
    have s1 := fl_stp hw (l := k) (by omega) h
    have s2 := bkw_stp hw k _ (by omega) s1.1
    obtain ⟨e1, e2⟩ := fl_no hw (by omega) h (s2.no hm)
    rw [e1] at hm ⊢
    obtain ⟨e3, e4⟩ := ih s (by omega) h hm
    refine ⟨e3, fun l hl => ?_⟩
    by_cases e : l = k
    · rw [e]; exact e2
    · exact e4 l (by omega)
theorem bkw_und (hw : wP c n nv nf) (hX : sol c n X Y) : ∀ (k : Nat) (s : fS), k ≤ n → und s X Y n nv → und (bkw c n k s) X Y n nv := by
  intro k
  induction k with
  | zero => intro s _ h; exact h
  | succ k ih => intro s hk h; exact ih _ (by omega) (fl_und hw (by omega) (hX k (by omega)) h)
theorem zS_und : und zS X Y n nv := ⟨fun _ _ => sub_iff.mpr fun t ht => by simp [zS] at ht, fun _ _ => sub_iff.mpr fun t ht => by simp [zS] at ht⟩
theorem zS_bnd : bnd zS := ⟨fun _ => by show 0 < 2 ^ 50; decide, fun _ => by show 0 < 2 ^ 50; decide⟩
/-- the flag put out -/
def s0 (s : fS) : fS := (s.1, s.2.1, false)
theorem s0_und (h : und s X Y n nv) : und (s0 s) X Y n nv := h
theorem s0_bnd (h : bnd s) : bnd (s0 s) := h
end BK
/-! WHO REACHES WHOM -/
def cg (c : Nat → Nat → Int) (F : Nat → Nat) : Nat → Nat → Nat
  | 0, _ => 0
  | i + 1, t => if c i 0 = 11 ∧ wi c i = (t : Int) then cg c F i t ||| F (c i 3).toNat else cg c F i t
def ws1 (k : Nat) (R : Nat → Nat) : Nat → Nat → Nat
  | 0, t => R t
  | j + 1, t => if t = j ∧ (ws1 k R j j).testBit k = true then ws1 k R j j ||| ws1 k R j k else ws1 k R j t
def ws (nf : Nat) (R : Nat → Nat) : Nat → Nat → Nat
  | 0, t => R t
  | k + 1, t => ws1 k (ws nf R k) nf t
def rc (c : Nat → Nat → Int) (n nf : Nat) (F : Nat → Nat) : Nat → Nat := ws nf (cg c F n) nf
def mRw (kR : Nat) (T : gT) (R : Nat → Nat) : Prop := ∀ t, t < 50 → T.2.1 kR t = lJ (R t) ∧ R t < 2 ^ 50
theorem mRw.of {kR : Nat} {T T' : gT} {R : Nat → Nat} (h : mRw kR T R) (he : ∀ t, t < 50 → T'.2.1 kR t = T.2.1 kR t) : mRw kR T' R := fun t ht => ⟨(he t ht).trans (h t ht).1, (h t ht).2⟩
theorem mRw.up {kR : Nat} {T : gT} {R R' : Nat → Nat} {t x : Nat} (h : mRw kR T R) (hx : x < 2 ^ 50) (hR : ∀ u, u < 50 → R' u = if u = t then x else R u) : mRw kR (gJ T kR t (lJ x)) R' := by
  intro u hu
  rw [gJ_J, hR u hu]
  by_cases e : u = t
  · rw [if_pos ⟨rfl, e⟩, if_pos e]; exact ⟨rfl, hx⟩
  · rw [if_neg (fun z => e z.2), if_neg e]; exact h u hu
theorem mRw.eq {kR : Nat} {T : gT} {R R' : Nat → Nat} (h : mRw kR T R) (he : ∀ t, t < 50 → R' t = R t) : mRw kR T R' := fun t ht => by rw [he t ht]; exact h t ht
section FF
variable {sa : Nat → Nat} {b : Nat} {E : Nat × mH} {d : Nat} {T : gT} {Q : Option Value → gT → Prop} {c : Nat → Nat → Int} {a n nv nf l : Nat} {s : fS}
def Vf (k : Nat) (_ : Nat) : Prop := k = 9 ∨ k = 10 ∨ k = 11
abbrev fX (T T' : gT) : Prop := fG (Wm 0 28) Vf T T'
theorem rF.x {T T' : gT} (h : rF T T') : fX T T' := h.mono (fun _ _ z => z) (fun _ _ z => by unfold Vm at z; unfold Vf; omega)
theorem fX.cn {T T' : gT} (h : fX T T') (hm : mCn T a n c n) : mCn T' a n c n := by
  obtain ⟨h1, h2, h3, h4, h5, h6, h7, h8, h9⟩ := hm
  have q : ∀ {k i}, ¬ (k = 0 ∧ i = 28) → vI T' k i = vI T k i := fun z => h.v z
  refine ⟨h1, by rw [q (by omega)]; exact h2, by rw [q (by omega)]; exact h3, fun l w hl hw => by unfold cV; rw [q (by omega)]; exact h4 l w hl hw, by rw [q (by omega)]; exact h5, fun l hl => by rw [q (by omega)]; exact h6 l hl, fun l hl hf => by rw [q (by omega)]; exact h7 l hl hf, fun l hl => by rw [q (by omega)]; exact h8 l hl, fun l hl => by rw [q (by omega)]; exact h9 l hl⟩
abbrev f11 (T T' : gT) : Prop := fG (fun _ _ => False) (fun k _ => k = 11) T T'
theorem f11.x {T T' : gT} (h : f11 T T') : fX T T' := h.mono (fun _ _ z => z.elim) (fun _ _ z => Or.inr (Or.inr z))
abbrev ffA (T : gT) (i : Int) : mL := [some (.ref (b + 0)), some (.int (zI i)), none]
theorem ff_ws1 (hw : wP c n nv nf) {R : Nat → Nat} {k : Nat} (hk : k < nf) (K : ∀ T' (i2 : Int), mCn T' a n c n → mRw 11 T' (ws1 k R nf) → f11 T T' → gW (tP sa) lM b E (d + 1 + 1 + 1) mX7_findFlows 180 [some (.ref (b + 0)), some (.int (zI ((k : Int) + 1))), some (.int (zI i2))] [] T' Q) :
    ∀ (j t : Nat) (T1 : gT), j + t = nf → mCn T1 a n c n → mRw 11 T1 (ws1 k R t) → f11 T T1 → gW (tP sa) lM b E (d + 1 + 1 + 1) mX7_findFlows 190 [some (.ref (b + 0)), some (.int (zI (k : Int))), some (.int (zI (t : Int)))] [] T1 Q := by
  obtain ⟨g1, g2, g3, g4⟩ := hw.flat
  have hnf := hw.2.2.1
  intro j
  induction j with
  | zero =>
    intro t T1 hj hm hR hf
    refine w_X7_findFlows_190 ?_
    unfold f_X7_findFlows_190
    have h5 := hm.2.2.2.2.1
    obtain rfl : t = nf := by omega
    exact ⟨by omega, fun _ => K T1 _ hm hR hf, fun z => absurd z (by omega)⟩
  | succ j ih =>
    intro t T1 hj hm hR hf
    refine w_X7_findFlows_190 ?_
    unfold f_X7_findFlows_190
    have h5 := hm.2.2.2.2.1
    have en : (t : Int) + 1 = ((t + 1 : Nat) : Int) := by omega
    have et := (hR t (by omega))
    have ek := (hR k (by omega))
    rw [Int.toNat_natCast, Int.toNat_natCast, et.1, ek.1, bit_r (by omega), en]
    refine ⟨by omega, fun z => absurd z (by omega), fun _ => ⟨by omega, by omega, fun z => ?_, fun z => ⟨by omega, by omega, ?_⟩⟩⟩
    · have e0 : lJ (ws1 k R t t) ||| 0 = lJ (ws1 k R t t) := by
        rw [show (0 : Int64) = lJ 0 from rfl, lJ_or, Nat.or_zero]
      rw [e0]
      refine ih (t + 1) _ (by omega) (fX.cn (T := T1) (fG.refl.gJ (Or.inr (Or.inr rfl))) hm) (hR.up et.2 (fun u hu => ?_)) (hf.gJ rfl)
      · rw [ws1, if_neg (fun q => z q.2)]
        by_cases e : u = t
        · rw [if_pos e, e]
        · rw [if_neg e]
    · rw [lJ_or]
      refine ih (t + 1) _ (by omega) (fX.cn (T := T1) (fG.refl.gJ (Or.inr (Or.inr rfl))) hm) (hR.up (Nat.or_lt_two_pow et.2 ek.2) (fun u hu => ?_)) (hf.gJ rfl)
      · rw [ws1]
        by_cases e : u = t
        · rw [if_pos e, e, if_pos ⟨rfl, z⟩]
        · rw [if_neg e, if_neg (fun q => e q.1)]
theorem ff_ws (hw : wP c n nv nf) {R : Nat → Nat} {φ : gT → Prop} (K : ∀ T', mCn T' a n c n → mRw 11 T' (ws nf R nf) → f11 T T' → φ T') :
    ∀ (j k : Nat) (T1 : gT) (i2 : Int), j + k = nf → mCn T1 a n c n → mRw 11 T1 (ws nf R k) → f11 T T1 → gW (tP sa) lM b E (d + 1 + 1 + 1) mX7_findFlows 180 [some (.ref (b + 0)), some (.int (zI (k : Int))), some (.int (zI i2))] [] T1 (fun r T' => pV r (φ T')) := by
  obtain ⟨g1, g2, g3, g4⟩ := hw.flat
  have hnf := hw.2.2.1
  intro j
  induction j with
  | zero =>
    intro k T1 i2 hj hm hR hf
    refine w_X7_findFlows_180b ?_
    unfold f_X7_findFlows_180b
    have h5 := hm.2.2.2.2.1
    obtain rfl : k = nf := by omega
    exact ⟨by omega, fun _ => ⟨rfl, K T1 hm hR hf⟩, fun z => absurd z (by omega)⟩
  | succ j ih =>
    intro k T1 i2 hj hm hR hf
    refine w_X7_findFlows_180b ?_
    unfold f_X7_findFlows_180b
    have h5 := hm.2.2.2.2.1
    refine ⟨by omega, fun z => absurd z (by omega), fun _ => ?_⟩
    refine ff_ws1 (T := T1) (R := ws nf R k) hw (by omega) (fun T' i2 hm' hR' hf' => ?_) nf 0 T1 (by omega) hm hR fG.refl
    rw [show (k : Int) + 1 = ((k + 1 : Nat) : Int) by omega]
    exact ih (k + 1) T' i2 (by omega) hm' hR' (hf.trans hf')
theorem ff_ws0 (hw : wP c n nv nf) {R : Nat → Nat} {φ : gT → Prop} (K : ∀ T', mCn T' a n c n → mRw 11 T' (ws nf R nf) → f11 T T' → φ T')
    (hm : mCn T a n c n) (hR : mRw 11 T R) : gW (tP sa) lM b E (d + 1 + 1 + 1) mX7_findFlows 180 (ffA (b := b) T 0) [] T (fun r T' => pV r (φ T')) := by
  obtain ⟨g1, g2, g3, g4⟩ := hw.flat
  have hnf := hw.2.2.1
  refine w_X7_findFlows_180 (l1 := 0) ?_
  unfold f_X7_findFlows_180
  have h5 := hm.2.2.2.2.1
  refine ⟨by omega, fun z => ⟨rfl, K T hm ?_ fG.refl⟩, fun _ => ?_⟩
  · obtain rfl : nf = 0 := by omega
    exact hR
  · refine ff_ws1 (T := T) (R := R) (k := 0) hw (by omega) (fun T' i2 hm' hR' hf' => ?_) nf 0 T (by omega) hm hR fG.refl
    exact ff_ws (T := T) hw K (nf - 1) 1 T' i2 (by omega) hm' hR' hf'
theorem ff_cg (hw : wP c n nv nf) {F : Nat → Nat} (hF : ∀ l, F l < 2 ^ 50) {φ : gT → Prop} (K : ∀ T', mCn T' a n c n → mRw 11 T' (rc c n nf F) → f11 T T' → φ T') (hE : ∀ l, l < 200 → T.2.1 9 l = lJ (F l)) :
    ∀ (j i : Nat) (T1 : gT), j + i = n → mCn T1 a n c n → mRw 11 T1 (cg c F i) → f11 T T1 → gW (tP sa) lM b E (d + 1 + 1 + 1) mX7_findFlows 113 (ffA (b := b) T1 (i : Int)) [] T1 (fun r T' => pV r (φ T')) := by
  obtain ⟨g1, g2, g3, g4⟩ := hw.flat
  have hn := hw.1
  have hnf := hw.2.2.1
  have hU : ∀ l, l < n → c l 6 = -1 ∨ (0 ≤ c l 6 ∧ c l 6 < l) := fun l hl => by
    by_cases e : l = 0
    · rw [e]; exact Or.inl g3
    · exact Or.inr ((g4 l hl).2 (by omega))
  intro j
  induction j with
  | zero =>
    intro i T1 hj hm hR hf
    refine w_X7_findFlows_113 ?_
    unfold f_X7_findFlows_113
    obtain ⟨h1, h2, h3, h4, h5, h6, h7, h8, h9⟩ := id hm
    obtain rfl : i = n := by omega
    rw [show (vI T1 0 3).toNat = a by omega, h3]
    refine ⟨by omega, by omega, by omega, fun _ => ?_, fun z => absurd z (by omega)⟩
    exact ff_ws0 (T := T1) hw (fun T' hm' hR' hf' => K T' hm' hR' (hf.trans hf')) hm hR
  | succ j ih =>
    intro i T1 hj hm hR hf
    refine w_X7_findFlows_113 ?_
    unfold f_X7_findFlows_113
    obtain ⟨h1, h2, h3, h4, h5, h6, h7, h8, h9⟩ := id hm
    have hi : i < n := by omega
    have wr := wi_rg hU i hi
    obtain ⟨q, _⟩ := g4 i hi
    rw [show (vI T1 0 3).toNat = a by omega, h3, Int.toNat_natCast, h4 i 0 hi (by omega), h4 i 3 hi (by omega), h8 i hi]
    rw [show (i : Int) + 1 = ((i + 1 : Nat) : Int) by omega]
    refine ⟨by omega, by omega, by omega, fun z => absurd z (by omega), fun _ => ⟨by omega, by omega, fun z => ?_, fun z => ⟨by omega, by omega, fun z2 => ?_, fun z2 => ?_⟩⟩⟩
    · exact ih (i + 1) T1 (by omega) hm (hR.eq (fun t _ => by rw [cg, if_neg (fun q => z q.1)])) hf
    · exact ih (i + 1) T1 (by omega) hm (hR.eq (fun t _ => by rw [cg, if_neg (fun q => by have := q.2; omega)])) hf
    · have q3 := q.2.2.2.1 (by omega)
      obtain ⟨t, ht⟩ : ∃ t : Nat, wi c i = (t : Int) := ⟨(wi c i).toNat, by omega⟩
      have et := hR t (by omega)
      rw [ht, Int.toNat_natCast, et.1, hf.2.1 9 _ (by show ¬ 9 = 11; decide), hE _ (by omega), lJ_or]
      refine ⟨by omega, by omega, by omega, by omega, by omega, ih (i + 1) _ (by omega) (fX.cn (T := T1) (fG.refl.gJ (Or.inr (Or.inr rfl))) hm) (hR.up (Nat.or_lt_two_pow et.2 (hF _)) (fun u hu => ?_)) (hf.gJ rfl)⟩
      · rw [cg, ht]
        by_cases e : u = t
        · rw [if_pos e, e, if_pos ⟨z, rfl⟩]
        · rw [if_neg e, if_neg (fun q => e (by omega))]
theorem ff_z50 (hw : wP c n nv nf) {F : Nat → Nat} (hF : ∀ l, F l < 2 ^ 50) {φ : gT → Prop} (K : ∀ T', mCn T' a n c n → mRw 11 T' (rc c n nf F) → f11 T T' → φ T') (hE : ∀ l, l < 200 → T.2.1 9 l = lJ (F l)) :
    ∀ (j i : Nat) (T1 : gT), j + i = 50 → mCn T1 a n c n → (∀ t, t < i → T1.2.1 11 t = 0) → f11 T T1 → gW (tP sa) lM b E (d + 1 + 1 + 1) mX7_findFlows 92 (ffA (b := b) T1 (i : Int)) [] T1 (fun r T' => pV r (φ T')) := by
  intro j
  induction j with
  | zero =>
    intro i T1 hj hm hR hf
    refine w_X7_findFlows_92 ?_
    unfold f_X7_findFlows_92
    refine ⟨by omega, fun _ => ?_, fun z => absurd z (by omega)⟩
    refine ff_cg (T := T) (F := F) hw hF K hE n 0 T1 (by omega) hm (fun t ht => ⟨hR t (by omega), by show (0 : Nat) < _; decide⟩) hf
  | succ j ih =>
    intro i T1 hj hm hR hf
    refine w_X7_findFlows_92 ?_
    unfold f_X7_findFlows_92
    rw [Int.toNat_natCast, show (i : Int) + 1 = ((i + 1 : Nat) : Int) by omega]
    refine ⟨by omega, fun z => absurd z (by omega), fun _ => ⟨by omega, by omega, ih (i + 1) _ (by omega) (fX.cn (T := T1) (fG.refl.gJ (Or.inr (Or.inr rfl))) hm) (fun t ht => ?_) (hf.gJ rfl)⟩⟩
    · rw [gJ_J]
      by_cases e : t = i
      · rw [if_pos ⟨rfl, e⟩]
      · rw [if_neg (fun q => e q.2)]; exact hR t (by omega)
/-- what findFlows leaves -/
def ffK (T : gT) (a n nv nf : Nat) (c : Nat → Nat → Int) (T' : gT) : Prop := ∃ s : fS, mCn T' a n c n ∧ lst c n nv s.1 s.2.1 ∧ rFw T' s ∧ mRw 11 T' (rc c n nf s.1) ∧ fX T T'
theorem ff_bk (hw : wP c n nv nf) (K : ∀ T' (i : Int), rFw T' (bkw c n n s) → rF T T' → gW (tP sa) lM b E (d + 1 + 1 + 1) mX7_findFlows 48 (ffA (b := b) T' i) [] T' Q) (hm : mCn T a n c n) :
    ∀ (j : Nat) (T1 : gT) (s1 : fS), j ≤ n → rFw T1 s1 → rF T T1 → bkw c n j s1 = bkw c n n s → gW (tP sa) lM b E (d + 1 + 1 + 1) mX7_findFlows 72 (ffA (b := b) T1 ((j : Int) - 1)) [] T1 Q := by
  have hn := hw.1
  intro j
  induction j with
  | zero =>
    intro T1 s1 hj hs hf he
    refine w_X7_findFlows_72 ?_
    unfold f_X7_findFlows_72
    refine ⟨by omega, fun _ => K T1 _ (by rw [← he]; exact hs) hf, fun z => absurd z (by omega)⟩
  | succ j ih =>
    intro T1 s1 hj hs hf he
    refine w_X7_findFlows_72 ?_
    unfold f_X7_findFlows_72
    rw [show ((j + 1 : Nat) : Int) - 1 = (j : Int) by omega]
    refine ⟨by omega, fun z => absurd z (by omega), fun _ => c_flowOf (l := j) hw (rF.cn hf hm) (by omega) hs (fun T2 hs2 hf2 => ?_)⟩
    exact ih T2 _ (by omega) hs2 (hf.trans hf2) he
theorem ff_48 (hw : wP c n nv nf) {φ : gT → Prop} (K : ∀ T', ffK T a n nv nf c T' → φ T') (hm : mCn T a n c n) :
    ∀ (m : Nat) (T1 : gT) (s1 : fS) (i : Int), 15000 - mu s1 ≤ m → rFw T1 s1 → (∀ X Y, sol c n X Y → und s1 X Y n nv) → (s1.2.2 = false → sol c n s1.1 s1.2.1) → fX T T1 → gW (tP sa) lM b E (d + 1 + 1 + 1) mX7_findFlows 48 (ffA (b := b) T1 i) [] T1 (fun r T' => pV r (φ T')) := by
  have hn := hw.1
  intro m
  have main : ∀ (T1 : gT) (s1 : fS) (i : Int), rFw T1 s1 → (∀ X Y, sol c n X Y → und s1 X Y n nv) → (s1.2.2 = false → sol c n s1.1 s1.2.1) → fX T T1 →
      (s1.2.2 = true → ∀ (T2 : gT) (i : Int), rFw T2 (bkw c n n (s0 s1)) → fX T T2 → gW (tP sa) lM b E (d + 1 + 1 + 1) mX7_findFlows 48 (ffA (b := b) T2 i) [] T2 (fun r T' => pV r (φ T'))) →
      gW (tP sa) lM b E (d + 1 + 1 + 1) mX7_findFlows 48 (ffA (b := b) T1 i) [] T1 (fun r T' => pV r (φ T')) := by
    intro T1 s1 i hs hU hS hf go
    have hm1 := fX.cn hf hm
    obtain ⟨h1, h2, h3, h4, h5, h6, h7, h8, h9⟩ := id hm1
    refine w_X7_findFlows_48 ?_
    unfold f_X7_findFlows_48
    have h28 := hs.2.2.1
    refine ⟨fun z => ?_, fun z => ⟨by omega, by omega, ?_⟩⟩
    · have z' : s1.2.2 = false := by
        cases q : s1.2.2 with
        | false => rfl
        | true => rw [q, if_pos rfl] at h28; omega
      refine ff_z50 (T := T1) (F := s1.1) hw hs.2.2.2.1 (fun T' hm' hR' hf' => K T' ⟨s1, hm', ⟨hS z', hU⟩, ?_, hR', hf.trans (f11.x hf')⟩) hs.1 50 0 T1 (by omega) hm1 (fun t ht => by omega) fG.refl
      exact ⟨fun l hl => (hf'.2.1 9 l (by show ¬ 9 = 11; decide)).trans (hs.1 l hl), fun l hl => (hf'.2.1 10 l (by show ¬ 10 = 11; decide)).trans (hs.2.1 l hl), (hf'.v id).trans h28, hs.2.2.2⟩
    · have z' : s1.2.2 = true := by
        cases q : s1.2.2 with
        | true => rfl
        | false => rw [q, if_neg (by decide)] at h28; omega
      rw [show (vI T1 0 3).toNat = a by omega, h3]
      have hs0 : rFw (gI T1 0 28 (zI 0)) (s0 s1) := ⟨hs.1, hs.2.1, by rw [v_s (by omega)]; rfl, hs.2.2.2⟩
      have hf0 : fX T (gI T1 0 28 (zI 0)) := hf.gI ⟨rfl, rfl⟩
      exact ff_bk (T := gI T1 0 28 (zI 0)) (s := s0 s1) hw (fun T' i hs' hf' => go z' T' i hs' (hf0.trans (rF.x hf'))) (fX.cn hf0 hm) n _ (s0 s1) (Nat.le_refl _) hs0 fG.refl rfl
  induction m with
  | zero =>
    intro T1 s1 i hmu hs hU hS hf
    refine main T1 s1 i hs hU hS hf (fun z T2 i2 hs2 hf2 => ?_)
    have st := bkw_stp hw n (s0 s1) (Nat.le_refl _) (s0_bnd hs.2.2.2)
    have nn : (bkw c n n (s0 s1)).2.2 = false := by
      cases q : (bkw c n n (s0 s1)).2.2 with
      | false => rfl
      | true =>
        have := st.2.2.2.2 rfl q
        have h2 := mu_le (s := bkw c n n (s0 s1))
        have h3 : mu (s0 s1) = mu s1 := rfl
        omega
    obtain ⟨e1, e2⟩ := bkw_no hw n (s0 s1) (Nat.le_refl _) (s0_bnd hs.2.2.2) nn
    refine main T2 _ i2 hs2 (fun X Y hX => bkw_und hw hX n _ (Nat.le_refl _) (s0_und (hU X Y hX))) (fun _ => by rw [e1]; exact e2) hf2 (fun q => ?_)
    rw [nn] at q; cases q
  | succ m ih =>
    intro T1 s1 i hmu hs hU hS hf
    refine main T1 s1 i hs hU hS hf (fun z T2 i2 hs2 hf2 => ?_)
    have st := bkw_stp hw n (s0 s1) (Nat.le_refl _) (s0_bnd hs.2.2.2)
    cases q : (bkw c n n (s0 s1)).2.2 with
    | false =>
      obtain ⟨e1, e2⟩ := bkw_no hw n (s0 s1) (Nat.le_refl _) (s0_bnd hs.2.2.2) q
      refine main T2 _ i2 hs2 (fun X Y hX => bkw_und hw hX n _ (Nat.le_refl _) (s0_und (hU X Y hX))) (fun _ => by rw [e1]; exact e2) hf2 (fun q2 => ?_)
      rw [q] at q2; cases q2
    | true =>
      have h1 := st.2.2.2.2 rfl q
      have h3 : mu (s0 s1) = mu s1 := rfl
      refine ih T2 _ i2 (by omega) hs2 (fun X Y hX => bkw_und hw hX n _ (Nat.le_refl _) (s0_und (hU X Y hX))) (fun q2 => ?_) hf2
      rw [q] at q2; cases q2
theorem ff_z100 (hw : wP c n nv nf) {φ : gT → Prop} (K : ∀ T', ffK T a n nv nf c T' → φ T') (hm : mCn T a n c n) :
    ∀ (j i : Nat) (T1 : gT), j + i = 100 → (∀ t, t < 200 → T1.2.1 9 t = 0) → (∀ t, t < i → T1.2.1 10 t = 0) → fX T T1 → gW (tP sa) lM b E (d + 1 + 1 + 1) mX7_findFlows 24 (ffA (b := b) T1 (i : Int)) [] T1 (fun r T' => pV r (φ T')) := by
  intro j
  induction j with
  | zero =>
    intro i T1 hj hA hB hf
    refine w_X7_findFlows_24 ?_
    unfold f_X7_findFlows_24
    refine ⟨by omega, fun _ => ?_, fun z => absurd z (by omega)⟩
    refine ff_48 (T := T) hw K hm 15000 _ zS _ (by omega) ⟨fun l hl => hA l hl, fun l hl => hB l (by omega), by rw [v_s (by omega)]; rfl, zS_bnd⟩ (fun X Y _ => zS_und) (fun z => by cases z) (hf.gI ⟨rfl, rfl⟩)
  | succ j ih =>
    intro i T1 hj hA hB hf
    refine w_X7_findFlows_24 ?_
    unfold f_X7_findFlows_24
    rw [Int.toNat_natCast, show (i : Int) + 1 = ((i + 1 : Nat) : Int) by omega]
    refine ⟨by omega, fun z => absurd z (by omega), fun _ => ⟨by omega, by omega, ih (i + 1) _ (by omega) (fun t ht => ?_) (fun t ht => ?_) (hf.gJ (Or.inr (Or.inl rfl)))⟩⟩
    · rw [gJ_J, if_neg (by omega)]; exact hA t ht
    · rw [gJ_J]
      by_cases e : t = i
      · rw [if_pos ⟨rfl, e⟩]
      · rw [if_neg (fun q => e q.2)]; exact hB t (by omega)
theorem c_findFlows (hw : wP c n nv nf) {φ : gT → Prop} (K : ∀ T', ffK T a n nv nf c T' → φ T') (hm : mCn T a n c n) : gC (tP sa) lM b E (d + 1 + 1 + 1) mX7_findFlows [.ref (b + 0)] T (fun r T' => pV r (φ T')) := by
  have lp : ∀ (j i : Nat) (T1 : gT), j + i = 200 → (∀ t, t < i → T1.2.1 9 t = 0) → fX T T1 → gW (tP sa) lM b E (d + 1 + 1 + 1) mX7_findFlows 2 (ffA (b := b) T1 (i : Int)) [] T1 (fun r T' => pV r (φ T')) := by
    intro j
    induction j with
    | zero =>
      intro i T1 hj hA hf
      refine w_X7_findFlows_2 ?_
      unfold f_X7_findFlows_2
      exact ⟨by omega, fun _ => ff_z100 (T := T) hw K hm 100 0 T1 (by omega) (fun t ht => hA t (by omega)) (fun t ht => by omega) hf, fun z => absurd z (by omega)⟩
    | succ j ih =>
      intro i T1 hj hA hf
      refine w_X7_findFlows_2 ?_
      unfold f_X7_findFlows_2
      rw [Int.toNat_natCast, show (i : Int) + 1 = ((i + 1 : Nat) : Int) by omega]
      refine ⟨by omega, fun z => absurd z (by omega), fun _ => ⟨by omega, by omega, ih (i + 1) _ (by omega) (fun t ht => ?_) (hf.gJ (Or.inl rfl))⟩⟩
      rw [gJ_J]
      by_cases e : t = i
      · rw [if_pos ⟨rfl, e⟩]
      · rw [if_neg (fun q => e q.2)]; exact hA t (by omega)
  refine w_X7_findFlows ?_
  unfold f_X7_findFlows
  exact lp 200 0 T rfl (fun t ht => by omega) fG.refl
end FF
