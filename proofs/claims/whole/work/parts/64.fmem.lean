/-! FLOWS IN MEMORY: rows kE and kV, the flag at (ka, ki) -/
/-- a frame for ints, longs and room -/
def fG (W V : Nat → Nat → Prop) (T T' : gT) : Prop := (∀ k i, ¬ W k i → T'.1 k i = T.1 k i) ∧ (∀ k i, ¬ V k i → T'.2.1 k i = T.2.1 k i) ∧ T'.2.2 = T.2.2
theorem fG.refl {W V : Nat → Nat → Prop} {T : gT} : fG W V T T := ⟨fun _ _ _ => rfl, fun _ _ _ => rfl, rfl⟩
theorem fG.trans {W V : Nat → Nat → Prop} {T T' T'' : gT} (h : fG W V T T') (h2 : fG W V T' T'') : fG W V T T'' := ⟨fun k i q => (h2.1 k i q).trans (h.1 k i q), fun k i q => (h2.2.1 k i q).trans (h.2.1 k i q), h2.2.2.trans h.2.2⟩
theorem fG.gI {W V : Nat → Nat → Prop} {T T' : gT} (h : fG W V T T') {k j : Nat} {x : Int32} (hw : W k j) : fG W V T (gI T' k j x) := ⟨fun k2 i q => by rw [gI_I, if_neg (fun e => q (by rw [e.1, e.2]; exact hw))]; exact h.1 k2 i q, h.2.1, h.2.2⟩
theorem fG.gJ {W V : Nat → Nat → Prop} {T T' : gT} (h : fG W V T T') {k j : Nat} {x : Int64} (hw : V k j) : fG W V T (gJ T' k j x) := ⟨h.1, fun k2 i q => by rw [gJ_J, if_neg (fun e => q (by rw [e.1, e.2]; exact hw))]; exact h.2.1 k2 i q, h.2.2⟩
theorem fG.v {W V : Nat → Nat → Prop} {T T' : gT} (h : fG W V T T') {k i : Nat} (hw : ¬ W k i) : vI T' k i = vI T k i := by unfold vI; rw [h.1 k i hw]
theorem fG.c {W V : Nat → Nat → Prop} {T T' : gT} (h : fG W V T T') {p l w : Nat} (hw : ¬ W 4 (7 * (200 * p + l) + w)) : cV T' p l w = cV T p l w := h.v hw
theorem fG.mono {W V W2 V2 : Nat → Nat → Prop} {T T' : gT} (h : fG W V T T') (h2 : ∀ k i, W k i → W2 k i) (h3 : ∀ k i, V k i → V2 k i) : fG W2 V2 T T' := ⟨fun k i q => h.1 k i (fun z => q (h2 k i z)), fun k i q => h.2.1 k i (fun z => q (h3 k i z)), h.2.2⟩
theorem fr.fG {W V : Nat → Nat → Prop} {T T' : gT} (h : fr W T T') : fG W V T T' := ⟨h.1, fun _ _ _ => by rw [h.2], by rw [h.2]⟩
/-- the sets in memory -/
def mFw (kE kV ka ki : Nat) (T : gT) (s : fS) : Prop := (∀ l, l < 200 → T.2.1 kE l = lJ (s.1 l)) ∧ (∀ v, v < 100 → T.2.1 kV v = lJ (s.2.1 v)) ∧ vI T ka ki = (if s.2.2 = true then 1 else 0) ∧ bnd s
def Wm (ka ki k i : Nat) : Prop := k = ka ∧ i = ki
def Vm (kE kV k : Nat) (_i : Nat) : Prop := k = kE ∨ k = kV
def fF (kE kV ka ki : Nat) (T T' : gT) : Prop := fG (Wm ka ki) (Vm kE kV) T T'
theorem mFw.uE {kE kV ka ki : Nat} {T : gT} {s : fS} {l x : Nat} (h : mFw kE kV ka ki T s) (hk : kE ≠ kV) (hl : l < 200) (hx : x < 2 ^ 50) (hn : ¬ s.1 l ||| x = s.1 l) : mFw kE kV ka ki (gI (gJ T kE l (lJ (s.1 l ||| x))) ka ki (zI 1)) (jE s l x) := by
  have e : jE s l x = (fun k => if k = l then s.1 l ||| x else s.1 k, s.2.1, true) := by unfold jE; rw [if_neg hn]
  have hb := (jE_stp h.2.2.2 hl hx).1
  rw [e] at hb ⊢
  refine ⟨fun k hk2 => ?_, fun v hv => ?_, ?_, hb⟩
  · rw [gI_J, gJ_J]
    dsimp only
    by_cases q : k = l
    · rw [if_pos ⟨rfl, q⟩, if_pos q]
    · rw [if_neg (fun z => q z.2), if_neg q]; exact h.1 k hk2
  · rw [gI_J, gJ_J, if_neg (fun z => hk z.1.symm)]; exact h.2.1 v hv
  · rw [v_s (by omega)]; rfl
theorem mFw.uV {kE kV ka ki : Nat} {T : gT} {s : fS} {l x : Nat} (h : mFw kE kV ka ki T s) (hk : kE ≠ kV) (hl : l < 100) (hx : x < 2 ^ 50) (hn : ¬ s.2.1 l ||| x = s.2.1 l) : mFw kE kV ka ki (gI (gJ T kV l (lJ (s.2.1 l ||| x))) ka ki (zI 1)) (jV s l x) := by
  have e : jV s l x = (s.1, fun k => if k = l then s.2.1 l ||| x else s.2.1 k, true) := by unfold jV; rw [if_neg hn]
  have hb := (jV_stp h.2.2.2 hl hx).1
  rw [e] at hb ⊢
  refine ⟨fun v hv => ?_, fun k hk2 => ?_, ?_, hb⟩
  · rw [gI_J, gJ_J, if_neg (fun z => hk z.1)]; exact h.1 v hv
  · rw [gI_J, gJ_J]
    dsimp only
    by_cases q : k = l
    · rw [if_pos ⟨rfl, q⟩, if_pos q]
    · rw [if_neg (fun z => q z.2), if_neg q]; exact h.2.1 k hk2
  · rw [v_s (by omega)]; rfl
theorem fF.uE {kE kV ka ki : Nat} {T : gT} {l : Nat} {x : Int64} {y : Int32} : fF kE kV ka ki T (gI (gJ T kE l x) ka ki y) := (fG.refl.gJ (Or.inl rfl)).gI ⟨rfl, rfl⟩
theorem fF.uV {kE kV ka ki : Nat} {T : gT} {l : Nat} {x : Int64} {y : Int32} : fF kE kV ka ki T (gI (gJ T kV l x) ka ki y) := (fG.refl.gJ (Or.inr rfl)).gI ⟨rfl, rfl⟩
section FM
variable {sa : Nat → Nat} {b : Nat} {E : Nat × mH} {d : Nat} {T : gT} {Q : Option Value → gT → Prop} {c : Nat → Nat → Int} {a n nv nf l : Nat} {s : fS}
abbrev rFw (T : gT) (s : fS) : Prop := mFw 9 10 0 28 T s
abbrev rF (T T' : gT) : Prop := fF 9 10 0 28 T T'
theorem c_joinE {x : Nat} {φ : gT → Prop} (h : rFw T s) (hl : l < 200) (hx : x < 2 ^ 50) (k : ∀ T', rFw T' (jE s l x) → rF T T' → φ T') : gC (tP sa) lM b E d mX7_joinExpr [.ref (b + 0), .int (zI (l : Int)), .long (lJ x)] T (fun r T' => pV r (φ T')) := by
  refine w_X7_joinExpr ?_
  unfold f_X7_joinExpr
  rw [Int.toNat_natCast, h.1 l hl, lJ_or]
  have hb := h.2.2.2.1 l
  refine ⟨by omega, by omega, fun z => ⟨rfl, k T ?_ fG.refl⟩, fun z => ⟨rfl, k _ (h.uE (by decide) hl hx ?_) fF.uE⟩⟩
  · rw [lJ_inj (Nat.or_lt_two_pow hb hx) hb] at z
    unfold jE; rw [if_pos z]; exact h
  · intro q; rw [q] at z; exact z rfl
theorem c_joinV {x : Nat} {φ : gT → Prop} (h : rFw T s) (hl : l < 100) (hx : x < 2 ^ 50) (k : ∀ T', rFw T' (jV s l x) → rF T T' → φ T') : gC (tP sa) lM b E d mX7_joinVariable [.ref (b + 0), .int (zI (l : Int)), .long (lJ x)] T (fun r T' => pV r (φ T')) := by
  refine w_X7_joinVariable ?_
  unfold f_X7_joinVariable
  rw [Int.toNat_natCast, h.2.1 l hl, lJ_or]
  have hb := h.2.2.2.2 l
  refine ⟨by omega, by omega, fun z => ⟨rfl, k T ?_ fG.refl⟩, fun z => ⟨rfl, k _ (h.uV (by decide) hl hx ?_) fF.uV⟩⟩
  · rw [lJ_inj (Nat.or_lt_two_pow hb hx) hb] at z
    unfold jV; rw [if_pos z]; exact h
  · intro q; rw [q] at z; exact z rfl
theorem rF.cn {T T' : gT} (h : rF T T') (hm : mCn T a n c n) : mCn T' a n c n := by
  obtain ⟨h1, h2, h3, h4, h5, h6, h7, h8, h9⟩ := hm
  have q : ∀ {k i}, ¬ (k = 0 ∧ i = 28) → vI T' k i = vI T k i := fun z => h.v z
  refine ⟨h1, by rw [q (by omega)]; exact h2, by rw [q (by omega)]; exact h3, fun l w hl hw => by unfold cV; rw [q (by omega)]; exact h4 l w hl hw, by rw [q (by omega)]; exact h5, fun l hl => by rw [q (by omega)]; exact h6 l hl, fun l hl hf => by rw [q (by omega)]; exact h7 l hl hf, fun l hl => by rw [q (by omega)]; exact h8 l hl, fun l hl => by rw [q (by omega)]; exact h9 l hl⟩
theorem flowOf_call (hw : wP c n nv nf) (hm : mCn T a n c n) (hl : l < n) (hk : c l 0 = 11) {all : Nat} {l2 : Int} {φ : gT → Prop}
    (k : ∀ T', rFw T' (fCl c n l all (fcn c n) 0 s) → rF T T' → φ T') : ∀ (j t : Nat) (T1 : gT) (s1 : fS), j + t = fcn c n → rFw T1 s1 → rF T T1 → fCl c n l all j t s1 = fCl c n l all (fcn c n) 0 s →
    gW (tP sa) lM b E (d + 1 + 1) mX7_flowOf 181 [some (.ref (b + 0)), some (.int (zI (l : Int))), some (.int (zI l2)), some (.long (lJ all)), none, some (.int (zI (t : Int)))] [] T1 (fun r T' => pV r (φ T')) := by
  obtain ⟨g1, g2, g3, g4⟩ := hw.flat
  have hn := hw.1
  have hnv := hw.2.1
  have hnf := hw.2.2.1
  obtain ⟨q, _⟩ := g4 l hl
  have q4 := q.2.2.2.2.1 (by omega)
  intro j
  induction j with
  | zero =>
    intro t T1 s1 hj hs hf he
    have hm1 := rF.cn hf hm
    refine w_X7_flowOf_181 ?_
    unfold f_X7_flowOf_181
    refine ⟨by omega, fun _ => ⟨rfl, k T1 (by rw [← he]; exact hs) hf⟩, fun z => absurd hm1.2.2.2.2.1 (by omega)⟩
  | succ j ih =>
    intro t T1 s1 hj hs hf he
    have hm1 := rF.cn hf hm
    obtain ⟨h1, h2, h3, h4, h5, h6, h7, h8, h9⟩ := id hm1
    refine w_X7_flowOf_181 ?_
    unfold f_X7_flowOf_181
    have ea : (vI T1 0 3).toNat = a := by omega
    rw [fCl] at he
    rw [bit_r (by omega), ea]
    have en : (t : Int) + 1 = ((t + 1 : Nat) : Int) := by omega
    refine ⟨by omega, fun z => absurd z (by omega), fun _ => ⟨fun z => ?_, fun z => ?_⟩⟩
    · rw [if_neg z] at he
      rw [en]
      exact ih (t + 1) T1 s1 (by omega) hs hf he
    · rw [if_pos z] at he
      obtain ⟨a1, a2, a3⟩ := lbN_ok (c := c) (n := n) (t := t) (by omega)
      have q3 := (g4 _ a1).1.2.2.2.1 (by rcases a2 with z | z <;> omega)
      have q1 := (g4 _ a1).1.2.1 (by rcases a2 with z | z; exact Or.inr (Or.inl z); exact Or.inr (Or.inr (Or.inl z)))
      have el := h7 _ a1 a2
      rw [a3] at el
      rw [Int.toNat_natCast, Int.toNat_natCast, el, Int.toNat_natCast, h4 l 4 hl (by omega), h4 _ 1 a1 (by omega)]
      unfold fC1 at he
      generalize lbN c n t = g at *
      obtain ⟨x, hx⟩ : ∃ x : Nat, c g 1 = (x : Int) := ⟨(c g 1).toNat, by omega⟩
      rw [hx, hs.1 _ (by omega)]
      rw [hx, Int.toNat_natCast] at he
      refine ⟨by omega, by omega, by omega, by omega, by omega, by omega, by omega, c_joinV hs (by omega) (hs.2.2.2.1 _) (fun T2 hs2 hf2 => ?_)⟩
      have hm2 := rF.cn hf2 hm1
      obtain ⟨h1', h2', h3', h4', h5', h6', h7', h8', h9'⟩ := id hm2
      have el2 := h7' _ a1 a2
      rw [a3] at el2
      have ea2 : (vI T2 0 3).toNat = a := by omega
      rw [ea2, el2, Int.toNat_natCast, h4' _ 3 a1 (by omega), hs2.1 _ (by omega)]
      refine ⟨by omega, by omega, by omega, by omega, c_joinE hs2 (by omega) (hs2.2.2.2.1 _) (fun T3 hs3 hf3 => ?_)⟩
      rw [en]
      exact ih (t + 1) T3 _ (by omega) hs3 (hf.trans (hf2.trans hf3)) he
theorem flowOf_fn (hw : wP c n nv nf) (hm : mCn T a n c n) (hl : l < n) (hf : c l 0 = 2 ∨ c l 0 = 3) {φ : gT → Prop} (h : rFw T s) (k : ∀ T', rFw T' (fl c n l s) → rF T T' → φ T') :
    gW (tP sa) lM b E (d + 1 + 1) mX7_flowOf 40 [some (.ref (b + 0)), some (.int (zI (l : Int))), some (.int (zI (c l 0))), none, none, none] [] T (fun r T' => pV r (φ T')) := by
  obtain ⟨g1, g2, g3, g4⟩ := hw.flat
  have hn := hw.1
  have hnv := hw.2.1
  have hnf := hw.2.2.1
  obtain ⟨q, _⟩ := g4 l hl
  have h50 := fcn_50 hw hl hf
  obtain ⟨h1, h2, h3, h4, h5, h6, h7, h8, h9⟩ := id hm
  have e5 : vI T 5 l = (fcn c l : Int) := by rw [h6 l hl]; unfold foN; rw [if_pos hf]
  refine w_X7_flowOf_40 ?_
  unfold f_X7_flowOf_40
  rw [Int.toNat_natCast, e5, sh2 ⟨fcn c l, h50⟩]
  refine ⟨by omega, by omega, c_joinE h (by omega) (two_lt h50) (fun T1 hs1 hf1 => ⟨by omega, fun z => ⟨rfl, k T1 ?_ hf1⟩, fun z => ?_⟩)⟩
  · unfold fl; rw [if_neg (by omega), if_pos (by omega)]; exact hs1
  · obtain ⟨h1', h2', h3', h4', h5', h6', h7', h8', h9'⟩ := rF.cn hf1 hm
    have e5' : vI T1 5 l = (fcn c l : Int) := by rw [h6' l hl]; unfold foN; rw [if_pos hf]
    have ea : (vI T1 0 3).toNat = a := by omega
    have q2 := q.2.2.1 z
    rw [ea, h4' l 2 hl (by omega), e5', sh2 ⟨fcn c l, h50⟩]
    obtain ⟨x, hx⟩ : ∃ x : Nat, c l 2 = (x : Int) := ⟨(c l 2).toNat, by omega⟩
    rw [hx]
    refine ⟨by omega, by omega, c_joinV hs1 (by omega) (two_lt h50) (fun T2 hs2 hf2 => ⟨rfl, k T2 ?_ (hf1.trans hf2)⟩)⟩
    unfold fl; rw [if_neg (by omega), if_neg (by omega), if_pos z, hx, Int.toNat_natCast]; exact hs2
theorem c_flowOf (hw : wP c n nv nf) (hm : mCn T a n c n) (hl : l < n) {φ : gT → Prop} (h : rFw T s) (k : ∀ T', rFw T' (fl c n l s) → rF T T' → φ T') :
    gC (tP sa) lM b E (d + 1 + 1) mX7_flowOf [.ref (b + 0), .int (zI (l : Int))] T (fun r T' => pV r (φ T')) := by
  obtain ⟨g1, g2, g3, g4⟩ := hw.flat
  have hn := hw.1
  have hnv := hw.2.1
  have hnf := hw.2.2.1
  obtain ⟨q, _⟩ := g4 l hl
  obtain ⟨h1, h2, h3, h4, h5, h6, h7, h8, h9⟩ := id hm
  have ea : (vI T 0 3).toNat = a := by omega
  refine w_X7_flowOf ?_
  unfold f_X7_flowOf
  rw [Int.toNat_natCast, ea, h4 l 0 hl (by omega), h4 l 1 hl (by omega), h4 l 3 hl (by omega), h4 l 4 hl (by omega), h4 l 5 hl (by omega)]
  refine ⟨by omega, by omega, fun k0 => ⟨fun k2 => ?_, fun k2 => ⟨fun k3 => ⟨fun k4 => ⟨fun k5 => ⟨fun k11 => ?_, fun k11 => ?_⟩, fun k5 => ?_⟩, fun k4 => ?_⟩, fun k3 => ?_⟩⟩, fun k0 => ?_⟩
  · exact flowOf_fn hw hm hl (Or.inl k2) h k
  · refine ⟨rfl, k T ?_ fG.refl⟩
    unfold fl; rw [if_neg k0, if_neg k2, if_neg k3, if_neg k4, if_neg k5, if_neg k11]; exact h
  · have q3 := q.2.2.2.1 (by omega)
    rw [h.1 _ (by omega)]
    refine ⟨by omega, by omega, by omega, flowOf_call (s := s) hw hm hl k11 (fun T' hs' hf' => k T' ?_ hf') _ 0 T s (Nat.add_zero _) h fG.refl rfl⟩
    unfold fl; rw [if_neg k0, if_neg k2, if_neg k3, if_neg k4, if_neg k5, if_pos k11]; exact hs'
  · have q3 := q.2.2.2.1 (by omega)
    have q4 := q.2.2.2.2.1 (by omega)
    have q1 := q.2.1 (by omega)
    obtain ⟨x, hx⟩ : ∃ x : Nat, c l 1 = (x : Int) := ⟨(c l 1).toNat, by omega⟩
    rw [h.1 _ (by omega), hx]
    refine ⟨by omega, by omega, by omega, by omega, c_joinV h (by omega) (h.2.2.2.1 _) (fun T1 hs1 hf1 => ?_)⟩
    obtain ⟨h1', h2', h3', h4', h5', h6', h7', h8', h9'⟩ := rF.cn hf1 hm
    have ea' : (vI T1 0 3).toNat = a := by omega
    rw [ea', h4' l 4 hl (by omega), hs1.1 _ (by omega)]
    refine ⟨by omega, by omega, by omega, by omega, c_joinE hs1 (by omega) (hs1.2.2.2.1 _) (fun T2 hs2 hf2 => ⟨rfl, k T2 ?_ (hf1.trans hf2)⟩)⟩
    unfold fl; rw [if_neg k0, if_neg k2, if_neg k3, if_neg k4, if_pos k5, hx, Int.toNat_natCast]; exact hs2
  · have q4 := q.2.2.2.2.1 (by omega)
    have q5 := q.2.2.2.2.2.1 (by omega)
    rw [h.1 _ (by omega), h.1 _ (by omega), lJ_or]
    refine ⟨by omega, by omega, by omega, by omega, by omega, by omega, c_joinE h (by omega) (Nat.or_lt_two_pow (h.2.2.2.1 _) (h.2.2.2.1 _)) (fun T1 hs1 hf1 => ⟨rfl, k T1 ?_ hf1⟩)⟩
    unfold fl; rw [if_neg k0, if_neg k2, if_neg k3, if_pos k4]; exact hs1
  · exact flowOf_fn hw hm hl (Or.inr k3) h k
  · have q1 := q.2.1 (by omega)
    rw [h.2.1 _ (by omega)]
    refine ⟨by omega, by omega, by omega, c_joinE h (by omega) (h.2.2.2.2 _) (fun T1 hs1 hf1 => ⟨rfl, k T1 ?_ hf1⟩)⟩
    unfold fl; rw [if_pos k0]; exact hs1
end FM
