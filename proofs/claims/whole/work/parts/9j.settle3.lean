section ST3
variable {sa : Nat → Nat} {b : Nat} {E : Nat × mH} {d : Nat} {T T' : gT} {q : Nat} {c : Nat → Nat → Int} {n nv nf i : Nat} {old : Nat → Nat}
theorem sm_pt {f g : Nat → Nat} {x : Nat} (h : ∀ v, v ≠ x → g v = f v) : ∀ k, x < k → sm g k + f x = sm f k + g x := by
  intro k
  induction k with
  | zero => intro h; omega
  | succ k ih =>
    intro hx
    rw [sm, sm]
    by_cases e : x = k
    · subst e
      have : ∀ m, m ≤ x → sm g m = sm f m := by
        intro m
        induction m with
        | zero => intro _; rfl
        | succ m ih2 => intro hm; rw [sm, sm, ih2 (by omega), h m (by omega)]
      rw [this x (Nat.le_refl _)]; omega
    · have := ih (by omega)
      rw [h k (fun z => e z.symm)]; omega
theorem sm_eq {f g : Nat → Nat} (h : ∀ v, g v = f v) (k : Nat) : sm g k = sm f k := by rw [show g = f from funext h]
/-- free in top, up to a label -/
abbrev frU (c : Nat → Nat → Int) (top cur v : Nat) : Prop := mcn c v cur ≠ mcn c v top ∧ v < vcn c top
theorem frc_u (hw : wP c n nv nf) {top : Nat} (ht : top < n) (hf : isFn c top) : frc c top = sm (fun v => b1 (frU c top (en c top) v)) 100 := by
  obtain ⟨o1, o2, _⟩ := own hw ht
  have e : v0c c top = (vcn c top : Int) := by
    unfold v0c
    rcases hf with z | z
    · rw [if_neg (by omega), o1 z]
    · rw [if_pos z, (o2 z).2]
  unfold frc
  refine sm_eq (fun v => ?_) _
  rw [e]
  by_cases z : frU c top (en c top) v
  · rw [b1_p z, if_pos ⟨z.1, by have := z.2; omega⟩]
  · rw [b1_n z, if_neg (fun y => z ⟨y.1, by have := y.2; omega⟩)]
abbrev gF (T : gT) (q : Nat) (c : Nat → Nat → Int) (n nv : Nat) : Prop := gK T q c n ∧ vI T q 2 = (nv : Int) ∧ (∀ l, l < n → vI T (q + 2) l = c l 1) ∧ (∀ l, l < n → vI T (q + 17) l = (en c l : Int)) ∧ ∀ v, v < nv → vI T (q + 8) v = (bdN c n v : Int)
def W5 (q : Nat) (k _ : Nat) : Prop := k = q + 11
theorem gF.of {T T' : gT} (h : gF T q c n nv) (hf : ∀ k j, k ≠ q + 11 → vI T' k j = vI T k j) : gF T' q c n nv := by
  obtain ⟨h1, h2, h3, h4, h5⟩ := h
  exact ⟨h1.of (hf _ _ (by omega)) (fun l => hf _ _ (by omega)), (hf _ _ (by omega)).trans h2, fun l hl => (hf _ _ (by omega)).trans (h3 l hl), fun l hl => (hf _ _ (by omega)).trans (h4 l hl), fun v hv => (hf _ _ (by omega)).trans (h5 v hv)⟩
theorem cF_lp {t top : Nat} {φ : Int → gT → Prop} (hw : wP c n nv nf) (hq : q = 2 ∨ q = 21) (ht : t < 50) (htop : top < n) (hf : isFn c top) (k : ∀ T', fG (W5 q) V0 T T' → (∀ v, v < nv → vI T' (q + 11) v ≤ (t : Int)) → φ (frc c top : Int) T') :
    ∀ (j cur : Nat) (T1 : gT) (l5 l6 : Int), j + cur = en c top → top < cur → gF T1 q c n nv → fG (W5 q) V0 T T1 → (∀ v, v < nv → vI T1 (q + 11) v ≤ (t : Int) ∧ (vI T1 (q + 11) v = (t : Int) ↔ frU c top cur v)) →
      gW (tP sa) lD b E (d + 2) mX3_countFree 18 [some (.ref (b + q)), some (.int (zI (t : Int))), some (.int (zI (top : Int))), some (.int (zI ((sm (fun v => b1 (frU c top cur v)) 100 : Nat) : Int))), some (.int (zI (cur : Int))), some (.int (zI l5)), some (.int (zI l6))] [] T1 (fun r T' => pI r (fun v => φ v T')) := by
  have hn := hw.1
  have hnv := hw.2.1
  have hvn := vcn_nv hw
  obtain ⟨_, ha, hb, _⟩ := kid hw htop
  intro j
  induction j with
  | zero =>
    intro cur T1 l5 l6 hj hc hG hF hM
    refine w_X3_countFree_18b (d := d) hq ?_
    unfold f_X3_countFree_18b
    rw [aI_n (by omega), hG.2.2.2.1 top htop]
    obtain rfl : cur = en c top := by omega
    refine ⟨by omega, by omega, fun _ => ⟨_, rfl, ?_⟩, fun z => absurd (Int.le_refl _) z⟩
    rw [← frc_u hw htop hf]
    exact k T1 hF (fun v hv => (hM v hv).1)
  | succ j ih =>
    intro cur T1 l5 l6 hj hc hG hF hM
    have hcn : cur < n := by omega
    refine w_X3_countFree_18b (d := d) hq ?_
    unfold f_X3_countFree_18b
    rw [aI_n (by omega), hG.2.2.2.1 top htop, hG.1.1, Int.toNat_natCast, hG.1.2 cur hcn, hG.2.2.1 cur hcn]
    have nx : ∀ (T2 : gT) (l5 l6 : Int) (N : Nat), N = sm (fun v => b1 (frU c top (cur + 1) v)) 100 → gF T2 q c n nv → fG (W5 q) V0 T T2 → (∀ v, v < nv → vI T2 (q + 11) v ≤ (t : Int) ∧ (vI T2 (q + 11) v = (t : Int) ↔ frU c top (cur + 1) v)) → gW (tP sa) lD b E (d + 2) mX3_countFree 18 [some (.ref (b + q)), some (.int (zI (t : Int))), some (.int (zI (top : Int))), some (.int (zI (N : Int))), some (.int (zI ((cur : Int) + 1))), some (.int (zI l5)), some (.int (zI l6))] [] T2 (fun r T' => pI r (fun v => φ v T')) := by
      intro T2 l5 l6 N hN h1 h2 h3
      rw [hN, show (cur : Int) + 1 = ((cur + 1 : Nat) : Int) by omega]
      exact ih (cur + 1) T2 l5 l6 (by omega) (by omega) h1 h2 h3
    -- nothing new
    have same : (∀ v, v < nv → (frU c top (cur + 1) v ↔ frU c top cur v)) → ∀ s : Int, okI s → gW (tP sa) lD b E (d + 1 + 1) mX3_countFree 90 [some (.ref (b + q)), some (.int (zI (t : Int))), some (.int (zI (top : Int))), some (.int (zI ((sm (fun v => b1 (frU c top cur v)) 100 : Nat) : Int))), some (.int (zI (cur : Int))), some (.int (zI s)), some (.int (zI l6))] [.int (zI 0)] T1 (fun r T' => pI r (fun v => φ v T')) := by
      intro hs s _
      refine w_X3_countFree_90b (d := d) hq ?_
      unfold f_X3_countFree_90b
      refine ⟨by omega, fun _ => nx T1 _ _ _ (sm_eq (fun v => ?_) _) hG hF (fun v hv => ⟨(hM v hv).1, (hM v hv).2.trans (hs v hv).symm⟩), fun z => absurd rfl z⟩
      by_cases hv : v < nv
      · by_cases z : frU c top cur v
        · rw [b1_p z, b1_p ((hs v hv).mpr z)]
        · rw [b1_n z, b1_n (fun y => z ((hs v hv).mp y))]
      · have mt : vcn c top ≤ vcn c n := vcn_mono (by omega)
        rw [b1_n (fun y : frU c top cur v => by have := y.2; omega), b1_n (fun y : frU c top (cur + 1) v => by have := y.2; omega)]
    refine ⟨by omega, by omega, fun z => by omega, fun _ => ⟨fun z => by omega, fun _ => ⟨by omega, by omega, fun z => ?_, fun z => ?_⟩⟩⟩
    · refine w_X3_countFree_58b (d := d) hq ?_
      unfold f_X3_countFree_58b
      refine ⟨by omega, fun _ => ?_, fun z => absurd (by decide) z⟩
      refine w_X3_countFree_89b (d := d) hq ?_
      unfold f_X3_countFree_89b
      refine same (fun v hv => ?_) _ (by unfold okI; omega)
      unfold frU
      rw [mcn, if_neg (fun y => z y.1)]
      exact Iff.rfl
    · obtain ⟨x, x1, x2⟩ := (own hw hcn).2.2.2 z
      have hxn : x < nv := by have := vcn_mono (c := c) (show cur ≤ n by omega); omega
      have mono : ∀ v, mcn c v top ≤ mcn c v cur := fun v => mcn_mono (by omega)
      -- who is free now
      have fr : ∀ v, frU c top (cur + 1) v ↔ (frU c top cur v ∨ (v = x ∧ x < vcn c top)) := by
        intro v
        have := mono v
        unfold frU
        rw [mcn]
        by_cases y : v = x
        · rw [if_pos ⟨z, by rw [y]; exact x2⟩, y]
          constructor
          · intro e; exact Or.inr ⟨rfl, e.2⟩
          · rintro (e | e)
            · exact ⟨by have := mono x; omega, e.2⟩
            · exact ⟨by have := mono x; omega, e.2⟩
        · rw [if_neg (fun e => y (by omega))]
          constructor
          · intro e; exact Or.inl ⟨by omega, e.2⟩
          · rintro (e | e)
            · exact ⟨by omega, e.2⟩
            · exact absurd e.1 y
      rw [x2]
      have bl := bdN_lt hw (v := x) (i := top) (by omega) (by omega)
      refine w_X3_countFree_58b (d := d) hq ?_
      unfold f_X3_countFree_58b
      rw [Int.toNat_natCast, hG.2.1, hG.2.2.2.2 x hxn]
      refine ⟨by omega, fun z => by omega, fun _ => ⟨fun z => by omega, fun _ => ⟨by omega, by omega, by omega, fun z1 => ?_, fun z1 => ?_⟩⟩⟩
      · refine w_X3_countFree_89b (d := d) hq ?_
        unfold f_X3_countFree_89b
        refine same (fun v hv => (fr v).trans ⟨fun e => ?_, Or.inl⟩) _ (by unfold okI; omega)
        rcases e with e | e
        · exact e
        · have := bl.mpr e.2; omega
      · have hx : x < vcn c top := bl.mp (by omega)
        refine w_X3_countFree_90b (d := d) hq ?_
        unfold f_X3_countFree_90b
        rw [Int.toNat_natCast]
        have hMx := hM x hxn
        refine ⟨by omega, fun z => absurd z (by decide), fun _ => ⟨by omega, by omega, by omega, fun z2 => ?_, fun z2 => ?_⟩⟩
        · have hin := hMx.2.mp z2
          have fr2 : ∀ v, frU c top (cur + 1) v ↔ frU c top cur v := fun v => (fr v).trans ⟨fun e => by
            rcases e with e | e
            · exact e
            · rw [e.1]; exact hin, Or.inl⟩
          refine nx T1 _ _ _ (sm_eq (fun v => ?_) _) hG hF (fun v hv => ⟨(hM v hv).1, (hM v hv).2.trans (fr2 v).symm⟩)
          by_cases z : frU c top cur v
          · rw [b1_p z, b1_p ((fr2 v).mpr z)]
          · rw [b1_n z, b1_n (fun y => z ((fr2 v).mp y))]
        · have hout : ¬ frU c top cur x := fun y => z2 (hMx.2.mpr y)
          have sp := sm_pt (f := fun v => b1 (frU c top cur v)) (g := fun v => b1 (frU c top (cur + 1) v)) (x := x) (fun v hv => by
            by_cases z : frU c top cur v
            · rw [b1_p z, b1_p ((fr v).mpr (Or.inl z))]
            · rw [b1_n z, b1_n (fun y => by rcases (fr v).mp y with e | e; exact z e; exact hv e.1)]) 100 (by omega)
          rw [b1_n hout, b1_p ((fr x).mpr (Or.inr ⟨rfl, hx⟩))] at sp
          refine nx _ _ _ (sm (fun v => b1 (frU c top cur v)) 100 + 1) (by omega) (hG.of (fun k j hk => v_o (by omega))) (hF.gI rfl) (fun v hv => ?_)
          rw [v_if (by omega)]
          by_cases y : v = x
          · rw [if_pos ⟨rfl, y⟩]
            exact ⟨Int.le_refl _, fun _ => (fr v).mpr (Or.inr ⟨y, hx⟩), fun _ => rfl⟩
          · rw [if_neg (by omega)]
            refine ⟨(hM v hv).1, (hM v hv).2.trans ((fr v).trans ⟨fun e => ?_, Or.inl⟩).symm⟩
            rcases e with e | e
            · exact e
            · exact absurd e.1 y
theorem d_countFree {t : Nat} {φ : Int → gT → Prop} (hw : wP c n nv nf) (hq : q = 2 ∨ q = 21) (ht : t < nf) (hG : gF T q c n nv) (h7 : vI T (q + 7) t = (lbN c n t : Int)) (hM : ∀ v, v < nv → vI T (q + 11) v < (t : Int)) (k : ∀ T', fG (W5 q) V0 T T' → (∀ v, v < nv → vI T' (q + 11) v ≤ (t : Int)) → φ (frc c (lbN c n t) : Int) T') :
    gC (tP sa) lD b E (d + 2) mX3_countFree [.ref (b + q), .int (zI (t : Int))] T (fun r T' => pI r (fun v => φ v T')) := by
  have hn := hw.1
  have hnf := hw.2.2.1
  obtain ⟨a1, a2, a3⟩ := lbN_ok (c := c) (n := n) (t := t) (by rw [hw.flat.2.1]; exact ht)
  obtain ⟨_, ha, hb, _⟩ := kid hw a1
  refine w_X3_countFree (d := d) hq ?_
  unfold f_X3_countFree
  rw [aI_n (by omega), h7, if_neg (by omega)]
  refine ⟨by omega, ?_⟩
  refine w_X3_countFree_18 (d := d) hq ?_
  unfold f_X3_countFree_18
  rw [aI_n (by omega), hG.2.2.2.1 _ a1, hG.1.1, Int.toNat_natCast, hG.1.2 _ a1]
  refine ⟨by omega, by omega, fun z => by omega, fun _ => ⟨fun z => by omega, fun _ => ⟨by omega, by omega, fun z => ?_, fun z => by rcases a2 with y | y <;> omega⟩⟩⟩
  refine w_X3_countFree_58 (d := d) hq ?_
  unfold f_X3_countFree_58
  refine ⟨by omega, fun _ => ?_, fun z => absurd (by decide) z⟩
  refine w_X3_countFree_89 (d := d) hq ?_
  unfold f_X3_countFree_89
  refine w_X3_countFree_90 (d := d) hq ?_
  unfold f_X3_countFree_90
  have no : ∀ v, ¬ frU c (lbN c n t) (lbN c n t + 1) v := fun v y => y.1 (by rw [mcn, if_neg (fun e => z e.1)]; rfl)
  refine ⟨by omega, fun _ => ?_, fun z => absurd rfl z⟩
  have := cF_lp (sa := sa) (b := b) (E := E) (d := d) (T := T) (t := t) (φ := φ) hw hq (by omega) a1 a2 k (en c (lbN c n t) - (lbN c n t + 1)) (lbN c n t + 1) T (-1) 0 (by omega) (by omega) hG fG.refl (fun v hv => ⟨by have := hM v hv; omega, fun e => by have := hM v hv; omega, fun e => absurd e (no v)⟩)
  rw [show sm (fun v => b1 (frU c (lbN c n t) (lbN c n t + 1) v)) 100 = 0 by
    rw [sm_eq (f := fun _ => 0) (fun v => b1_n (no v)) 100]
    have : ∀ k, sm (fun _ => 0) k = 0 := by
      intro k
      induction k with
      | zero => rfl
      | succ k ih => rw [sm, ih]
    exact this 100] at this
  rw [show (lbN c n t : Int) + 1 = ((lbN c n t + 1 : Nat) : Int) by omega]
  exact this
/-- all of it -/
def Wq (q : Nat) (k _ : Nat) : Prop := q ≤ k ∧ k ≤ q + 18
theorem toQ {W : Nat → Nat → Prop} (h : fG W V0 T T') (hs : ∀ k j, W k j → Wq q k j) : fG (Wq q) V0 T T' := h.mono hs (fun _ _ z => z)
theorem d_settle {φ : gT → Prop} (hE : mSta sa b E) (hw : wP c n nv nf) (hO : okO old nv) (hq : q = 2 ∨ q = 21) (h0 : vI T q 0 = (n : Int)) (ht : ∀ l, l < n → vI T (q + 1) l = c l 0 ∧ vI T (q + 2) l = tV c old l ∧ vI T (q + 3) l = tS c old l) (k : ∀ T', fG (Wq q) V0 T T' → cPq T' q c n nv nf → φ T') :
    gC (tP sa) lD b E (d + 3) mX3_settle [.ref (b + q)] T (fun r T' => pV r (φ T')) := by
  have hn := hw.1
  have hnv := hw.2.1
  have hnf := hw.2.2.1
  have hvn := vcn_nv hw
  obtain ⟨n0, fn, c06, _⟩ := hw.flat
  refine w_X3_settle (d := d + 2) hq ?_
  unfold f_X3_settle
  -- the functions' free variables
  have lp2 : ∀ (j t : Nat) (T1 : gT), j + t = nf → fG (Wq q) V0 T T1 → gF T1 q c n nv → cPl T1 q c n n → vI T1 q 1 = (nf : Int) → (∀ t, t < nf → vI T1 (q + 7) t = (lbN c n t : Int)) → (∀ v, v < nv → vI T1 (q + 9) v = (mcn c v n : Int)) → (∀ v, v < nv → vI T1 (q + 11) v < (t : Int)) → (∀ u, u < t → vI T1 (q + 10) u = (frc c (lbN c n u) : Int)) →
      gW (tP sa) lD b E (d + 2 + 1) mX3_settle 79 [some (.ref (b + q)), some (.int (zI (-1))), some (.int (zI (t : Int)))] [] T1 (fun r T' => pV r (φ T')) := by
    intro j
    induction j with
    | zero =>
      intro t T1 hj hF hG hP h1 h7 h9 h11 h10
      obtain rfl : t = nf := by omega
      refine w_X3_settle_79 (d := d + 2) hq ?_
      unfold f_X3_settle_79
      exact ⟨by omega, fun _ => ⟨rfl, k T1 hF ⟨hw, hq, hG.1.1, h1, hG.2.1, hP, fun t ht => ⟨h7 t ht, h10 t ht⟩, fun v hv => ⟨hG.2.2.2.2 v hv, h9 v hv⟩⟩⟩, fun z => absurd z (by omega)⟩
    | succ j ih =>
      intro t T1 hj hF hG hP h1 h7 h9 h11 h10
      refine w_X3_settle_79 (d := d + 2) hq ?_
      unfold f_X3_settle_79
      refine ⟨by omega, fun z => absurd z (by omega), fun _ => ?_⟩
      refine d_countFree (d := d) hw hq (by omega) hG (h7 t (by omega)) h11 (fun T2 hF2 hM2 => ?_)
      rw [Int.toNat_natCast, show (t : Int) + 1 = ((t + 1 : Nat) : Int) by omega]
      have hfr : frc c (lbN c n t) ≤ 100 := by
        have h1 := sm_b1 (P := fun v => frU c (lbN c n t) (en c (lbN c n t)) v) 100
        obtain ⟨a1, a2, a3⟩ := lbN_ok (c := c) (n := n) (t := t) (by omega)
        rw [frc_u hw a1 a2]; exact h1
      have q2 : ∀ k j, k ≠ q + 11 → k ≠ q + 10 → vI (gI T2 (q + 10) t (zI (frc c (lbN c n t) : Int))) k j = vI T1 k j := fun k j h1 h2 => by
        rw [v_o (by omega)]; exact hF2.v h1
      refine ⟨by omega, by omega, ih (t + 1) _ (by omega) ?_ ?_ (fun l hl => ?_) ?_ (fun u hu => ?_) (fun v hv => ?_) (fun v hv => ?_) (fun u hu => ?_)⟩
      · exact (hF.trans (toQ hF2 (fun k j z => by unfold W5 at z; unfold Wq; omega))).gI (by unfold Wq; omega)
      · obtain ⟨a1, a2, a3, a4, a5⟩ := hG
        exact ⟨a1.of (q2 _ _ (by omega) (by omega)) (fun l => q2 _ _ (by omega) (by omega)), (q2 _ _ (by omega) (by omega)).trans a2, fun l hl => (q2 _ _ (by omega) (by omega)).trans (a3 l hl), fun l hl => (q2 _ _ (by omega) (by omega)).trans (a4 l hl), fun v hv => (q2 _ _ (by omega) (by omega)).trans (a5 v hv)⟩
      · obtain ⟨a1, a2, a3, a4, a5, a6, a7, a8, a9, a10⟩ := hP l hl
        exact ⟨(q2 _ _ (by omega) (by omega)).trans a1, (q2 _ _ (by omega) (by omega)).trans a2, (q2 _ _ (by omega) (by omega)).trans a3, (q2 _ _ (by omega) (by omega)).trans a4, (q2 _ _ (by omega) (by omega)).trans a5, (q2 _ _ (by omega) (by omega)).trans a6, (q2 _ _ (by omega) (by omega)).trans a7, (q2 _ _ (by omega) (by omega)).trans a8, (q2 _ _ (by omega) (by omega)).trans a9, (q2 _ _ (by omega) (by omega)).trans a10⟩
      · exact (q2 _ _ (by omega) (by omega)).trans h1
      · exact (q2 _ _ (by omega) (by omega)).trans (h7 u hu)
      · exact (q2 _ _ (by omega) (by omega)).trans (h9 v hv)
      · rw [v_o (by omega)]; have := hM2 v hv; omega
      · rw [v_if (by omega)]
        by_cases y : u = t
        · rw [if_pos ⟨rfl, y⟩, y]
        · rw [if_neg (by omega), hF2.v (by unfold W5; omega)]; exact h10 u (by omega)
  -- the labels
  have lp : ∀ (j i : Nat) (T1 : gT), j + i = n → fG (Wq q) V0 T T1 → gK T1 q c n → g1 T1 q c n old i → g2 T1 q c i → g3 T1 q c n i → g4 T1 q c i →
      gW (tP sa) lD b E (d + 2 + 1) mX3_settle 14 [some (.ref (b + q)), some (.int (zI (if i < n then c i 6 else -1))), some (.int (zI (i : Int)))] [] T1 (fun r T' => pV r (φ T')) := by
    intro j
    induction j with
    | zero =>
      intro i T1 hj hF hK h1 h2 h3 h4
      obtain rfl : i = n := by omega
      refine w_X3_settle_14 (d := d + 2) hq ?_
      unfold f_X3_settle_14
      rw [if_neg (by omega), hK.1]
      refine ⟨by omega, fun _ => ?_, fun z => absurd z (by omega)⟩
      have hP : cPl T1 q c i i := fun l hl => by
        obtain ⟨e2, e3⟩ := h1.2.1 l hl
        rw [if_pos hl] at e2 e3
        obtain ⟨p1, p2, p3, p4⟩ := h2 l hl
        obtain ⟨_, ha, hb, hk⟩ := kid hw hl
        have e13 : vI T1 (q + 13) l = c l 3 := by
          have := p4 0 (by omega)
          rw [show q + 13 + 0 = q + 13 from rfl, show 3 + 0 = 3 from rfl] at this
          rw [this]
          have : c l 3 < (i : Int) := by
            rcases hk with hk | hk | hk | hk
            · omega
            · have : c l 3 = _ := hk.2.1.1; have := hk.2.1.2.2.1; omega
            · obtain ⟨_, m, m2, p0, _⟩ := hk
              have : c l 3 = _ := p0.1; have := p0.2.2.1; omega
            · obtain ⟨_, m, p0, _⟩ := hk
              have : c l 3 = _ := p0.1; have := p0.2.2.1; omega
          rw [if_pos this]
        have e14 : vI T1 (q + 14) l = c l 4 := by
          have := p4 1 (by omega)
          rw [show q + 13 + 1 = q + 14 from rfl, show 3 + 1 = 4 from rfl] at this
          rw [this]
          have : c l 4 < (i : Int) := by
            rcases hk with hk | hk | hk | hk
            · omega
            · omega
            · obtain ⟨_, m, m2, p0, p1, _⟩ := hk
              have : c l 4 = _ := p1.1; have := p1.2.2.1; omega
            · obtain ⟨_, m, p0, p1, _⟩ := hk
              have : c l 4 = _ := p1.1; have := p1.2.2.1; omega
          rw [if_pos this]
        have e15 : vI T1 (q + 15) l = c l 5 := by
          have := p4 2 (by omega)
          rw [show q + 13 + 2 = q + 15 from rfl, show 3 + 2 = 5 from rfl] at this
          rw [this]
          have : c l 5 < (i : Int) := by
            rcases hk with hk | hk | hk | hk
            · omega
            · omega
            · obtain ⟨_, m, m2, p0, p1, p2, _⟩ := hk
              have : c l 5 = _ := p2.1; have := p2.2.2.1; omega
            · obtain ⟨_, m, p0, p1, k5, _⟩ := hk
              omega
          rw [if_pos this]
        exact ⟨hK.2 l hl, e2, e3, p1, h3.2.1 l hl, p2, e13, e14, e15, h4 l hl (by omega)⟩
      refine lp2 nf 0 T1 (by omega) hF ⟨hK, by rw [h1.1, hvn], fun l hl => (hP l hl).2.1, fun l hl => (hP l hl).2.2.2.2.2.2.2.2.2, fun v hv => (h1.2.2 v (by omega)).1⟩ hP (by rw [h3.1, fn]) (fun t ht => h3.2.2 t (by omega)) (fun v hv => (h1.2.2 v (by omega)).2.1) (fun v hv => by have := (h1.2.2 v (by omega)).2.2.1; omega) (fun u hu => by omega)
    | succ j ih =>
      intro i T1 hj hF hK h1 h2 h3 h4
      have hi : i < n := by omega
      refine w_X3_settle_14 (d := d + 2) hq ?_
      unfold f_X3_settle_14
      rw [if_pos hi, hK.1]
      refine ⟨by omega, fun z => absurd z (by omega), fun _ => ?_⟩
      refine d_numV (d := d + 1) hw hO hq hi hK h1 (fun T2 f2 h1' => ?_)
      have hK2 : gK T2 q c n := hK.of (f2.v (by unfold W1; omega)) (fun l => f2.v (by unfold W1; omega))
      have h22 : g2 T2 q c i := h2.of (fun k j z => f2.v (by unfold W2 at z; unfold W1; omega))
      have h32 : g3 T2 q c n i := h3.of (fun k j z => f2.v (by unfold W3 at z; unfold W1; omega))
      have h42 : g4 T2 q c i := h4.of (fun j => f2.v (by unfold W1; omega))
      refine d_join (d := d + 2) hw hq hi h22 h32 (fun T3 f3 h2' => ?_)
      have hK3 : gK T3 q c n := hK2.of (f3.v (by unfold W2; omega)) (fun l => f3.v (by unfold W2; omega))
      have h13 : g1 T3 q c n old (i + 1) := h1'.of (fun k j z => f3.v (by unfold W1 at z; unfold W2; omega))
      have h33 : g3 T3 q c n i := h32.of (fun k j z => f3.v (by unfold W3 at z; unfold W2; omega))
      have h43 : g4 T3 q c i := h42.of (fun j => f3.v (by unfold W2; omega))
      have hF3 : fG (Wq q) V0 T T3 := hF.trans ((toQ f2 (fun k j z => by unfold W1 at z; unfold Wq; omega)).trans (toQ f3 (fun k j z => by unfold W2 at z; unfold Wq; omega)))
      rw [Int.toNat_natCast]
      have ek : vI (gI T3 (q + 5) i (zI (-1))) (q + 1) i = c i 0 := by rw [v_o (by omega)]; exact hK3.2 i hi
      rw [ek, show (i : Int) + 1 = ((i + 1 : Nat) : Int) by omega]
      have tl : ∀ T4, fG (W3 q) V0 T3 T4 → g3 T4 q c n (i + 1) → gC (tP sa) lD b E (d + 2) mX3_openBehind [.ref (b + q), .int (zI (i : Int))] T4 (fun r T67 => pI r (fun v67 => gW (tP sa) lD b E (d + 2 + 1) mX3_settle 14 [some (.ref (b + q)), some (.int (zI v67)), some (.int (zI ((i + 1 : Nat) : Int)))] [] T67 (fun r T' => pV r (φ T')))) := by
        intro T4 f4 h3'
        have hK4 : gK T4 q c n := hK3.of (f4.v (by unfold W3; omega)) (fun l => f4.v (by unfold W3; omega))
        have h14 : g1 T4 q c n old (i + 1) := h13.of (fun k j z => f4.v (by unfold W1 at z; unfold W3; omega))
        have h24 : g2 T4 q c (i + 1) := h2'.of (fun k j z => f4.v (by unfold W2 at z; unfold W3; omega))
        have h44 : g4 T4 q c i := h43.of (fun j => f4.v (by unfold W3; omega))
        refine d_openB (d := d + 1) hE hw hq hi hK4 h24 h44 (fun T5 f5 h4' => ?_)
        refine ih (i + 1) T5 (by omega) (hF3.trans ((toQ f4 (fun k j z => by unfold W3 at z; unfold Wq; omega)).trans (toQ f5 (fun k j z => by unfold W4 at z; unfold Wq; omega)))) (hK4.of (f5.v (by unfold W4; omega)) (fun l => f5.v (by unfold W4; omega))) (h14.of (fun k j z => f5.v (by unfold W1 at z; unfold W4; omega))) (h24.of (fun k j z => f5.v (by unfold W2 at z; unfold W4; omega))) (h3'.of (fun k j z => f5.v (by unfold W3 at z; unfold W4; omega))) h4'
      refine ⟨by omega, by omega, fun z => ?_, fun z => ⟨fun z2 => ?_, fun z2 => ?_⟩⟩
      · exact d_numF (d := d + 2) hw hq hi (Or.inl z) h33 (fun T4 f4 h3' => tl T4 f4 h3')
      · obtain ⟨f4, h3'⟩ := numF_no (c := c) (i := i) (fun y => y.elim z z2) h33
        exact tl _ f4 h3'
      · exact d_numF (d := d + 2) hw hq hi (Or.inr z2) h33 (fun T4 f4 h3' => tl T4 f4 h3')
  have := lp n 0 (gI (gI T q 1 (zI 0)) q 2 (zI 0)) (by omega) ((fG.refl.gI (by unfold Wq; omega)).gI (by unfold Wq; omega)) ⟨by rw [v_o (by omega), v_o (by omega)]; exact h0, fun l hl => by rw [v_o (by omega), v_o (by omega)]; exact (ht l hl).1⟩ ⟨v_s (by omega), fun l hl => ?_, fun v hv => absurd hv (Nat.not_lt_zero _)⟩ (fun l hl => by omega) ⟨by rw [v_o (by omega), v_s (by omega)]; rfl, fun l hl => by omega, fun t ht => absurd ht (Nat.not_lt_zero _)⟩ (fun l hl => by omega)
  · rw [if_pos n0, c06] at this
    exact this
  · rw [if_neg (by omega), if_neg (by omega), v_o (by omega), v_o (by omega), v_o (by omega), v_o (by omega)]
    exact (ht l hl).2
end ST3
