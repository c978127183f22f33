section ASK
variable {sa : Nat → Nat} {b : Nat} {E : Nat × mH} {d : Nat} {T : gT} {a : Nat} {c : Nat → Nat → Int} {n nv nf : Nat}
/-- named, and not bound below i -/
def nmB (c : Nat → Nat → Int) (top i v : Nat) : Prop := (∃ l, top ≤ l ∧ l < en c top ∧ c l 0 = 0 ∧ c l 1 = (v : Int)) ∧ ¬ ∃ k, top ≤ k ∧ k < en c top ∧ k < i ∧ bdr c k v
def nmA (c : Nat → Nat → Int) (top i v : Nat) : Prop := ∃ l, top ≤ l ∧ l < en c top ∧ l < i ∧ c l 0 = 0 ∧ c l 1 = (v : Int)
theorem nmB_skip {T1 : gT} {top i : Nat} (hs : s15 T1 (nmB c top i)) (z : ¬ (inE c top i ∧ (c i 0 = 2 ∨ c i 0 = 3 ∨ c i 0 = 5))) : s15 T1 (nmB c top (i + 1)) := hs.eq (fun v _ => by
  unfold nmB
  refine and_congr_right fun _ => not_congr ⟨fun ⟨k, k1, k2, k3, k4⟩ => ⟨k, k1, k2, by omega, k4⟩, fun ⟨k, k1, k2, k3, k4⟩ => ⟨k, k1, k2, ?_, k4⟩⟩
  by_cases e : k = i
  · subst e
    refine absurd ⟨⟨k1, k2⟩, ?_⟩ z
    rcases k4 with ⟨z, _⟩ | ⟨z, _⟩
    · exact z
    · exact Or.inr (Or.inl z)
  · omega)
theorem fr_120 (hw : wP c n nv nf) {top i : Nat} (ht : top < n) {φ : Int → gT → Prop} {l1 : Int} {T1 : gT} (hin : i < n) (hp : rPa T1 a c n nv nf) (hff : f15 T T1) (hs : s15 T1 (nmB c top i)) (hk : c i 0 = 2 ∨ c i 0 = 3 ∨ c i 0 = 5)
    (ih : ∀ (T2 : gT) (l4 : Int), rPa T2 a c n nv nf → f15 T T2 → s15 T2 (nmB c top (i + 1)) → gW (tP sa) lM b E (d + 3) mX7_freeOf 81 [some (.ref (b + 0)), some (.int (zI l1)), some (.int (zI (top : Int))), some (.int (zI ((i + 1 : Nat) : Int))), some (.int (zI l4))] [] T2 (fun r T' => pI r (fun v => φ v T'))) :
    gW (tP sa) lM b E (d + 3) mX7_freeOf 120 [some (.ref (b + 0)), some (.int (zI l1)), some (.int (zI (top : Int))), some (.int (zI (i : Int))), some (.int (zI (c i 0)))] [] T1 (fun r T' => pI r (fun v => φ v T')) := by
  obtain ⟨g1, g2, g3, g4⟩ := hw.flat
  have hn := hw.1
  have hnv := hw.2.1
  obtain ⟨_, hm, _⟩ := id hp
  obtain ⟨h1, h2, h3, h4, h5, h6, h7, h8, h9⟩ := hm
  obtain ⟨q, _⟩ := g4 i hin
  have ea : (vI T1 0 3).toNat = a := by omega
  have en1 : (i : Int) + 1 = ((i + 1 : Nat) : Int) := by omega
  refine w_X7_freeOf_120 (d := d + 1) ?_
  unfold f_X7_freeOf_120
  have q1 := q.2.1 (by omega)
  refine c_isIn (d := d) hp ht hin (fun hIn => ⟨by omega, fun z => by omega, fun _ => ?_⟩) (fun hIn => ⟨by omega, fun _ => ?_, fun z => absurd rfl z⟩)
  · rw [ea, Int.toNat_natCast, h4 i 1 hin (by omega), h4 i 2 hin (by omega), en1]
    obtain ⟨x, hx⟩ : ∃ x : Nat, c i 1 = (x : Int) := ⟨(c i 1).toNat, by omega⟩
    rw [hx, Int.toNat_natCast]
    have hs1 := hs.set (x := x) (y := 0) (Or.inl rfl)
    refine ⟨by omega, by omega, by omega, by omega, by omega, fun k3 => ?_, fun k3 => ?_⟩
    · refine ih _ _ (f15.p (T := T1) (fG.refl.gI rfl) hp) (hff.gI rfl) (hs1.eq (fun v hv => ?_))
      unfold nmB
      by_cases e : v = x
      · rw [if_pos e, e]
        exact ⟨fun z => by omega, fun z => absurd ⟨i, hIn.1, hIn.2, by omega, Or.inl ⟨hk, hx⟩⟩ z.2⟩
      · rw [if_neg e]
        refine and_congr_right fun _ => not_congr ⟨fun ⟨k, k1, k2, k3, k4⟩ => ⟨k, k1, k2, by omega, k4⟩, fun ⟨k, k1, k2, k3', k4⟩ => ⟨k, k1, k2, ?_, k4⟩⟩
        by_cases e2 : k = i
        · subst e2
          rcases k4 with ⟨_, z⟩ | ⟨z, _⟩ <;> omega
        · omega
    · have q2 := q.2.2.1 k3
      obtain ⟨y, hy⟩ : ∃ y : Nat, c i 2 = (y : Int) := ⟨(c i 2).toNat, by omega⟩
      rw [hy, Int.toNat_natCast]
      have hs2 := hs1.set (x := y) (y := 0) (Or.inl rfl)
      refine ⟨by omega, by omega, by omega, ih _ _ (f15.p (T := gI T1 15 x (zI 0)) (fG.refl.gI rfl) (f15.p (T := T1) (fG.refl.gI rfl) hp)) ((hff.gI rfl).gI rfl) (hs2.eq (fun v hv => ?_))⟩
      unfold nmB
      by_cases e : v = y
      · rw [if_pos e, e]
        exact ⟨fun z => by omega, fun z => absurd ⟨i, hIn.1, hIn.2, by omega, Or.inr ⟨k3, hy⟩⟩ z.2⟩
      rw [if_neg e]
      by_cases e : v = x
      · rw [if_pos e, e]
        exact ⟨fun z => by omega, fun z => absurd ⟨i, hIn.1, hIn.2, by omega, Or.inl ⟨hk, hx⟩⟩ z.2⟩
      · rw [if_neg e]
        refine and_congr_right fun _ => not_congr ⟨fun ⟨k, k1, k2, k3, k4⟩ => ⟨k, k1, k2, by omega, k4⟩, fun ⟨k, k1, k2, k3', k4⟩ => ⟨k, k1, k2, ?_, k4⟩⟩
        by_cases e2 : k = i
        · subst e2
          rcases k4 with ⟨_, z⟩ | ⟨z, z2⟩ <;> omega
        · omega
  · rw [en1]
    exact ih T1 _ hp hff (nmB_skip hs (fun z => hIn z.1))
theorem fr_81 (hw : wP c n nv nf) {top : Nat} (ht : top < n) (hf : isFn c top) {φ : Int → gT → Prop} {l1 : Int} (k : ∀ T', f15 T T' → φ (frc c top : Nat) T') :
    ∀ (j i : Nat) (T1 : gT) (l4 : Int), j + i = n → top ≤ i → rPa T1 a c n nv nf → f15 T T1 → s15 T1 (nmB c top i) → gW (tP sa) lM b E (d + 3) mX7_freeOf 81 [some (.ref (b + 0)), some (.int (zI l1)), some (.int (zI (top : Int))), some (.int (zI (i : Int))), some (.int (zI l4))] [] T1 (fun r T' => pI r (fun v => φ v T')) := by
  obtain ⟨g1, g2, g3, g4⟩ := hw.flat
  have hn := hw.1
  have hnv := hw.2.1
  intro j
  induction j with
  | zero =>
    intro i T1 l4 hj hi hp hff hs
    refine w_X7_freeOf_81b ?_
    unfold f_X7_freeOf_81b
    obtain ⟨_, hm, _⟩ := id hp
    obtain ⟨h1, h2, h3, h4, h5, h6, h7, h8, h9⟩ := hm
    obtain rfl : i = n := by omega
    rw [show (vI T1 0 3).toNat = a by omega, h3]
    refine ⟨by omega, by omega, by omega, fun _ => ?_, fun z => absurd z (by omega)⟩
    refine fr_170 (d := d + 1) (T := T1) ?_ 100 0 rfl
    have : sm (fun v => if vI T1 15 v = 0 then 0 else 1) 100 = frc c top := by
      unfold frc
      have hte : top < en c top ∧ en c top ≤ i := by obtain ⟨_, _, _, _, _, _, _, z, z2, _⟩ := hw.at ht; exact ⟨z, z2⟩
      have cg : ∀ (f g : Nat → Nat) k, (∀ v, v < k → f v = g v) → sm f k = sm g k := by
        intro f g k
        induction k with
        | zero => intro _; rfl
        | succ k ih => intro h; rw [sm, sm, ih (fun v hv => h v (by omega)), h k (by omega)]
      refine cg _ _ 100 (fun v hv => ?_)
      obtain ⟨s1, s2⟩ := hs v hv
      have key : vI T1 15 v = 1 ↔ (mcn c v (en c top) ≠ mcn c v top ∧ (v : Int) < v0c c top) := by
        rw [s2]
        unfold nmB
        rw [mcn_ne (en c top) (by omega)]
        constructor
        · rintro ⟨q1, q2⟩
          refine ⟨q1, (free_iff hw ht hf q1).mp ?_⟩
          rintro ⟨k, k1, k2, k3⟩
          exact q2 ⟨k, k1, k2, by omega, k3⟩
        · rintro ⟨q1, q2⟩
          refine ⟨q1, ?_⟩
          rintro ⟨k, k1, k2, k3, k4⟩
          exact (free_iff hw ht hf q1).mpr q2 ⟨k, k1, k2, k4⟩
      by_cases q : vI T1 15 v = 0
      · rw [if_pos q, if_neg (fun z => by have := key.mpr z; omega)]
      · rw [if_neg q, if_pos (key.mp (by omega))]
    rw [this]
    exact k T1 hff
  | succ j ih =>
    intro i T1 l4 hj hi hp hff hs
    obtain ⟨_, hm, _⟩ := id hp
    obtain ⟨h1, h2, h3, h4, h5, h6, h7, h8, h9⟩ := hm
    have hin : i < n := by omega
    obtain ⟨q, _⟩ := g4 i hin
    have ea : (vI T1 0 3).toNat = a := by omega
    have en1 : (i : Int) + 1 = ((i + 1 : Nat) : Int) := by omega
    have step : (c i 0 = 2 ∨ c i 0 = 3 ∨ c i 0 = 5) → _ := fun hk => fr_120 (sa := sa) (b := b) (E := E) (d := d) (l1 := l1) (φ := φ) hw ht hin hp hff hs hk (fun T2 l4 => ih (i + 1) T2 l4 (by omega) (by omega))
    refine w_X7_freeOf_81b (d := d + 1) ?_
    unfold f_X7_freeOf_81b
    rw [ea, h3, Int.toNat_natCast, h4 i 0 hin (by omega)]
    refine ⟨by omega, by omega, by omega, fun z => absurd z (by omega), fun _ => ⟨by omega, by omega, fun z => step (Or.inl z), fun z => ⟨fun z2 => step (Or.inr (Or.inl z2)), fun z2 => ⟨fun z3 => ?_, fun z3 => step (Or.inr (Or.inr z3))⟩⟩⟩⟩
    rw [en1]
    exact ih (i + 1) T1 _ (by omega) (by omega) hp hff (nmB_skip hs (fun y => by omega))
theorem fr_81a (hw : wP c n nv nf) {top : Nat} (ht : top < n) (hf : isFn c top) {φ : Int → gT → Prop} {l1 : Int} (k : ∀ T', f15 T T' → φ (frc c top : Nat) T') {T1 : gT} (hp : rPa T1 a c n nv nf) (hff : f15 T T1) (hs : s15 T1 (nmB c top top)) : gW (tP sa) lM b E (d + 3) mX7_freeOf 81 [some (.ref (b + 0)), some (.int (zI l1)), some (.int (zI (top : Int))), some (.int (zI (top : Int))), none] [] T1 (fun r T' => pI r (fun v => φ v T')) := by
  have hn := hw.1
  obtain ⟨_, hm, _⟩ := id hp
  obtain ⟨h1, h2, h3, h4, h5, h6, h7, h8, h9⟩ := hm
  have ea : (vI T1 0 3).toNat = a := by omega
  have step : (c top 0 = 2 ∨ c top 0 = 3 ∨ c top 0 = 5) → _ := fun hk => fr_120 (sa := sa) (b := b) (E := E) (d := d) (l1 := l1) (φ := φ) hw ht ht hp hff hs hk (fun T2 l4 => fr_81 (T := T) hw ht hf k (n - (top + 1)) (top + 1) T2 l4 (by omega) (by omega))
  refine w_X7_freeOf_81 (d := d + 1) ?_
  unfold f_X7_freeOf_81
  rw [ea, h3, Int.toNat_natCast, h4 top 0 ht (by omega)]
  refine ⟨by omega, by omega, by omega, fun z => absurd z (by omega), fun _ => ⟨by omega, by omega, fun z => step (Or.inl z), fun z => ⟨fun z2 => step (Or.inr (Or.inl z2)), fun z2 => ?_⟩⟩⟩
  rcases hf with z3 | z3
  · exact absurd z3 z
  · exact absurd z3 z2
theorem fr_30 (hw : wP c n nv nf) {top : Nat} (ht : top < n) (hf : isFn c top) {φ : Int → gT → Prop} {l1 : Int} (k : ∀ T', f15 T T' → φ (frc c top : Nat) T') :
    ∀ (j i : Nat) (T1 : gT), j + i = n → top ≤ i → rPa T1 a c n nv nf → f15 T T1 → s15 T1 (nmA c top i) → gW (tP sa) lM b E (d + 3) mX7_freeOf 30 [some (.ref (b + 0)), some (.int (zI l1)), some (.int (zI (top : Int))), some (.int (zI (i : Int))), none] [] T1 (fun r T' => pI r (fun v => φ v T')) := by
  obtain ⟨g1, g2, g3, g4⟩ := hw.flat
  have hn := hw.1
  have hnv := hw.2.1
  intro j
  induction j with
  | zero =>
    intro i T1 hj hi hp hff hs
    obtain ⟨_, hm, _⟩ := id hp
    obtain ⟨h1, h2, h3, h4, h5, h6, h7, h8, h9⟩ := hm
    obtain rfl : i = n := by omega
    refine w_X7_freeOf_30 (d := d + 1) ?_
    unfold f_X7_freeOf_30
    rw [show (vI T1 0 3).toNat = a by omega, h3]
    refine ⟨by omega, by omega, by omega, fun _ => ?_, fun z => absurd z (by omega)⟩
    have hte : en c top ≤ i := by obtain ⟨_, _, _, _, _, _, _, z, z2, _⟩ := hw.at ht; exact z2
    refine fr_81a (T := T) hw ht hf k hp hff (hs.eq (fun v _ => ?_))
    unfold nmA nmB
    constructor
    · rintro ⟨l, a1, a2, a3, a4⟩
      exact ⟨⟨l, a1, a2, a4⟩, fun ⟨k, k1, k2, k3, _⟩ => by omega⟩
    · rintro ⟨⟨l, a1, a2, a4⟩, _⟩
      exact ⟨l, a1, a2, by omega, a4⟩
  | succ j ih =>
    intro i T1 hj hi hp hff hs
    obtain ⟨_, hm, _⟩ := id hp
    obtain ⟨h1, h2, h3, h4, h5, h6, h7, h8, h9⟩ := hm
    have hin : i < n := by omega
    obtain ⟨q, _⟩ := g4 i hin
    have ea : (vI T1 0 3).toNat = a := by omega
    have en1 : (i : Int) + 1 = ((i + 1 : Nat) : Int) := by omega
    have skip : ¬ (inE c top i ∧ c i 0 = 0) → s15 T1 (nmA c top (i + 1)) := fun z => hs.eq (fun v _ => by
      unfold nmA
      constructor
      · rintro ⟨l, a1, a2, a3, a4⟩; exact ⟨l, a1, a2, by omega, a4⟩
      · rintro ⟨l, a1, a2, a3, a4, a5⟩
        refine ⟨l, a1, a2, ?_, a4, a5⟩
        by_cases e : l = i
        · subst e; exact absurd ⟨⟨a1, a2⟩, a4⟩ z
        · omega)
    refine w_X7_freeOf_30 (d := d + 1) ?_
    unfold f_X7_freeOf_30
    rw [ea, h3, Int.toNat_natCast, h4 i 0 hin (by omega), en1]
    refine ⟨by omega, by omega, by omega, fun z => absurd z (by omega), fun _ => ⟨by omega, by omega, fun z => ?_, fun z => ?_⟩⟩
    · exact ih (i + 1) T1 (by omega) (by omega) hp hff (skip (fun y => z y.2))
    · have q1 := q.2.1 (by omega)
      refine c_isIn (d := d) hp ht hin (fun hIn => ⟨by omega, fun z => by omega, fun _ => ?_⟩) (fun hIn => ⟨by omega, fun _ => ?_, fun z => absurd rfl z⟩)
      · rw [ea, h4 i 1 hin (by omega)]
        obtain ⟨x, hx⟩ : ∃ x : Nat, c i 1 = (x : Int) := ⟨(c i 1).toNat, by omega⟩
        rw [hx, Int.toNat_natCast]
        have hs1 := hs.set (x := x) (y := 1) (Or.inr rfl)
        refine ⟨by omega, by omega, by omega, by omega, ih (i + 1) _ (by omega) (by omega) (f15.p (T := T1) (fG.refl.gI rfl) hp) (hff.gI rfl) (hs1.eq (fun v hv => ?_))⟩
        unfold nmA
        by_cases e : v = x
        · rw [if_pos e, e]
          exact ⟨fun _ => ⟨i, hIn.1, hIn.2, by omega, z, hx⟩, fun _ => rfl⟩
        · rw [if_neg e]
          constructor
          · rintro ⟨l, a1, a2, a3, a4⟩; exact ⟨l, a1, a2, by omega, a4⟩
          · rintro ⟨l, a1, a2, a3, a4, a5⟩
            refine ⟨l, a1, a2, ?_, a4, a5⟩
            by_cases e2 : l = i
            · subst e2; omega
            · omega
      · exact ih (i + 1) T1 (by omega) (by omega) hp hff (skip (fun y => hIn y.1))
theorem c_freeOf (h : rPa T a c n nv nf) {t : Nat} (ht : t < nf) {φ : Int → gT → Prop} (k : ∀ T', f15 T T' → φ (frc c (lbN c n t) : Nat) T') : gC (tP sa) lM b E (d + 3) mX7_freeOf [.ref (b + 0), .int (zI (t : Int))] T (fun r T' => pI r (fun v => φ v T')) := by
  obtain ⟨hw, hm, _⟩ := id h
  obtain ⟨h1, h2, h3, h4, h5, h6, h7, h8, h9⟩ := hm
  obtain ⟨g1, g2, g3, g4⟩ := hw.flat
  have hnf := hw.2.2.1
  obtain ⟨a1, a2, a3⟩ := lbN_ok (c := c) (n := n) (t := t) (by omega)
  have el := h7 _ a1 a2
  rw [a3] at el
  refine w_X7_freeOf (d := d + 1) ?_
  unfold f_X7_freeOf
  rw [Int.toNat_natCast, el]
  generalize lbN c n t = top at *
  refine ⟨by omega, by omega, ?_⟩
  have lp : ∀ (j i : Nat) (T1 : gT), j + i = 100 → f15 T T1 → (∀ v, v < i → vI T1 15 v = 0) → gW (tP sa) lM b E (d + 1 + 1 + 1) mX7_freeOf 9 [some (.ref (b + 0)), some (.int (zI (t : Int))), some (.int (zI (top : Int))), some (.int (zI (i : Int))), none] [] T1 (fun r T' => pI r (fun v => φ v T')) := by
    intro j
    induction j with
    | zero =>
      intro i T1 hj hff hz
      refine w_X7_freeOf_9 (d := d + 1) ?_
      unfold f_X7_freeOf_9
      refine ⟨by omega, fun _ => ?_, fun z => absurd z (by omega)⟩
      refine fr_30 (d := d) (T := T) hw a1 a2 k (n - top) top T1 (by omega) (Nat.le_refl _) (f15.p hff h) hff (fun v hv => ⟨Or.inl (hz v (by omega)), ?_⟩)
      rw [hz v (by omega)]
      unfold nmA
      exact ⟨fun z => by omega, fun ⟨l, x1, x2, x3, _⟩ => by omega⟩
    | succ j ih =>
      intro i T1 hj hff hz
      refine w_X7_freeOf_9 (d := d + 1) ?_
      unfold f_X7_freeOf_9
      rw [Int.toNat_natCast, show (i : Int) + 1 = ((i + 1 : Nat) : Int) by omega]
      refine ⟨by omega, fun z => absurd z (by omega), fun _ => ⟨by omega, by omega, ih (i + 1) _ (by omega) (hff.gI rfl) (fun v hv => ?_)⟩⟩
      by_cases e : v = i
      · rw [e, v_s (by omega)]
      · rw [v_o (by omega)]; exact hz v (by omega)
  exact lp 100 0 T rfl fG.refl (fun v hv => by omega)
end ASK
