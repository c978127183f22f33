/-! THE REFERENCE ANSWERS: what is in what, free variables, what may be put in place or taken out -/
def inE (c : Nat → Nat → Int) (top l : Nat) : Prop := top ≤ l ∧ l < en c top
/-- the first variable of a function -/
def v0c (c : Nat → Nat → Int) (top : Nat) : Int := if c top 0 = 3 then c top 2 else c top 1
/-- how many variables from outside are named in it -/
def frc (c : Nat → Nat → Int) (top : Nat) : Nat := sm (fun v => if mcn c v (en c top) ≠ mcn c v top ∧ (v : Int) < v0c c top then 1 else 0) 100
theorem mcn_mono {c : Nat → Nat → Int} {v a b : Nat} (h : a ≤ b) : mcn c v a ≤ mcn c v b := by
  induction b with
  | zero => rw [show a = 0 by omega]; exact Nat.le_refl _
  | succ b ih =>
    by_cases e : a = b + 1
    · rw [e]; exact Nat.le_refl _
    · have := ih (by omega)
      rw [mcn]; split <;> omega
theorem mcn_ne {c : Nat → Nat → Int} {v a : Nat} : ∀ b, a ≤ b → (mcn c v b ≠ mcn c v a ↔ ∃ l, a ≤ l ∧ l < b ∧ c l 0 = 0 ∧ c l 1 = (v : Int)) := by
  intro b
  induction b with
  | zero => intro h; rw [show a = 0 by omega]; exact ⟨fun h => absurd rfl h, fun ⟨l, h1, h2, _⟩ => by omega⟩
  | succ b ih =>
    intro h
    by_cases e : a = b + 1
    · rw [e]; exact ⟨fun h => absurd rfl h, fun ⟨l, h1, h2, _⟩ => by omega⟩
    · have h1 := ih (by omega)
      have h2 := mcn_mono (c := c) (v := v) (a := a) (b := b) (by omega)
      rw [mcn]
      by_cases q : c b 0 = 0 ∧ c b 1 = (v : Int)
      · rw [if_pos q]
        exact ⟨fun _ => ⟨b, by omega, by omega, q.1, q.2⟩, fun _ => by omega⟩
      · rw [if_neg q, Nat.add_zero, h1]
        constructor
        · rintro ⟨l, a1, a2, a3⟩; exact ⟨l, a1, by omega, a3⟩
        · rintro ⟨l, a1, a2, a3, a4⟩
          by_cases z : l = b
          · rw [z] at a3 a4; exact absurd ⟨a3, a4⟩ q
          · exact ⟨l, a1, by omega, a3, a4⟩
section ASK
variable {sa : Nat → Nat} {b : Nat} {E : Nat × mH} {d : Nat} {T : gT} {a : Nat} {c : Nat → Nat → Int} {n nv nf : Nat}
theorem wf_hd {f k e : Nat} {up : Int} {vs : List Nat} {v0 v1 f0 f1 : Nat} (h : wf c f k e up vs v0 v1 f0 f1) : (c k 0 = 2 → c k 1 = (v0 : Int)) ∧ (c k 0 = 3 → c k 1 = (v0 : Int) + 1 ∧ c k 2 = (v0 : Int)) ∧ (c k 0 = 5 → c k 1 = (v0 : Int)) ∧ (c k 0 = 0 → ∃ x, x ∈ vs ∧ c k 1 = (x : Int)) := by
  cases f with
  | zero => exact h.elim
  | succ f =>
    obtain ⟨_, h⟩ := h
    rcases h with h | h | h | h | h | h | h
    · exact ⟨by omega, by omega, by omega, fun _ => h.2.1⟩
    · exact ⟨by omega, by omega, by omega, by omega⟩
    · exact ⟨fun _ => h.2.1, by omega, by omega, by omega⟩
    · exact ⟨by omega, fun _ => ⟨by omega, h.2.2.1⟩, by omega, by omega⟩
    · exact ⟨by omega, by omega, fun _ => h.2.1, by omega⟩
    · exact ⟨by omega, by omega, by omega, by omega⟩
    · exact ⟨by omega, by omega, by omega, by omega⟩
/-- inside a function a name's variable comes from outside just where its number is lower -/
theorem free_iff (hw : wP c n nv nf) {top v : Nat} (ht : top < n) (hf : isFn c top) (hN : ∃ l, top ≤ l ∧ l < en c top ∧ c l 0 = 0 ∧ c l 1 = (v : Int)) : (¬ ∃ k, top ≤ k ∧ k < en c top ∧ bdr c k v) ↔ (v : Int) < v0c c top := by
  obtain ⟨f, vs, v0, v1, f0, f1, h, h2, h3, h4, h5, h6, h7⟩ := hw.at ht
  have hn := hw.1
  have e0 : v0c c top = (v0 : Int) := by
    obtain ⟨q1, q2, q3, q4⟩ := wf_hd h
    unfold v0c
    rcases hf with z | z
    · rw [if_neg (by omega)]; exact q1 z
    · rw [if_pos z]; exact (q2 z).2
  rw [e0]
  constructor
  · intro hN2
    obtain ⟨l, l1, l2, l3, l4⟩ := hN
    obtain ⟨f', e', up', vs', v0', v1', f0', f1', a1, a2, a3, a4, a5, a6, a7, a8, a9, a10⟩ := wf_tr _ _ _ _ _ _ _ _ _ (by omega) h l l1 l2
    obtain ⟨x, x1, x2⟩ := (wf_hd a2).2.2.2 l3
    obtain rfl : v = x := by omega
    rcases a10 v x1 with q | ⟨q1, q2, q3, j, q4, q5, q6, q7⟩
    · have := (h6 v q).1; omega
    · exact absurd ⟨j, q4, by omega, q7⟩ hN2
  · rintro hv ⟨k, k1, k2, k3⟩
    obtain ⟨f', e', up', vs', v0', v1', f0', f1', a1, a2, a3, a4, a5, a6, a7, a8, a9, a10⟩ := wf_tr _ _ _ _ _ _ _ _ _ (by omega) h k k1 k2
    obtain ⟨q1, q2, q3, q4⟩ := wf_hd a2
    rcases k3 with ⟨z, z2⟩ | ⟨z, z2⟩
    · rcases z with z | z | z
      · have := q1 z; omega
      · have := q2 z; omega
      · have := q3 z; omega
    · have := q2 z; omega
theorem c_isIn (h : rPa T a c n nv nf) {top : Nat} (ht : top < n) {φ : Int → gT → Prop} {l : Nat} (hl : l < n) (k1 : inE c top l → φ 1 T) (k0 : ¬ inE c top l → φ 0 T) : gC (tP sa) lM b E (d + 2) mX7_isIn [.ref (b + 0), .int (zI (l : Int)), .int (zI (top : Int))] T (fun r T' => pI r (fun v => φ v T')) := by
  obtain ⟨hw, hm, _⟩ := h
  obtain ⟨h1, h2, h3, h4, h5, h6, h7, h8, h9⟩ := hm
  obtain ⟨g1, g2, g3, g4⟩ := hw.flat
  have hn := hw.1
  have hte : top < en c top := by obtain ⟨_, _, _, _, _, _, _, z, _⟩ := hw.at ht; exact z
  refine w_X7_isIn (d := d) ?_
  unfold f_X7_isIn
  have lp : ∀ (j : Nat) (k : Int), (k = -1 ∨ (0 ≤ k ∧ k < n ∧ k.toNat < j)) → ((0 ≤ k ∧ inE c top k.toNat) ↔ inE c top l) → gW (tP sa) lM b E (d + 1 + 1) mX7_isIn 2 [some (.ref (b + 0)), some (.int (zI (l : Int))), some (.int (zI (top : Int))), some (.int (zI k))] [] T (fun r T' => pI r (fun v => φ v T')) := by
    intro j
    induction j with
    | zero =>
      intro k hk hi
      refine w_X7_isIn_2 ?_
      unfold f_X7_isIn_2
      have : k = -1 := by omega
      refine ⟨by omega, fun _ => ⟨by omega, fun _ => ⟨_, rfl, k0 (fun q => ?_)⟩, fun z => by omega⟩, fun z => by omega⟩
      have := hi.mpr q; omega
    | succ j ih =>
      intro k hk hi
      refine w_X7_isIn_2 ?_
      unfold f_X7_isIn_2
      refine ⟨by omega, fun z => ⟨by omega, fun _ => ⟨_, rfl, k0 (fun q => ?_)⟩, fun z => by omega⟩, fun z => ⟨by omega, fun e => ⟨fun z => by omega, fun _ => ⟨_, rfl, k1 (hi.mp ⟨by omega, ?_⟩)⟩⟩, fun e => ⟨by omega, by omega, ?_⟩⟩⟩
      · have := hi.mpr q; omega
      · rw [e, Int.toNat_natCast]; exact ⟨Nat.le_refl _, hte⟩
      · obtain ⟨m, rfl⟩ : ∃ m : Nat, k = (m : Int) := ⟨k.toNat, by omega⟩
        rw [Int.toNat_natCast] at hk hi ⊢
        have hmn : m < n := by omega
        rw [show (vI T 0 3).toNat = a by omega, h4 m 6 hmn (by omega)]
        by_cases m0 : m = 0
        · subst m0
          rw [g3]
          refine ih (-1) (Or.inl rfl) ⟨fun z => by omega, fun z => ?_⟩
          have := (hi.mpr z).2.1
          omega
        · obtain ⟨_, _, _, _, _, _, _, b2, _, _, _, _, b7⟩ := hw.at hmn
          obtain ⟨p, p1, p2, p3⟩ := b7 m0
          clear b7
          rw [p1]
          refine ih (p : Int) (Or.inr ⟨by omega, by omega, by omega⟩) ?_
          rw [Int.toNat_natCast, ← hi]
          constructor
          · rintro ⟨_, z1, z2⟩
            have := (hw.nest ht z1 z2).1
            exact ⟨by omega, by omega, by omega⟩
          · rintro ⟨_, z1, z2⟩
            obtain ⟨p', q1, q2, q3⟩ := (hw.nest ht z1 z2).2 (by omega)
            exact ⟨by omega, by omega, by omega⟩
  exact lp n l (Or.inr ⟨by omega, by omega, by omega⟩) (by rw [Int.toNat_natCast]; exact ⟨fun z => z.2, fun z => ⟨by omega, z⟩⟩)
def f15 (T T' : gT) : Prop := fG (fun k _ => k = 15) (fun _ _ => False) T T'
theorem f15.p {T' : gT} (hf : f15 T T') (h : rPa T a c n nv nf) : rPa T' a c n nv nf := h.of (fun k j z => hf.v (by show ¬ k = 15; omega)) (fun k j _ _ => hf.2.1 k j id)
theorem fr_170 {φ : Int → gT → Prop} {l1 l2 : Int} (k : φ (sm (fun v => if vI T 15 v = 0 then 0 else 1) 100 : Nat) T) : ∀ (j i : Nat), j + i = 100 → gW (tP sa) lM b E (d + 1 + 1) mX7_freeOf 170 [some (.ref (b + 0)), some (.int (zI l1)), some (.int (zI l2)), some (.int (zI (sm (fun v => if vI T 15 v = 0 then 0 else 1) i : Nat))), some (.int (zI (i : Int)))] [] T (fun r T' => pI r (fun v => φ v T')) := by
  intro j
  induction j with
  | zero =>
    intro i hj
    obtain rfl : i = 100 := by omega
    refine w_X7_freeOf_170 ?_
    unfold f_X7_freeOf_170
    exact ⟨by omega, fun _ => ⟨_, rfl, k⟩, fun z => absurd z (by omega)⟩
  | succ j ih =>
    intro i hj
    refine w_X7_freeOf_170 ?_
    unfold f_X7_freeOf_170
    have := ih (i + 1) (by omega)
    rw [sm] at this
    rw [show (i : Int) + 1 = ((i + 1 : Nat) : Int) by omega, Int.toNat_natCast]
    refine ⟨by omega, fun z => absurd z (by omega), fun _ => ⟨by omega, by omega, fun z => ?_, fun z => ?_⟩⟩
    · rw [if_pos z] at this; exact this
    · rw [if_neg z] at this
      rw [show ∀ x : Nat, ((x + 1 : Nat) : Int) = (x : Int) + 1 from fun x => by omega] at this
      exact this
/-- a set of variables in row 15 -/
def s15 (T : gT) (P : Nat → Prop) : Prop := ∀ v, v < 100 → (vI T 15 v = 0 ∨ vI T 15 v = 1) ∧ (vI T 15 v = 1 ↔ P v)
theorem s15.eq {P P' : Nat → Prop} (h : s15 T P) (he : ∀ v, v < 100 → (P v ↔ P' v)) : s15 T P' := fun v hv => ⟨(h v hv).1, (h v hv).2.trans (he v hv)⟩
theorem s15.set {P : Nat → Prop} {x : Nat} {y : Int} (h : s15 T P) (hy : y = 0 ∨ y = 1) : s15 (gI T 15 x (zI y)) (fun v => if v = x then y = 1 else P v) := by
  intro v hv
  by_cases e : v = x
  · subst e
    rw [v_s (by omega)]
    exact ⟨hy, by dsimp only; rw [if_pos rfl]⟩
  · rw [v_o (by omega)]
    exact ⟨(h v hv).1, by dsimp only; rw [if_neg e]; exact (h v hv).2⟩
end ASK
