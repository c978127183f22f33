section CQ
variable {sa : Nat → Nat} {b : Nat} {E : Nat × mH} {d : Nat} {T0 T T' : gT} {a p : Nat} {c : Nat → Nat → Int} {n nv nf n1 m1 q1 : Nat}
def fn1 (c : Nat → Nat → Int) (l : Nat) : Nat := if c l 0 = 2 ∨ c l 0 = 3 then 1 else 0
/-- the value that a copy begins with -/
def vl1 (T : gT) (c : Nat → Nat → Int) (l : Nat) : Int := if c l 0 = 0 then vI T 27 (c l 1).toNat else if c l 0 = 1 then c l 1 else -1
theorem cp_head (hp : rPa T0 a c n nv nf) (hpa : p + a = 1) (h : cpS T0 T p n1 m1 q1) {l : Nat} (hl : l < n) {part l3 : Int} (h3 : okI l3) (hne : (l : Int) ≠ l3) {φ : Int → gT → Prop}
    (kY : n1 < 200 → q1 + fn1 c l ≤ 50 → ∀ T1, cpS T0 T1 p n1 m1 (q1 + fn1 c l) → (∀ k i, k ≠ 0 → T1.1 k i = T.1 k i) → gC (tP sa) lM b E (d + 1) mX7_begin [.ref (b + 0), .int (zI (p : Int)), .int (zI (c l 0)), .int (zI (vl1 T c l)), .int (zI part)] T1 (fun r T188 => pI r (fun v188 => ((¬ c l 0 = 3 → ((c l 0 = 2 → gC (tP sa) lM b E (d + 1) mX7_binder [.ref (b + 0), .int (zI (l : Int)), .int (zI v188), .int (zI l3)] T188 (fun r T279 => pV r (φ v188 T279))) ∧ (¬ c l 0 = 2 → ((¬ c l 0 = 5 → gW (tP sa) lM b E (d + 1 + 1) mX7_copy 288 [some (.ref (b + 0)), some (.int (zI (l : Int))), some (.int (zI part)), some (.int (zI l3)), some (.int (zI (p : Int))), some (.int (zI (c l 0))), some (.int (zI (fn1 c l : Int))), some (.int (zI v188)), some (.int (zI 3)), none, none] [] T188 (fun r T' => pI r (fun v => φ v T'))) ∧ (c l 0 = 5 → gC (tP sa) lM b E (d + 1) mX7_binder [.ref (b + 0), .int (zI (l : Int)), .int (zI v188), .int (zI l3)] T188 (fun r T279 => pV r (φ v188 T279))))))) ∧ (c l 0 = 3 → (vI T188 0 3 = 0 ∨ vI T188 0 3 = 1) ∧ (0 ≤ (l : Int) ∧ (l : Int) < 200) ∧ 0 ≤ cV T188 (vI T188 0 3).toNat l 2 ∧ cV T188 (vI T188 0 3).toNat l 2 < 100 ∧ gC (tP sa) lM b E (d + 1) mX7_fresh [.ref (b + 0)] T188 (fun r T217 => pI r (fun v217 => (0 ≤ (p : Int) ∧ (p : Int) < 2) ∧ (0 ≤ v188 ∧ v188 < 200) ∧ gC (tP sa) lM b E (d + 1) mX7_binder [.ref (b + 0), .int (zI (l : Int)), .int (zI v188), .int (zI l3)] (gI (cS T217 p v188.toNat 2 v217) 27 (cV T188 (vI T188 0 3).toNat l 2).toNat (zI v217)) (fun r T247 => pV r (φ v188 (gI T247 27 (cV T188 (vI T188 0 3).toNat l 2).toNat (zI (vI T188 27 (cV T188 (vI T188 0 3).toNat l 2).toNat))))))))))))
    (kN : ¬ (n1 < 200 ∧ q1 + fn1 c l ≤ 50) → ∀ T', cpF T0 T' p → φ (-1) T') : gC (tP sa) lM b E (d + 2) mX7_copy [.ref (b + 0), .int (zI (l : Int)), .int (zI part), .int (zI l3)] T (fun r T' => pI r (fun v => φ v T')) := by
  obtain ⟨g1, g2, g3, g4, g5, g6, g7, g8⟩ := id h
  obtain ⟨i1, i2, i3, i4, i5, _⟩ := (cp_P hp hpa g1).2.1
  have hn := hp.1.1
  have hnv := hp.1.2.1
  have w := (hp.1.flat.2.2.2 l hl).1
  have e1p : 1 - vI T 0 3 = (p : Int) := by omega
  have ea : (vI T 0 3).toNat = a := by omega
  have hfn : fn1 c l ≤ 1 := by unfold fn1; split <;> omega
  have w0 := w.1
  refine w_X7_copy (d := d) ?_
  unfold f_X7_copy
  rw [ea, e1p, Int.toNat_natCast, i4 l 0 hl (by omega)]
  -- 79 and on
  have s79 : gW (tP sa) lM b E (d + 1 + 1) mX7_copy 79 [some (.ref (b + 0)), some (.int (zI (l : Int))), some (.int (zI part)), some (.int (zI l3)), some (.int (zI (p : Int))), some (.int (zI (c l 0))), none, none, none, none, none] [.int (zI (fn1 c l : Int))] T (fun r T' => pI r (fun v => φ v T')) := by
    have s96 : gW (tP sa) lM b E (d + 1 + 1) mX7_copy 96 [some (.ref (b + 0)), some (.int (zI (l : Int))), some (.int (zI part)), some (.int (zI l3)), some (.int (zI (p : Int))), some (.int (zI (c l 0))), some (.int (zI (fn1 c l : Int))), none, none, none, none] [.int (zI (fn1 c l : Int)), .int (zI (vI T 0 48)), .ref (b + 0)] T (fun r T' => pI r (fun v => φ v T')) := by
      refine w_X7_copy_96 (d := d) ?_
      unfold f_X7_copy_96
      rw [Int.toNat_natCast, g2, g6]
      -- no room
      have s130 : ¬ (n1 < 200 ∧ q1 + fn1 c l ≤ 50) → gW (tP sa) lM b E (d + 1 + 1) mX7_copy 130 [some (.ref (b + 0)), some (.int (zI (l : Int))), some (.int (zI part)), some (.int (zI l3)), some (.int (zI (p : Int))), some (.int (zI (c l 0))), some (.int (zI (fn1 c l : Int))), none, none, none, none] [.ref (b + 0)] (gI T 0 48 (zI ((q1 : Int) + (fn1 c l : Int)))) (fun r T' => pI r (fun v => φ v T')) := by
        intro hno
        refine w_X7_copy_130 (d := d) ?_
        unfold f_X7_copy_130
        refine w_X7_copy_135 (d := d) ?_
        unfold f_X7_copy_135
        refine ⟨Or.inr rfl, by omega, fun z => by omega, fun _ => ⟨_, rfl, kN hno _ ⟨(g1.gI (Or.inl ⟨rfl, by omega⟩)).gI (Or.inl ⟨rfl, by omega⟩), ?_, ?_⟩⟩⟩
        · rw [v_s (by omega)]
        · rw [v_o (by omega), v_o (by omega), g4]; omega
      refine ⟨fun z => absurd g8 z, fun _ => ⟨by omega, by omega, fun z => s130 (by omega), fun z => ⟨by omega, fun z2 => ?_, fun z2 => s130 (by omega)⟩⟩⟩
      have hn1 : n1 < 200 := by omega
      have hq : q1 + fn1 c l ≤ 50 := by omega
      refine w_X7_copy_135 (d := d) ?_
      unfold f_X7_copy_135
      have q3 : vI (gI T 0 48 (zI ((q1 : Int) + (fn1 c l : Int)))) 0 3 = vI T 0 3 := v_o (by omega)
      have cv : ∀ w, cV (gI T 0 48 (zI ((q1 : Int) + (fn1 c l : Int)))) a l w = cV T a l w := fun w => by unfold cV; rw [v_o (by omega)]
      rw [q3, ea, Int.toNat_natCast, cv 1, i4 l 1 hl (by omega)]
      have hS : cpS T0 (gI (gI T 0 48 (zI ((q1 : Int) + (fn1 c l : Int)))) 0 49 (zI 0)) p n1 m1 (q1 + fn1 c l) := by
        refine ⟨(g1.gI (Or.inl ⟨rfl, by omega⟩)).gI (Or.inl ⟨rfl, by omega⟩), ?_, g3, ?_, g5, ?_, hq, ?_⟩
        · rw [v_o (by omega), v_o (by omega)]; exact g2
        · rw [v_o (by omega), v_o (by omega)]; exact g4
        · rw [v_o (by omega), v_s (by omega)]; omega
        · rw [v_s (by omega)]
      have hI : ∀ k i, k ≠ 0 → (gI (gI T 0 48 (zI ((q1 : Int) + (fn1 c l : Int)))) 0 49 (zI 0)).1 k i = T.1 k i := fun k i z => by rw [gI_I, if_neg (by omega), gI_I, if_neg (by omega)]
      have fin : gW (tP sa) lM b E (d + 1 + 1) mX7_copy 187 [some (.ref (b + 0)), some (.int (zI (l : Int))), some (.int (zI part)), some (.int (zI l3)), some (.int (zI (p : Int))), some (.int (zI (c l 0))), some (.int (zI (fn1 c l : Int))), none, none, none, none] [.int (zI (vl1 T c l)), .int (zI (c l 0)), .int (zI (p : Int)), .ref (b + 0)] (gI (gI T 0 48 (zI ((q1 : Int) + (fn1 c l : Int)))) 0 49 (zI 0)) (fun r T' => pI r (fun v => φ v T')) := by
        refine w_X7_copy_187 (d := d) ?_
        unfold f_X7_copy_187
        refine (kY hn1 hq _ hS hI).goI (fun v T2 hh => ?_)
        rw [Int.toNat_natCast, Int.toNat_natCast]
        exact ⟨by omega, fun z => ⟨fun z2 => (hh.1 z).1 z2 |>.goV (fun _ y => ⟨_, rfl, y⟩), fun z2 => ⟨((hh.1 z).2 z2).1, fun z3 => (((hh.1 z).2 z2).2 z3).goV (fun _ y => ⟨_, rfl, y⟩)⟩⟩, fun z => by
          obtain ⟨x1, x2, x3, x4, x5⟩ := hh.2 z
          exact ⟨x1, x2, x3, x4, x5.goI (fun v9 T9 y => ⟨y.1, y.2.1, y.2.2.goV (fun _ y => ⟨_, rfl, y⟩)⟩)⟩⟩
      unfold vl1 at fin
      refine ⟨Or.inl rfl, by omega, fun _ => ⟨by omega, fun k0 => ⟨fun k1 => ?_, fun k1 => ⟨by omega, by omega, ?_⟩⟩, fun k0 => ?_⟩, fun z => absurd rfl z⟩
      · rw [if_neg k0, if_neg k1] at fin; exact fin
      · rw [if_neg k0, if_pos k1] at fin; exact fin
      · have u1 := w.2.1 (Or.inl k0)
        rw [if_pos k0] at fin
        rw [v_o (by omega)]
        exact ⟨by omega, by omega, by omega, by omega, fin⟩
    refine w_X7_copy_79 (d := d) ?_
    unfold f_X7_copy_79
    refine ⟨by omega, fun z => ?_, fun z => ?_⟩
    · have : fn1 c l = 0 := by omega
      rw [this] at s96 ⊢; exact s96
    · have : fn1 c l = 1 := by omega
      rw [this] at s96 ⊢; exact s96
  refine ⟨fun _ => ⟨by omega, h3, fun _ => ⟨by omega, by omega, fun z => ?_, fun z => ⟨fun z2 => ?_, fun z2 => ?_⟩⟩, fun z => absurd z hne⟩, fun z => absurd g8 z⟩
  · refine w_X7_copy_74 (d := d) ?_
    unfold f_X7_copy_74
    have : fn1 c l = 1 := by unfold fn1; rw [if_pos (Or.inl z)]
    rw [this] at s79; exact s79
  · have : fn1 c l = 0 := by unfold fn1; rw [if_neg (by omega)]
    rw [this] at s79; exact s79
  · refine w_X7_copy_74 (d := d) ?_
    unfold f_X7_copy_74
    have : fn1 c l = 1 := by unfold fn1; rw [if_pos (Or.inr z2)]
    rw [this] at s79; exact s79
end CQ
