/-! THE REFERENCE WRITES -/
/-- what writing leaves, with up to n new strings -/
def fBa (n : Nat) (T T' : gT) : Prop := (∀ k i, ¬ Wb 0 51 28 k i → T'.1 k i = T.1 k i) ∧ (∀ k i, T'.2.1 k i = T.2.1 k i) ∧ (T.2.2.1 ≤ T'.2.2.1 ∧ T'.2.2.1 ≤ T.2.2.1 + 2 * n) ∧ (T.2.2.2 ≤ T'.2.2.2 ∧ T'.2.2.2 ≤ T.2.2.2 + 5 * n)
theorem fBa.refl {T : gT} : fBa 0 T T := ⟨fun _ _ _ => rfl, fun _ _ => rfl, by omega, by omega⟩
theorem fBa.trans {a b : Nat} {T T1 T2 : gT} (h : fBa a T T1) (h2 : fBa b T1 T2) : fBa (a + b) T T2 := ⟨fun k i z => (h2.1 k i z).trans (h.1 k i z), fun k i => (h2.2.1 k i).trans (h.2.1 k i), by have := h.2.2.1; have := h2.2.2.1; omega, by have := h.2.2.2; have := h2.2.2.2; omega⟩
theorem fBa.le {a b : Nat} {T T1 : gT} (h : fBa a T T1) (h2 : a ≤ b) : fBa b T T1 := ⟨h.1, h.2.1, by have := h.2.2.1; omega, by have := h.2.2.2; omega⟩
theorem fB.a {T T' : gT} (h : fB 0 51 28 T T') : fBa 0 T T' := ⟨h.1, fun k i => h.2.1 k i id, by rw [h.2.2]; omega, by rw [h.2.2]; omega⟩
theorem fBa.v {n : Nat} {T T' : gT} (h : fBa n T T') {k i : Nat} (hw : ¬ Wb 0 51 28 k i) : vI T' k i = vI T k i := by unfold vI; rw [h.1 k i hw]
section RW
variable {sa : Nat → Nat} {b : Nat} {E : Nat × mH} {d : Nat} {T : gT} {w : List Nat} {φ : gT → Prop}
theorem t_say {x : Nat} (h : mBf T 0 51 28 w) (hx : x < 128) (hl : w.length < 1000000) (k : ∀ T', mBf T' 0 51 28 (w ++ [x]) → fB 0 51 28 T T' → φ T') : gC (tP sa) lM b E d mX7_say [.ref (b + 0), .int (zI (x : Int))] T (fun r T' => pV r (φ T')) := by
  refine w_X7_say ?_
  unfold f_X7_say
  rw [h.1, Int.toNat_natCast, nar_sb hx]
  exact ⟨fun z => ⟨rfl, k _ (h.over (by decide) (by omega) hl) (fG.refl.gI (Or.inl ⟨rfl, rfl⟩))⟩, fun z => ⟨by omega, by omega, rfl, k _ (h.put (by decide) (by omega)) ((fG.refl.gI (Or.inr rfl)).gI (Or.inl ⟨rfl, rfl⟩))⟩⟩
theorem t_word {a : Nat} {s : List Nat} (hs : mStr E b a s) (h : mBf T 0 51 28 w) (hx : ∀ x, x ∈ s → x < 128) (hl : w.length + s.length < 1000000) (k : ∀ T', mBf T' 0 51 28 (w ++ s) → fB 0 51 28 T T' → φ T') : gC (tP sa) lM b E (d + 4) mX7_sayWord [.ref (b + 0), .ref a] T (fun r T' => pV r (φ T')) := by
  refine w_X7_sayWord hs ?_
  unfold f_X7_sayWord
  have lp : ∀ (j i : Nat) (T1 : gT), j + i = s.length → mBf T1 0 51 28 (w ++ s.take i) → fB 0 51 28 T T1 → gW (tP sa) lM b E (d + 3 + 1) mX7_sayWord 2 [some (.ref (b + 0)), some (.ref a), some (.int (zI (i : Int)))] [] T1 (fun r T' => pV r (φ T')) := by
    intro j
    induction j with
    | zero =>
      intro i T1 hj h1 f1
      refine w_X7_sayWord_2 hs ?_
      unfold f_X7_sayWord_2
      rw [List.take_of_length_le (by omega)] at h1
      exact ⟨by omega, by omega, fun _ => ⟨rfl, k T1 h1 f1⟩, fun z => by omega⟩
    | succ j ih =>
      intro i T1 hj h1 f1
      refine w_X7_sayWord_2 hs ?_
      unfold f_X7_sayWord_2
      rw [Int.toNat_natCast, show (i : Int) + 1 = ((i + 1 : Nat) : Int) by omega]
      have e : s.getD i 0 = s[i]'(by omega) := by rw [List.getD_eq_getElem?_getD, List.getElem?_eq_getElem (by omega)]; rfl
      refine ⟨by omega, by omega, fun z => by omega, fun _ => ⟨by omega, by omega, t_say h1 (by rw [e]; exact hx _ (List.getElem_mem _)) (by rw [List.length_append, List.length_take]; omega) (fun T2 h2 f2 => ih (i + 1) T2 (by omega) ?_ (f1.trans f2))⟩⟩
      rw [List.append_assoc, e, ← List.take_succ_eq_append_getElem (by omega)] at h2
      exact h2
  exact lp s.length 0 T (by omega) (by rw [List.take_zero, List.append_nil]; exact h) fG.refl
/-- the digits from unit 10 ^ j down -/
def dU (n : Int) : Nat → List Nat
  | 0 => [dgk n 1]
  | j + 1 => dgk n (10 ^ (j + 1)) :: dU n j
theorem dU_len (n : Int) : ∀ j, (dU n j).length = j + 1
  | 0 => rfl
  | j + 1 => by rw [dU, List.length_cons, dU_len n j]
theorem t_dig {v n : Int} (hn : 0 ≤ n ∧ n ≤ 999999) : ∀ (j : Nat) (u : Int) (w1 : List Nat) (T1 : gT), j ≤ 5 → u = 10 ^ j → w1.length + j < 950000 → mBf T1 0 51 28 w1 → (∀ T', mBf T' 0 51 28 (w1 ++ dU n j) → fB 0 51 28 T1 T' → φ T') → gW (tP sa) lM b E (d + 1) mX7_sayNumber 39 [some (.ref (b + 0)), some (.int (zI v)), some (.int (zI n)), some (.int (zI u))] [] T1 (fun r T' => pV r (φ T')) := by
  intro j
  induction j with
  | zero =>
    intro u w1 T1 hj hu hl h1 k
    obtain rfl : u = 1 := hu
    refine w_X7_sayNumber_39 ?_
    unfold f_X7_sayNumber_39
    have e : 48 + n / 1 % 10 = ((dgk n 1 : Nat) : Int) := by unfold dgk; omega
    rw [e]
    refine ⟨by decide, fun z => absurd z (by decide), fun _ => ⟨by omega, by decide, by rw [Int.ediv_one]; omega, t_say h1 dgk_lt (by omega) (fun T2 h2 f2 => ⟨by decide, ?_⟩)⟩⟩
    refine w_X7_sayNumber_39 ?_
    unfold f_X7_sayNumber_39
    exact ⟨by decide, fun _ => ⟨rfl, k T2 h2 f2⟩, fun z => absurd (by decide) z⟩
  | succ j ih =>
    intro u w1 T1 hj hu hl h1 k
    have hp : (10 : Int) ^ j ≤ 10000 ∧ 1 ≤ (10 : Int) ^ j := by
      rcases (show j = 0 ∨ j = 1 ∨ j = 2 ∨ j = 3 ∨ j = 4 by omega) with rfl | rfl | rfl | rfl | rfl <;> decide
    have hu2 : u = 10 * 10 ^ j := by rw [hu, Int.pow_succ, Int.mul_comm]
    have hu10 : u / 10 = 10 ^ j := by omega
    have hq : 0 ≤ n / u ∧ n / u ≤ n := ⟨Int.ediv_nonneg hn.1 (by omega), Int.ediv_le_self _ hn.1⟩
    refine w_X7_sayNumber_39 ?_
    unfold f_X7_sayNumber_39
    have e : 48 + n / u % 10 = ((dgk n u : Nat) : Int) := by unfold dgk; omega
    rw [e]
    refine ⟨by omega, fun z => by omega, fun _ => ⟨by omega, by omega, by omega, t_say h1 dgk_lt (by omega) (fun T2 h2 f2 => ⟨by omega, ih _ _ T2 (by omega) hu10 (by rw [List.length_append]; show w1.length + 1 + j < _; omega) h2 (fun T3 h3 f3 => k T3 ?_ (f2.trans f3))⟩)⟩⟩
    rw [dU, ← hu]
    rw [List.append_assoc] at h3
    exact h3
theorem t_num {v : Int} (h : mBf T 0 51 28 w) (hv : -999999 ≤ v ∧ v ≤ 999999) (hl : w.length < 900000) (k : ∀ T', mBf T' 0 51 28 (w ++ nmS v) → fB 0 51 28 T T' → φ T') : gC (tP sa) lM b E (d + 1) mX7_sayNumber [.ref (b + 0), .int (zI v)] T (fun r T' => pV r (φ T')) := by
  refine w_X7_sayNumber ?_
  unfold f_X7_sayNumber
  -- the unit is found
  have fnd : ∀ (n : Int) (w1 : List Nat) (T1 : gT), 0 ≤ n → n ≤ 999999 → w1.length < 900001 → mBf T1 0 51 28 w1 → (∀ T', mBf T' 0 51 28 (w1 ++ dg n) → fB 0 51 28 T1 T' → φ T') → gW (tP sa) lM b E (d + 1) mX7_sayNumber 23 [some (.ref (b + 0)), some (.int (zI v)), some (.int (zI n)), some (.int (zI 1))] [] T1 (fun r T' => pV r (φ T')) := by
    intro n w1 T1 n0 n1 hl1 h1 k1
    have up : ∀ u : Int, 0 < u → u ≤ 10000 → 10 * u ≤ n → gW (tP sa) lM b E (d + 1) mX7_sayNumber 23 [some (.ref (b + 0)), some (.int (zI v)), some (.int (zI n)), some (.int (zI (u * 10)))] [] T1 (fun r T' => pV r (φ T')) → gW (tP sa) lM b E (d + 1) mX7_sayNumber 23 [some (.ref (b + 0)), some (.int (zI v)), some (.int (zI n)), some (.int (zI u))] [] T1 (fun r T' => pV r (φ T')) := by
      intro u u0 u1 u2 k2
      have hq : 0 ≤ n / u ∧ n / u ≤ n := ⟨Int.ediv_nonneg n0 (by omega), Int.ediv_le_self _ n0⟩
      have h10 : 10 ≤ n / u := (Int.le_ediv_iff_mul_le u0).mpr (by omega)
      refine w_X7_sayNumber_23 ?_
      unfold f_X7_sayNumber_23
      exact ⟨by omega, by omega, by omega, fun z => by omega, fun _ => k2⟩
    have dn : ∀ (j : Nat) (u : Int), j ≤ 5 → u = 10 ^ j → 0 < u → u ≤ 100000 → n < 10 * u → dg n = dU n j → gW (tP sa) lM b E (d + 1) mX7_sayNumber 23 [some (.ref (b + 0)), some (.int (zI v)), some (.int (zI n)), some (.int (zI u))] [] T1 (fun r T' => pV r (φ T')) := by
      intro j u hj hu u0 u1 u2 hd
      have hq : 0 ≤ n / u ∧ n / u ≤ n := ⟨Int.ediv_nonneg n0 (by omega), Int.ediv_le_self _ n0⟩
      have h10 : n / u < 10 := Int.ediv_lt_of_lt_mul u0 (by omega)
      refine w_X7_sayNumber_23 ?_
      unfold f_X7_sayNumber_23
      refine ⟨by omega, by omega, by omega, fun _ => ?_, fun z => absurd h10 z⟩
      rw [hd] at k1
      exact t_dig ⟨n0, n1⟩ j u w1 T1 hj hu (by omega) h1 k1
    have e : dg n = (if 100000 ≤ n then [dgk n 100000] else []) ++ ((if 10000 ≤ n then [dgk n 10000] else []) ++ ((if 1000 ≤ n then [dgk n 1000] else []) ++ ((if 100 ≤ n then [dgk n 100] else []) ++ ((if 10 ≤ n then [dgk n 10] else []) ++ [dgk n 1])))) := rfl
    by_cases c1 : n < 10
    · exact dn 0 1 (by decide) rfl (by decide) (by decide) (by omega) (by rw [e, if_neg (by omega), if_neg (by omega), if_neg (by omega), if_neg (by omega), if_neg (by omega)]; rfl)
    refine up 1 (by decide) (by decide) (by omega) ?_
    by_cases c2 : n < 100
    · exact dn 1 10 (by decide) rfl (by decide) (by decide) (by omega) (by rw [e, if_neg (by omega), if_neg (by omega), if_neg (by omega), if_neg (by omega), if_pos (by omega)]; rfl)
    refine up 10 (by decide) (by decide) (by omega) ?_
    by_cases c3 : n < 1000
    · exact dn 2 100 (by decide) rfl (by decide) (by decide) (by omega) (by rw [e, if_neg (by omega), if_neg (by omega), if_neg (by omega), if_pos (by omega), if_pos (by omega)]; rfl)
    refine up 100 (by decide) (by decide) (by omega) ?_
    by_cases c4 : n < 10000
    · exact dn 3 1000 (by decide) rfl (by decide) (by decide) (by omega) (by rw [e, if_neg (by omega), if_neg (by omega), if_pos (by omega), if_pos (by omega), if_pos (by omega)]; rfl)
    refine up 1000 (by decide) (by decide) (by omega) ?_
    by_cases c5 : n < 100000
    · exact dn 4 10000 (by decide) rfl (by decide) (by decide) (by omega) (by rw [e, if_neg (by omega), if_pos (by omega), if_pos (by omega), if_pos (by omega), if_pos (by omega)]; rfl)
    refine up 10000 (by decide) (by decide) (by omega) ?_
    exact dn 5 100000 (by decide) rfl (by decide) (by decide) (by omega) (by rw [e, if_pos (by omega), if_pos (by omega), if_pos (by omega), if_pos (by omega), if_pos (by omega)]; rfl)
  unfold nmS at k
  refine ⟨by omega, fun z => ⟨fun _ => ?_, fun z2 => absurd z z2⟩, fun z => ⟨fun z2 => absurd z2 z, fun _ => ?_⟩⟩
  · rw [if_pos z] at k
    exact fnd v w T z hv.2 (by omega) h k
  · rw [if_neg z] at k
    refine t_say (x := 45) h (by decide) (by omega) (fun T1 h1 f1 => ?_)
    refine fnd (-v) _ T1 (by omega) (by omega) (by rw [List.length_append]; show w.length + 1 < _; omega) h1 (fun T2 h2 f2 => k T2 ?_ (f1.trans f2))
    rw [List.append_assoc] at h2
    exact h2
theorem t_var {v : Int} (h : mBf T 0 51 28 w) (hv : -999999 ≤ v ∧ v ≤ 999999) (hl : w.length < 800000) (k : ∀ T', mBf T' 0 51 28 (w ++ vrS v) → fB 0 51 28 T T' → φ T') : gC (tP sa) lM b E (d + 2) mX7_sayVariable [.ref (b + 0), .int (zI v)] T (fun r T' => pV r (φ T')) := by
  refine w_X7_sayVariable ?_
  unfold f_X7_sayVariable
  refine t_say (x := 118) h (by decide) (by omega) (fun T1 h1 f1 => ?_)
  refine t_num (d := d) h1 hv (by rw [List.length_append]; show w.length + 1 < _; omega) (fun T2 h2 f2 => ⟨rfl, k T2 ?_ (f1.trans f2)⟩)
  rw [List.append_assoc] at h2
  exact h2
end RW
