/-! THE CLASS WRITES -/
/-- a buffer: its length, its first 400 bytes -/
def mBf (T : gT) (ka ki kb : Nat) (w : List Nat) : Prop := vI T ka ki = (w.length : Int) ∧ ∀ i, i < 400 → i < w.length → T.1 kb i = sb_b (w.getD i 0)
def Wb (ka ki kb k i : Nat) : Prop := (k = ka ∧ i = ki) ∨ k = kb
abbrev fB (ka ki kb : Nat) (T T' : gT) : Prop := fG (Wb ka ki kb) V0 T T'
theorem mBf.put {T : gT} {ka ki kb : Nat} {w : List Nat} {x : Nat} (h : mBf T ka ki kb w) (hk : ka ≠ kb) (hl : w.length < 400) : mBf (gI (gI T kb w.length (sb_b x)) ka ki (zI ((w.length : Int) + 1))) ka ki kb (w ++ [x]) := by
  refine ⟨by rw [v_s (by omega), List.length_append]; rfl, fun i h1 h2 => ?_⟩
  rw [List.length_append] at h2
  rw [gI_I, if_neg (fun z => hk z.1.symm), gI_I]
  by_cases y : i = w.length
  · rw [if_pos ⟨rfl, y⟩, y, List.getD_eq_getElem?_getD, List.getElem?_append_right (Nat.le_refl _), Nat.sub_self]; rfl
  · have : i < w.length := by simp at h2; omega
    rw [if_neg (fun z => y z.2), h.2 i h1 this, List.getD_eq_getElem?_getD, List.getD_eq_getElem?_getD, List.getElem?_append_left this]
theorem mBf.over {T : gT} {ka ki kb : Nat} {w : List Nat} {x : Nat} (h : mBf T ka ki kb w) (hk : ka ≠ kb) (hl : 400 ≤ w.length) (hl2 : w.length < 1000000) : mBf (gI T ka ki (zI ((w.length : Int) + 1))) ka ki kb (w ++ [x]) := by
  refine ⟨by rw [v_s (by omega), List.length_append]; rfl, fun i h1 h2 => ?_⟩
  rw [gI_I, if_neg (fun z => hk z.1.symm), h.2 i h1 (by omega), List.getD_eq_getElem?_getD, List.getD_eq_getElem?_getD, List.getElem?_append_left (by omega)]
theorem mBf.of {T T' : gT} {ka ki kb : Nat} {w : List Nat} (h : mBf T ka ki kb w) (h1 : vI T' ka ki = vI T ka ki) (h2 : ∀ i, T'.1 kb i = T.1 kb i) : mBf T' ka ki kb w := ⟨h1.trans h.1, fun i a b => (h2 i).trans (h.2 i a b)⟩
section CW
variable {sa : Nat → Nat} {b : Nat} {E : Nat × mH} {d : Nat} {T : gT} {w : List Nat} {φ : gT → Prop}
theorem p_byte {x : Nat} (h : mBf T 63 1 64 w) (hx : x < 128) (hl : w.length < 1000000) (k : ∀ T', mBf T' 63 1 64 (w ++ [x]) → fB 63 1 64 T T' → φ T') : gC (tP sa) lD b E d mX5_putByte [.ref (b + 63), .int (zI (x : Int))] T (fun r T' => pV r (φ T')) := by
  refine w_X5_putByte ?_
  unfold f_X5_putByte
  rw [h.1, Int.toNat_natCast, nar_sb hx]
  exact ⟨fun z => ⟨rfl, k _ (h.over (by decide) (by omega) hl) (fG.refl.gI (Or.inl ⟨rfl, rfl⟩))⟩, fun z => ⟨by omega, by omega, rfl, k _ (h.put (by decide) (by omega)) ((fG.refl.gI (Or.inr rfl)).gI (Or.inl ⟨rfl, rfl⟩))⟩⟩
theorem p_text {a : Nat} {s : List Nat} (hs : mStr E b a s) (h : mBf T 63 1 64 w) (hx : ∀ x, x ∈ s → x < 128) (hl : w.length + s.length < 1000000) (k : ∀ T', mBf T' 63 1 64 (w ++ s) → fB 63 1 64 T T' → φ T') : gC (tP sa) lD b E (d + 4) mX5_putText [.ref (b + 63), .ref a] T (fun r T' => pV r (φ T')) := by
  refine w_X5_putText hs ?_
  unfold f_X5_putText
  have lp : ∀ (j i : Nat) (T1 : gT), j + i = s.length → mBf T1 63 1 64 (w ++ s.take i) → fB 63 1 64 T T1 → gW (tP sa) lD b E (d + 3 + 1) mX5_putText 2 [some (.ref (b + 63)), some (.ref a), some (.int (zI (i : Int)))] [] T1 (fun r T' => pV r (φ T')) := by
    intro j
    induction j with
    | zero =>
      intro i T1 hj h1 f1
      refine w_X5_putText_2 hs ?_
      unfold f_X5_putText_2
      rw [List.take_of_length_le (by omega)] at h1
      exact ⟨by omega, by omega, fun _ => ⟨rfl, k T1 h1 f1⟩, fun z => by omega⟩
    | succ j ih =>
      intro i T1 hj h1 f1
      refine w_X5_putText_2 hs ?_
      unfold f_X5_putText_2
      rw [Int.toNat_natCast, show (i : Int) + 1 = ((i + 1 : Nat) : Int) by omega]
      have e : s.getD i 0 = s[i]'(by omega) := by rw [List.getD_eq_getElem?_getD, List.getElem?_eq_getElem (by omega)]; rfl
      refine ⟨by omega, by omega, fun z => by omega, fun _ => ⟨by omega, by omega, p_byte h1 (by rw [e]; exact hx _ (List.getElem_mem _)) (by rw [List.length_append, List.length_take]; omega) (fun T2 h2 f2 => ih (i + 1) T2 (by omega) ?_ (f1.trans f2))⟩⟩
      rw [List.append_assoc, e, ← List.take_succ_eq_append_getElem (by omega)] at h2
      exact h2
  exact lp s.length 0 T (by omega) (by rw [List.take_zero, List.append_nil]; exact h) fG.refl
theorem p_num {v : Int} (h : mBf T 63 1 64 w) (hv : -999999 ≤ v ∧ v ≤ 999999) (hl : w.length < 900000) (k : ∀ T', mBf T' 63 1 64 (w ++ nmS v) → fB 63 1 64 T T' → φ T') : gC (tP sa) lD b E (d + 1) mX5_putNumber [.ref (b + 63), .int (zI v)] T (fun r T' => pV r (φ T')) := by
  refine w_X5_putNumber ?_
  unfold f_X5_putNumber
  -- the digits of n
  have dig : ∀ (n : Int) (w1 : List Nat) (T1 : gT), 0 ≤ n → n ≤ 999999 → w1.length < 900001 → mBf T1 63 1 64 w1 → fB 63 1 64 T T1 → (∀ T', mBf T' 63 1 64 (w1 ++ dg n) → fB 63 1 64 T T' → φ T') → gW (tP sa) lD b E (d + 1) mX5_putNumber 18 [some (.ref (b + 63)), some (.int (zI v)), some (.int (zI n)), some (.int (zI 100000))] [] T1 (fun r T' => pV r (φ T')) := by
    intro n w1 T1 n0 n1 hl1 h1 f1 k1
    -- one digit
    have one : ∀ (u : Int) (w2 : List Nat) (T2 : gT), 1 < u → u ≤ 100000 → w2.length < 990000 → mBf T2 63 1 64 w2 → fB 63 1 64 T T2 → (∀ T3, mBf T3 63 1 64 (w2 ++ if u ≤ n then [dgk n u] else []) → fB 63 1 64 T T3 → gW (tP sa) lD b E (d + 1) mX5_putNumber 18 [some (.ref (b + 63)), some (.int (zI v)), some (.int (zI n)), some (.int (zI (u / 10)))] [] T3 (fun r T' => pV r (φ T'))) → gW (tP sa) lD b E (d + 1) mX5_putNumber 18 [some (.ref (b + 63)), some (.int (zI v)), some (.int (zI n)), some (.int (zI u))] [] T2 (fun r T' => pV r (φ T')) := by
      intro u w2 T2 u0 u1 hl2 h2 f2 k2
      refine w_X5_putNumber_18 ?_
      unfold f_X5_putNumber_18
      have hq : 0 ≤ n / u ∧ n / u ≤ n := ⟨Int.ediv_nonneg n0 (by omega), Int.ediv_le_self _ n0⟩
      refine ⟨by omega, fun z => by omega, fun _ => ⟨fun z => by omega, fun _ => ⟨by omega, fun z => ?_, fun z => ?_⟩⟩⟩
      · rw [if_neg (by omega), List.append_nil] at k2
        exact ⟨by omega, k2 T2 h2 f2⟩
      · refine w_X5_putNumber_32 ?_
        unfold f_X5_putNumber_32
        rw [if_pos (by omega)] at k2
        have e : 48 + n / u % 10 = ((dgk n u : Nat) : Int) := by unfold dgk; omega
        rw [e]
        exact ⟨by omega, by omega, by omega, p_byte h2 dgk_lt (by omega) (fun T3 h3 f3 => ⟨by omega, k2 T3 h3 (f2.trans f3)⟩)⟩
    have last : ∀ (w2 : List Nat) (T2 : gT), w2.length < 990000 → mBf T2 63 1 64 w2 → fB 63 1 64 T T2 → (∀ T3, mBf T3 63 1 64 (w2 ++ [dgk n 1]) → fB 63 1 64 T T3 → φ T3) → gW (tP sa) lD b E (d + 1) mX5_putNumber 18 [some (.ref (b + 63)), some (.int (zI v)), some (.int (zI n)), some (.int (zI 1))] [] T2 (fun r T' => pV r (φ T')) := by
      intro w2 T2 hl2 h2 f2 k2
      refine w_X5_putNumber_18 ?_
      unfold f_X5_putNumber_18
      refine ⟨by decide, fun z => absurd z (by decide), fun _ => ⟨fun _ => ?_, fun z => absurd rfl z⟩⟩
      refine w_X5_putNumber_32 ?_
      unfold f_X5_putNumber_32
      have e : 48 + n / 1 % 10 = ((dgk n 1 : Nat) : Int) := by unfold dgk; omega
      rw [e]
      refine ⟨by omega, by decide, by rw [Int.ediv_one]; omega, p_byte h2 dgk_lt (by omega) (fun T3 h3 f3 => ⟨by decide, ?_⟩)⟩
      refine w_X5_putNumber_18 ?_
      unfold f_X5_putNumber_18
      exact ⟨by decide, fun _ => ⟨rfl, k2 T3 h3 (f2.trans f3)⟩, fun z => absurd (by decide) z⟩
    have lo : ∀ {p : Prop} [Decidable p] {x : Nat}, (if p then [x] else []).length ≤ 1 := fun {p} _ {x} => by split <;> simp
    have l5 := lo (p := 100000 ≤ n) (x := dgk n 100000)
    have l4 := lo (p := 10000 ≤ n) (x := dgk n 10000)
    have l3 := lo (p := 1000 ≤ n) (x := dgk n 1000)
    have l2 := lo (p := 100 ≤ n) (x := dgk n 100)
    have l1 := lo (p := 10 ≤ n) (x := dgk n 10)
    refine one 100000 w1 T1 (by decide) (by decide) (by omega) h1 f1 (fun T2 h2 f2 => ?_)
    refine one 10000 _ T2 (by decide) (by decide) (by rw [List.length_append]; omega) h2 f2 (fun T3 h3 f3 => ?_)
    refine one 1000 _ T3 (by decide) (by decide) (by rw [List.length_append, List.length_append]; omega) h3 f3 (fun T4 h4 f4 => ?_)
    refine one 100 _ T4 (by decide) (by decide) (by rw [List.length_append, List.length_append, List.length_append]; omega) h4 f4 (fun T5 h5 f5 => ?_)
    refine one 10 _ T5 (by decide) (by decide) (by rw [List.length_append, List.length_append, List.length_append, List.length_append]; omega) h5 f5 (fun T6 h6 f6 => ?_)
    refine last _ T6 (by rw [List.length_append, List.length_append, List.length_append, List.length_append, List.length_append]; omega) h6 f6 (fun T7 h7 f7 => k1 T7 ?_ f7)
    unfold dg
    simp only [List.append_assoc] at h7
    exact h7
  unfold nmS at k
  refine ⟨by omega, fun z => ?_, fun z => ?_⟩
  · rw [if_pos z] at k ⊢
    exact dig v w T z hv.2 (by omega) h fG.refl k
  · rw [if_neg z] at k ⊢
    refine p_byte (x := 45) h (by decide) (by omega) (fun T1 h1 f1 => ?_)
    refine dig (-v) _ T1 (by omega) (by omega) (by rw [List.length_append]; show w.length + 1 < _; omega) h1 f1 (fun T2 h2 f2 => k T2 ?_ f2)
    rw [List.append_assoc] at h2
    exact h2
theorem p_var {v : Int} (h : mBf T 63 1 64 w) (hv : -999999 ≤ v ∧ v ≤ 999999) (hl : w.length < 800000) (k : ∀ T', mBf T' 63 1 64 (w ++ vrS v) → fB 63 1 64 T T' → φ T') : gC (tP sa) lD b E (d + 2) mX5_putVariable [.ref (b + 63), .int (zI v)] T (fun r T' => pV r (φ T')) := by
  refine w_X5_putVariable ?_
  unfold f_X5_putVariable
  refine p_byte (x := 118) h (by decide) (by omega) (fun T1 h1 f1 => ?_)
  refine p_num (d := d) h1 hv (by rw [List.length_append]; show w.length + 1 < _; omega) (fun T2 h2 f2 => ⟨rfl, k T2 ?_ (f1.trans f2)⟩)
  rw [List.append_assoc] at h2
  exact h2
end CW
