/-! SMALL QUESTIONS -/
theorem s64a : ∀ t : Fin 64, ((zI (t.val : Int)).toInt64 &&& 63) = lJ t.val := by decide +kernel
theorem s64b : ∀ t : Fin 64, ((lJ t.val).toBitVec.smod 64).toNat = t.val := by decide +kernel
theorem bit_rw {a t : Nat} (ht : t < 64) (ha : a < 2 ^ 50) : ((lJ a >>> ((zI (t : Int)).toInt64 &&& 63)) &&& 1) = if a.testBit t = true then 1 else 0 := by
  have e : (lJ a >>> ((zI (t : Int)).toInt64 &&& 63)).toBitVec = (BitVec.ofNat 64 a).sshiftRight t := by
    rw [s64a ⟨t, ht⟩, Int64.toBitVec_shiftRight, lJ_bv, BitVec.sshiftRight_eq', s64b ⟨t, ht⟩]
  have e2 : ((BitVec.ofNat 64 a).sshiftRight t).getLsbD 0 = a.testBit t := by
    rw [BitVec.getLsbD_sshiftRight]
    have h2 : t + 0 < 64 := by omega
    simp only [h2, BitVec.getLsbD_ofNat]
    simp
  by_cases h : a.testBit t = true
  · rw [if_pos h, ← Int64.toBitVec_inj, Int64.toBitVec_and, e]
    show (BitVec.ofNat 64 a).sshiftRight t &&& 1#64 = 1#64
    rw [bit_01, if_pos (by rw [e2]; exact h)]
  · rw [if_neg h, ← Int64.toBitVec_inj, Int64.toBitVec_and, e]
    show (BitVec.ofNat 64 a).sshiftRight t &&& 1#64 = 0#64
    rw [bit_01, if_neg (by rw [e2]; exact h)]
theorem cb1 : ∀ k : Fin 64, (((zI (k.val : Int)).toInt64 + 1).toInt32.toInt) = (k.val : Int) + 1 := by decide +kernel
theorem cb0 : ∀ k : Fin 65, (((zI (k.val : Int)).toInt64 + 0).toInt32.toInt) = (k.val : Int) := by decide +kernel
def bt (x t : Nat) : Nat := if x.testBit t = true then 1 else 0
def cb (x : Nat) : Nat := sm (bt x) 64
theorem sm_bt {x : Nat} : ∀ k, sm (bt x) k ≤ k := by
  intro k
  have := sm_bd (f := bt x) (k := k) (m := 1) (fun i _ => by unfold bt; split <;> omega)
  omega
section SM
variable {sa : Nat → Nat} {b : Nat} {E : Nat × mH} {d : Nat} {T : gT} {a : Nat} {c : Nat → Nat → Int} {n nv nf : Nat}
theorem c_countBits {x : Nat} {φ : Int → gT → Prop} (hx : x < 2 ^ 50) (k : φ (cb x : Int) T) : gC (tP sa) lM b E d mX7_countBits [.long (lJ x)] T (fun r T' => pI r (fun v => φ v T')) := by
  refine w_X7_countBits ?_
  unfold f_X7_countBits
  have lp : ∀ (j i : Nat), j + i = 64 → gW (tP sa) lM b E d mX7_countBits 4 [some (.long (lJ x)), none, some (.int (zI (sm (bt x) i : Int))), some (.int (zI (i : Int)))] [] T (fun r T' => pI r (fun v => φ v T')) := by
    intro j
    induction j with
    | zero =>
      intro i hj
      refine w_X7_countBits_4 ?_
      unfold f_X7_countBits_4
      obtain rfl : i = 64 := by omega
      exact ⟨by omega, fun _ => ⟨_, rfl, k⟩, fun z => absurd z (by omega)⟩
    | succ j ih =>
      intro i hj
      refine w_X7_countBits_4 ?_
      unfold f_X7_countBits_4
      refine ⟨by omega, fun z => absurd z (by omega), fun _ => ?_⟩
      have hb := sm_bt (x := x) i
      have := ih (i + 1) (by omega)
      rw [bit_rw (by omega) hx]
      rw [show sm (bt x) (i + 1) = sm (bt x) i + bt x i from rfl] at this
      rw [show (i : Int) + 1 = ((i + 1 : Nat) : Int) by omega]
      unfold bt at this hb ⊢
      by_cases h : x.testBit i = true
      · rw [if_pos h] at this ⊢
        rw [cb1 ⟨_, by omega⟩]
        rw [show ((sm (fun t => if x.testBit t = true then 1 else 0) i + 1 : Nat) : Int) = (sm (fun t => if x.testBit t = true then 1 else 0) i : Int) + 1 by omega] at this
        exact this
      · rw [if_neg h] at this ⊢
        rw [cb0 ⟨_, by omega⟩]
        exact this
  exact lp 64 0 rfl
end SM
/-- one function alone -/
def sgl (x nf : Nat) : Int := if x = 2 ^ x.log2 ∧ x.log2 < nf then (x.log2 : Int) else -1
theorem sm_one {f : Nat → Nat} {t : Nat} (hf : ∀ i, f i = if i = t then 1 else 0) : ∀ k, sm f k = if t < k then 1 else 0 := by
  intro k
  induction k with
  | zero => rfl
  | succ k ih =>
    rw [sm, ih, hf k]
    by_cases h1 : t < k
    · rw [if_pos h1, if_neg (by omega), if_pos (by omega)]
    · by_cases h2 : k = t
      · rw [if_neg h1, if_pos h2, if_pos (by omega)]
      · rw [if_neg h1, if_neg h2, if_neg (by omega)]
theorem cb_pow {t : Nat} (ht : t < 50) : cb (2 ^ t) = 1 := by
  unfold cb
  rw [sm_one (t := t) (fun i => ?_), if_pos (by omega)]
  unfold bt
  by_cases h : i = t
  · rw [if_pos h, h, Nat.testBit_two_pow_self, if_pos rfl]
  · rw [if_neg h, Nat.testBit_two_pow_of_ne (fun e => h e.symm), if_neg (by decide)]
theorem sm_zero {f : Nat → Nat} : ∀ {k : Nat}, sm f k = 0 → ∀ i, i < k → f i = 0 := by
  intro k
  induction k with
  | zero => intro _ i hi; omega
  | succ k ih =>
    intro h i hi
    rw [sm] at h
    by_cases e : i = k
    · rw [e]; omega
    · exact ih (by omega) i (by omega)
theorem sm_un {f : Nat → Nat} : ∀ {k : Nat}, sm f k = 1 → ∃ t, t < k ∧ f t = 1 ∧ ∀ i, i < k → i ≠ t → f i = 0 := by
  intro k
  induction k with
  | zero => intro h; cases h
  | succ k ih =>
    intro h
    rw [sm] at h
    by_cases e : f k = 0
    · obtain ⟨t, h1, h2, h3⟩ := ih (by omega)
      refine ⟨t, by omega, h2, fun i hi hn => ?_⟩
      by_cases q : i = k
      · rw [q]; exact e
      · exact h3 i (by omega) hn
    · have z : sm f k = 0 := by omega
      exact ⟨k, by omega, by omega, fun i hi hn => sm_zero z i (by omega)⟩
theorem cb_one {x nf : Nat} (hx : x < 2 ^ nf) (hnf : nf ≤ 50) (h : cb x = 1) : x = 2 ^ x.log2 ∧ x.log2 < nf := by
  obtain ⟨t, h1, h2, h3⟩ := sm_un h
  have ht : x.testBit t = true := by
    unfold bt at h2
    by_cases q : x.testBit t = true
    · exact q
    · rw [if_neg q] at h2; cases h2
  have e : x = 2 ^ t := by
    apply Nat.eq_of_testBit_eq
    intro i
    by_cases q : i = t
    · rw [q, ht, Nat.testBit_two_pow_self]
    · rw [Nat.testBit_two_pow_of_ne (fun e => q e.symm)]
      by_cases hi : i < 64
      · have := h3 i hi q
        unfold bt at this
        by_cases z : x.testBit i = true
        · rw [if_pos z] at this; cases this
        · simpa using z
      · exact Nat.testBit_lt_two_pow (Nat.lt_of_lt_of_le hx (Nat.pow_le_pow_right (by decide) (by omega)))
  have hl : x.log2 = t := by rw [e, Nat.log2_two_pow]
  rw [hl]
  refine ⟨e, ?_⟩
  rw [e] at hx
  exact (Nat.pow_lt_pow_iff_right (by decide)).mp hx
theorem cb_sgl {x nf : Nat} (hx : x < 2 ^ nf) (hnf : nf ≤ 50) : cb x = 1 ↔ sgl x nf ≠ -1 := by
  unfold sgl
  constructor
  · intro h; rw [if_pos (cb_one hx hnf h)]; omega
  · intro h
    by_cases q : x = 2 ^ x.log2 ∧ x.log2 < nf
    · rw [q.1]; exact cb_pow (by omega)
    · rw [if_neg q] at h; exact absurd rfl h
section LT
variable {c : Nat → Nat → Int} {n nv nf : Nat}
/-- flows hold functions that there are -/
theorem Fx_nf (hw : wP c n nv nf) : (∀ l, l < n → Fx c n l < 2 ^ nf) ∧ ∀ v, v < nv → Gx c n v < 2 ^ nf := by
  obtain ⟨g1, g2, g3, g4⟩ := hw.flat
  have le : ∀ x, sub x (2 ^ nf - 1) → x < 2 ^ nf := fun x h => by
    have : x ||| (2 ^ nf - 1) = 2 ^ nf - 1 := h
    have h2 := Nat.left_le_or (n := x) (m := 2 ^ nf - 1)
    have := Nat.two_pow_pos nf
    omega
  have hs : sol c n (fun _ => 2 ^ nf - 1) (fun _ => 2 ^ nf - 1) := by
    intro l hl
    have hf : isFn c l → sub (2 ^ fcn c l) (2 ^ nf - 1) := fun q => by
      have h1 : fcn c (l + 1) ≤ fcn c n := fcn_mono hl
      rw [fcn, if_pos q] at h1
      refine sub_iff.mpr fun t ht => ?_
      rw [Nat.testBit_two_pow_sub_one]
      by_cases e : t = fcn c l
      · rw [e]; exact decide_eq_true (by omega)
      · rw [Nat.testBit_two_pow_of_ne (fun z => e z.symm)] at ht; cases ht
    exact ⟨fun _ => sub_refl, fun q => hf q, fun q => hf (Or.inr q), fun _ => ⟨sub_refl, sub_refl⟩, fun _ => ⟨sub_refl, sub_refl⟩, fun _ t _ _ => ⟨sub_refl, sub_refl⟩⟩
  have := (fxs_ok hw).2.2 _ _ hs
  exact ⟨fun l hl => le _ (this.1 l hl), fun v hv => le _ (this.2 v hv)⟩
/-- the operator's set, of a call -/
def opF (c : Nat → Nat → Int) (n l : Nat) : Nat := Fx c n (c l 3).toNat
/-- the only function that a call can call -/
def onF (c : Nat → Nat → Int) (n nf l : Nat) : Int := sgl (opF c n l) nf
theorem opF_lt (hw : wP c n nv nf) {l : Nat} (hl : l < n) (hk : 2 ≤ c l 0) : opF c n l < 2 ^ nf := by
  obtain ⟨g1, g2, g3, g4⟩ := hw.flat
  have := (g4 l hl).1.2.2.2.1 hk
  exact (Fx_nf hw).1 _ (by omega)
theorem onF_rg {l : Nat} : -1 ≤ onF c n nf l ∧ onF c n nf l < (nf : Int) ∨ (nf = 0 ∧ onF c n nf l = -1) := by
  unfold onF sgl
  split
  · rename_i q; left; omega
  · by_cases h : nf = 0
    · right; exact ⟨h, rfl⟩
    · left; omega
end LT
