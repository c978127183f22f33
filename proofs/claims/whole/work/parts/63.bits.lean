def lJ (m : Nat) : Int64 := Int64.ofNat m

theorem lJ_bv (m : Nat) : (lJ m).toBitVec = BitVec.ofNat 64 m := by
  simp [lJ, Int64.toBitVec_ofNat']

theorem lJ_inj {a c : Nat} (ha : a < 2^50) (hc : c < 2^50) : lJ a = lJ c ↔ a = c := by
  constructor
  · intro h
    have h1 := congrArg Int64.toBitVec h
    rw [lJ_bv, lJ_bv] at h1
    have h2 := congrArg BitVec.toNat h1
    simp only [BitVec.toNat_ofNat] at h2
    omega
  · rintro rfl; rfl

theorem lJ_or (a c : Nat) : lJ a ||| lJ c = lJ (a ||| c) := by
  apply Int64.toBitVec_inj.1
  rw [Int64.toBitVec_or, lJ_bv, lJ_bv, lJ_bv]
  simp [BitVec.ofNat_or]

theorem sh1 : ∀ t : Fin 50, ((zI (t.val : Int)).toInt64 &&& 63) = lJ t.val := by decide +kernel
theorem sh2 : ∀ t : Fin 50, (1 : Int64) <<< ((zI (t.val : Int)).toInt64 &&& 63) = lJ (2 ^ t.val) := by decide +kernel
theorem sh3 : ∀ t : Fin 50, ((lJ t.val).toBitVec.smod 64).toNat = t.val := by decide +kernel

theorem bit_one (x : BitVec 64) : (x &&& 1#64 = 1#64) ↔ x.getLsbD 0 = true := by
  constructor
  · intro h
    have := congrArg (fun y => y.getLsbD 0) h
    simpa using this
  · intro h
    apply BitVec.eq_of_getLsbD_eq
    intro i hi
    rw [BitVec.getLsbD_and]
    by_cases h0 : i = 0
    · subst h0; simp [h]
    · have : (1#64).getLsbD i = false := by simp [BitVec.getLsbD_one, h0]
      simp [this]

theorem shr_lJ {a t : Nat} (ht : t < 50) : (lJ a >>> ((zI (t : Int)).toInt64 &&& 63)).toBitVec = (BitVec.ofNat 64 a).sshiftRight t := by
  rw [sh1 ⟨t, ht⟩]
  rw [Int64.toBitVec_shiftRight, lJ_bv, BitVec.sshiftRight_eq', sh3 ⟨t, ht⟩]


theorem bit_r {a t : Nat} (ht : t < 50) : ((lJ a >>> ((zI (t : Int)).toInt64 &&& 63)) &&& 1) = 1 ↔ a.testBit t = true := by
  rw [← Int64.toBitVec_inj, Int64.toBitVec_and, shr_lJ ht]
  show ((BitVec.ofNat 64 a).sshiftRight t &&& 1#64 = 1#64) ↔ _
  rw [bit_one, BitVec.getLsbD_sshiftRight]
  have h1 : ¬ (64 ≤ 0) := by omega
  have h2 : t + 0 < 64 := by omega
  simp only [h2, BitVec.getLsbD_ofNat]
  simp

theorem ush1 : ∀ t : Fin 50, ((zI (t.val : Int)).toInt64.toUInt64 &&& Int64.toUInt64 63) = UInt64.ofNat t.val := by decide +kernel
theorem ush3 : ∀ t : Fin 50, ((UInt64.ofNat t.val).toBitVec % 64).toNat = t.val := by decide +kernel

theorem ushr_lJ {a t : Nat} (ht : t < 50) : ((lJ a).toUInt64 >>> ((zI (t : Int)).toInt64.toUInt64 &&& Int64.toUInt64 63)).toInt64.toBitVec = BitVec.ofNat 64 a >>> t := by
  rw [ush1 ⟨t, ht⟩]
  show ((lJ a).toUInt64 >>> UInt64.ofNat t).toBitVec = _
  rw [UInt64.toBitVec_shiftRight]
  show (lJ a).toBitVec >>> ((UInt64.ofNat t).toBitVec % 64) = _
  rw [lJ_bv, BitVec.ushiftRight_eq', ush3 ⟨t, ht⟩]

theorem bit_u {a t : Nat} (ht : t < 50) : ((((lJ a).toUInt64 >>> ((zI (t : Int)).toInt64.toUInt64 &&& Int64.toUInt64 63)).toInt64) &&& 1) = 1 ↔ a.testBit t = true := by
  rw [← Int64.toBitVec_inj, Int64.toBitVec_and, ushr_lJ ht]
  show (BitVec.ofNat 64 a >>> t &&& 1#64 = 1#64) ↔ _
  rw [bit_one, BitVec.getLsbD_ushiftRight, BitVec.getLsbD_ofNat]
  simp
  intro _; omega

theorem bit_01 (x : BitVec 64) : x &&& 1#64 = if x.getLsbD 0 = true then 1#64 else 0#64 := by
  apply BitVec.eq_of_getLsbD_eq
  intro i hi
  rw [BitVec.getLsbD_and]
  by_cases h0 : i = 0
  · subst h0; split <;> simp_all
  · have : (1#64).getLsbD i = false := by simp [BitVec.getLsbD_one, h0]
    split <;> simp_all

theorem bit_uv {a t : Nat} (ht : t < 50) : ((((lJ a).toUInt64 >>> ((zI (t : Int)).toInt64.toUInt64 &&& Int64.toUInt64 63)).toInt64) &&& 1) = if a.testBit t = true then 1 else 0 := by
  by_cases h : a.testBit t = true
  · rw [if_pos h]; exact (bit_u ht).2 h
  · rw [if_neg h, ← Int64.toBitVec_inj, Int64.toBitVec_and, ushr_lJ ht]
    show BitVec.ofNat 64 a >>> t &&& 1#64 = 0#64
    rw [bit_01, if_neg]
    rw [BitVec.getLsbD_ushiftRight, BitVec.getLsbD_ofNat]
    simp; intro _; simpa using h

theorem bit_rv {a t : Nat} (ht : t < 50) : ((lJ a >>> ((zI (t : Int)).toInt64 &&& 63)) &&& 1) = if a.testBit t = true then 1 else 0 := by
  by_cases h : a.testBit t = true
  · rw [if_pos h]; exact (bit_r ht).2 h
  · rw [if_neg h, ← Int64.toBitVec_inj, Int64.toBitVec_and, shr_lJ ht]
    show (BitVec.ofNat 64 a).sshiftRight t &&& 1#64 = 0#64
    rw [bit_01, if_neg]
    rw [BitVec.getLsbD_sshiftRight]
    have h2 : t + 0 < 64 := by omega
    simp only [h2, BitVec.getLsbD_ofNat]
    simpa using h

theorem bit_n {a c : Nat} (ha : a < 2^50) (hc : c < 2^50) : (lJ a &&& (lJ c ^^^ (-1))) = 0 ↔ c ||| a = c := by
  rw [← Int64.toBitVec_inj, Int64.toBitVec_and, Int64.toBitVec_xor, lJ_bv, lJ_bv]
  show (BitVec.ofNat 64 a &&& (BitVec.ofNat 64 c ^^^ BitVec.allOnes 64) = 0#64) ↔ _
  have p : ∀ x, x < 2^50 → ∀ i, 64 ≤ i → x.testBit i = false := by
    intro x hx i hi
    apply Nat.testBit_lt_two_pow
    exact Nat.lt_of_lt_of_le hx (Nat.pow_le_pow_right (by omega) (by omega))
  have q : ∀ i, i < 64 → (BitVec.ofNat 64 a &&& (BitVec.ofNat 64 c ^^^ BitVec.allOnes 64)).getLsbD i = (a.testBit i && !c.testBit i) := by
    intro i hi
    rw [BitVec.getLsbD_and, BitVec.getLsbD_xor, BitVec.getLsbD_ofNat, BitVec.getLsbD_ofNat, BitVec.getLsbD_allOnes]
    simp only [hi, decide_true, Bool.true_and]
    cases a.testBit i <;> cases c.testBit i <;> rfl
  constructor
  · intro h
    apply Nat.eq_of_testBit_eq
    intro i
    rw [Nat.testBit_or]
    by_cases hi : i < 64
    · have := q i hi
      rw [h, BitVec.getLsbD_zero] at this
      revert this
      cases a.testBit i <;> cases c.testBit i <;> decide
    · rw [p a ha i (by omega), p c hc i (by omega)]; rfl
  · intro h
    apply BitVec.eq_of_getLsbD_eq
    intro i hi
    have := congrArg (fun y => y.testBit i) h
    simp only [Nat.testBit_or] at this
    rw [q i hi, BitVec.getLsbD_zero]
    revert this
    cases a.testBit i <;> cases c.testBit i <;> decide
