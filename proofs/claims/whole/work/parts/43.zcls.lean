/-! THE CLASS: its two programs (places q .. q + 18), rows read with care (printed by wip/whole/zcls.py) -/
theorem lP_0 {q : Nat} (hq : q = 2 ∨ q = 21) : lD[q]? = some (.inr (.inl (5, [0, 0, 0, q + 4, q + 5, q + 6, q + 7, q + 8, q + 9, q + 10, q + 11, q + 12, q + 13, q + 14, q + 15, q + 19, q + 20, q + 21]))) := by
  rcases hq with rfl | rfl
  · rfl
  · rfl
theorem lP_1 {q : Nat} (hq : q = 2 ∨ q = 21) : lD[q + 1]? = some (.inl (0, 200)) := by
  rcases hq with rfl | rfl
  · rfl
  · rfl
theorem lP_2 {q : Nat} (hq : q = 2 ∨ q = 21) : lD[q + 2]? = some (.inl (0, 200)) := by
  rcases hq with rfl | rfl
  · rfl
  · rfl
theorem lP_3 {q : Nat} (hq : q = 2 ∨ q = 21) : lD[q + 3]? = some (.inl (0, 200)) := by
  rcases hq with rfl | rfl
  · rfl
  · rfl
theorem lP_4 {q : Nat} (hq : q = 2 ∨ q = 21) : lD[q + 4]? = some (.inl (0, 200)) := by
  rcases hq with rfl | rfl
  · rfl
  · rfl
theorem lP_5 {q : Nat} (hq : q = 2 ∨ q = 21) : lD[q + 5]? = some (.inl (0, 200)) := by
  rcases hq with rfl | rfl
  · rfl
  · rfl
theorem lP_6 {q : Nat} (hq : q = 2 ∨ q = 21) : lD[q + 6]? = some (.inl (0, 200)) := by
  rcases hq with rfl | rfl
  · rfl
  · rfl
theorem lP_7 {q : Nat} (hq : q = 2 ∨ q = 21) : lD[q + 7]? = some (.inl (0, 50)) := by
  rcases hq with rfl | rfl
  · rfl
  · rfl
theorem lP_8 {q : Nat} (hq : q = 2 ∨ q = 21) : lD[q + 8]? = some (.inl (0, 100)) := by
  rcases hq with rfl | rfl
  · rfl
  · rfl
theorem lP_9 {q : Nat} (hq : q = 2 ∨ q = 21) : lD[q + 9]? = some (.inl (0, 100)) := by
  rcases hq with rfl | rfl
  · rfl
  · rfl
theorem lP_10 {q : Nat} (hq : q = 2 ∨ q = 21) : lD[q + 10]? = some (.inl (0, 50)) := by
  rcases hq with rfl | rfl
  · rfl
  · rfl
theorem lP_11 {q : Nat} (hq : q = 2 ∨ q = 21) : lD[q + 11]? = some (.inl (0, 100)) := by
  rcases hq with rfl | rfl
  · rfl
  · rfl
theorem lP_12 {q : Nat} (hq : q = 2 ∨ q = 21) : lD[q + 12]? = some (.inr (.inr [q + 13, q + 14, q + 15])) := by
  rcases hq with rfl | rfl
  · rfl
  · rfl
theorem lP_13 {q : Nat} (hq : q = 2 ∨ q = 21) : lD[q + 13]? = some (.inl (0, 200)) := by
  rcases hq with rfl | rfl
  · rfl
  · rfl
theorem lP_14 {q : Nat} (hq : q = 2 ∨ q = 21) : lD[q + 14]? = some (.inl (0, 200)) := by
  rcases hq with rfl | rfl
  · rfl
  · rfl
theorem lP_15 {q : Nat} (hq : q = 2 ∨ q = 21) : lD[q + 15]? = some (.inl (0, 200)) := by
  rcases hq with rfl | rfl
  · rfl
  · rfl
theorem lP_16 {q : Nat} (hq : q = 2 ∨ q = 21) : lD[q + 16]? = some (.inl (0, 200)) := by
  rcases hq with rfl | rfl
  · rfl
  · rfl
theorem lP_17 {q : Nat} (hq : q = 2 ∨ q = 21) : lD[q + 17]? = some (.inl (0, 200)) := by
  rcases hq with rfl | rfl
  · rfl
  · rfl
theorem lP_18 {q : Nat} (hq : q = 2 ∨ q = 21) : lD[q + 18]? = some (.inl (0, 200)) := by
  rcases hq with rfl | rfl
  · rfl
  · rfl
theorem lP_p {q k : Nat} (hq : q = 2 ∨ q = 21) (h : k < 3) : lD[q + 13 + k]? = some (.inl (0, 200)) := by
  obtain rfl | rfl | rfl : k = 0 ∨ k = 1 ∨ k = 2 := by omega
  · rcases hq with rfl | rfl
    · rfl
    · rfl
  · rcases hq with rfl | rfl
    · rfl
    · rfl
  · rcases hq with rfl | rfl
    · rfl
    · rfl
theorem lP_o {q k : Nat} (h : k < 3) : [q + 13, q + 14, q + 15][k]? = some (q + 13 + k) := by
  obtain rfl | rfl | rfl : k = 0 ∨ k = 1 ∨ k = 2 := by omega
  · rfl
  · rfl
  · rfl
theorem aI_in {T : gT} {k n : Nat} {z : Int} (h : 0 ≤ z ∧ z < n) : aI T k n z = vI T k z.toNat := if_pos h
theorem aI_out {T : gT} {k n : Nat} {z : Int} (h : ¬ (0 ≤ z ∧ z < n)) : aI T k n z = -1 := if_neg h
theorem aJ_in {T : gT} {k n : Nat} {z : Int} (h : 0 ≤ z ∧ z < n) : aJ T k n z = T.2.1 k z.toNat := if_pos h
theorem aJ_out {T : gT} {k n : Nat} {z : Int} (h : ¬ (0 ≤ z ∧ z < n)) : aJ T k n z = 0 := if_neg h
/-- a constant row with care -/
def aS (s : List Nat) (z : Int) : Int := if 0 ≤ z ∧ z < s.length then ((s.getD z.toNat 0 : Nat) : Int) else -1
/-- a part with care -/
def aP (T : gT) (q : Nat) (l i : Int) : Int := if (0 ≤ i ∧ i < 3) ∧ 0 ≤ l ∧ l < 200 then vI T (q + 13 + i.toNat) l.toNat else -1
theorem c_aI (sa : Nat → Nat) (b : Nat) (E : Nat × mH) (d : Nat) (T : gT) {k n : Nat} {z : Int} (hk : lD[k]? = some (.inl (0, n))) (hn : n < 2 ^ 31) (hz : -2147483648 ≤ z ∧ z < 2147483648) : gC (tP sa) lD b E d mX6_at [.ref (b + k), .int (zI z)] T (fun r T' => r = some (.int (zI (aI T k n z))) ∧ T' = T) := by
  refine ⟨Nat.le_of_ble_eq_true rfl, ?_⟩
  show gW (tP sa) lD b E d mX6_at 0 [some (.ref (b + k)), some (.int (zI z))] [] T _
  refine g_iload_n dX6_at_0 rfl ?_
  refine g_if_ltZ dX6_at_1 rfl hz (fun c => ?_) (fun c => ?_)
  · refine g_iconst (v := zI (-1)) dX6_at_16 (by decide) ?_
    exact g_iret dX6_at_17 rfl rfl ⟨by rw [aI_out (by omega)], rfl⟩
  · refine g_iload_n dX6_at_4 rfl ?_
    refine g_aload_n dX6_at_5 rfl ?_
    refine g_alen dX6_at_6 hk ?_
    rw [zI_nat]
    refine g_icmp_geZ dX6_at_7 rfl hz (by omega) (fun c2 => ?_) (fun c2 => ?_)
    · refine g_iconst (v := zI (-1)) dX6_at_16 (by decide) ?_
      exact g_iret dX6_at_17 rfl rfl ⟨by rw [aI_out (by omega)], rfl⟩
    · refine g_aload_n dX6_at_10 rfl ?_
      refine g_iload_n dX6_at_11 rfl ?_
      refine g_ialdZ (v := vI T k z.toNat) dX6_at_12 hk (by omega) (by omega) hn (zI_v T k z.toNat) ?_
      refine g_goto dX6_at_13 rfl ?_
      exact g_iret dX6_at_17 rfl rfl ⟨by rw [aI_in (by omega)], rfl⟩
theorem c_aJ (sa : Nat → Nat) (b : Nat) (E : Nat × mH) (d : Nat) (T : gT) {k n : Nat} {z : Int} (hk : lD[k]? = some (.inl (3, n))) (hn : n < 2 ^ 31) (hz : -2147483648 ≤ z ∧ z < 2147483648) : gC (tP sa) lD b E d mX6_bitsAt [.ref (b + k), .int (zI z)] T (fun r T' => r = some (.long (aJ T k n z)) ∧ T' = T) := by
  refine ⟨Nat.le_of_ble_eq_true rfl, ?_⟩
  show gW (tP sa) lD b E d mX6_bitsAt 0 [some (.ref (b + k)), some (.int (zI z))] [] T _
  refine g_iload_n dX6_bitsAt_0 rfl ?_
  refine g_if_ltZ dX6_bitsAt_1 rfl hz (fun c => ?_) (fun c => ?_)
  · refine g_lconst (v := 0) dX6_bitsAt_16 (by decide) ?_
    exact g_lret dX6_bitsAt_17 rfl ⟨by rw [aJ_out (by omega)], rfl⟩
  · refine g_iload_n dX6_bitsAt_4 rfl ?_
    refine g_aload_n dX6_bitsAt_5 rfl ?_
    refine g_alen dX6_bitsAt_6 hk ?_
    rw [zI_nat]
    refine g_icmp_geZ dX6_bitsAt_7 rfl hz (by omega) (fun c2 => ?_) (fun c2 => ?_)
    · refine g_lconst (v := 0) dX6_bitsAt_16 (by decide) ?_
      exact g_lret dX6_bitsAt_17 rfl ⟨by rw [aJ_out (by omega)], rfl⟩
    · refine g_aload_n dX6_bitsAt_10 rfl ?_
      refine g_iload_n dX6_bitsAt_11 rfl ?_
      refine g_laldZ (v := T.2.1 k z.toNat) dX6_bitsAt_12 hk (by omega) (by omega) hn rfl ?_
      refine g_goto dX6_bitsAt_13 rfl ?_
      exact g_lret dX6_bitsAt_17 rfl ⟨by rw [aJ_in (by omega)], rfl⟩
theorem c_aS (sa : Nat → Nat) (b : Nat) (E : Nat × mH) (d : Nat) (T : gT) {z : Int} (hE : mSta sa b E) (hz : -2147483648 ≤ z ∧ z < 2147483648) : gC (tP sa) lD b E d mX6_at [.ref (sa 100), .int (zI z)] T (fun r T' => r = some (.int (zI (aS stA z))) ∧ T' = T) := by
  obtain ⟨⟨ha, f, hk, hf⟩, _⟩ := hE
  refine ⟨Nat.le_of_ble_eq_true rfl, ?_⟩
  show gW (tP sa) lD b E d mX6_at 0 [some (.ref (sa 100)), some (.int (zI z))] [] T _
  refine g_iload_n dX6_at_0 rfl ?_
  refine g_if_ltZ dX6_at_1 rfl hz (fun c => ?_) (fun c => ?_)
  · refine g_iconst (v := zI (-1)) dX6_at_16 (by decide) ?_
    exact g_iret dX6_at_17 rfl rfl ⟨by unfold aS; rw [if_neg (by omega)], rfl⟩
  · refine g_iload_n dX6_at_4 rfl ?_
    refine g_aload_n dX6_at_5 rfl ?_
    refine g_clen dX6_at_6 ha hk ?_
    rw [zI_nat]
    refine g_icmp_geZ dX6_at_7 rfl hz (by omega) (fun c2 => ?_) (fun c2 => ?_)
    · refine g_iconst (v := zI (-1)) dX6_at_16 (by decide) ?_
      exact g_iret dX6_at_17 rfl rfl ⟨by unfold aS; rw [if_neg (fun h => by have : stA.length = 12 := rfl; omega)], rfl⟩
    · refine g_aload_n dX6_at_10 rfl ?_
      refine g_iload_n dX6_at_11 rfl ?_
      refine g_cald dX6_at_12 ha hk (zI_ix (by omega) (by omega) (by decide)) ?_
      refine g_goto dX6_at_13 rfl ?_
      rw [hf _ (by omega)]
      exact g_iret dX6_at_17 rfl rfl ⟨by unfold aS; rw [if_pos ⟨by omega, by have : stA.length = 12 := rfl; omega⟩], rfl⟩
theorem c_aS1 (sa : Nat → Nat) (b : Nat) (E : Nat × mH) (d : Nat) (T : gT) {z : Int} (hE : mSta sa b E) (hz : -2147483648 ≤ z ∧ z < 2147483648) : gC (tP sa) lD b E d mX6_at [.ref (sa 101), .int (zI z)] T (fun r T' => r = some (.int (zI (aS stB z))) ∧ T' = T) := by
  obtain ⟨_, ⟨ha, f, hk, hf⟩⟩ := hE
  refine ⟨Nat.le_of_ble_eq_true rfl, ?_⟩
  show gW (tP sa) lD b E d mX6_at 0 [some (.ref (sa 101)), some (.int (zI z))] [] T _
  refine g_iload_n dX6_at_0 rfl ?_
  refine g_if_ltZ dX6_at_1 rfl hz (fun c => ?_) (fun c => ?_)
  · refine g_iconst (v := zI (-1)) dX6_at_16 (by decide) ?_
    exact g_iret dX6_at_17 rfl rfl ⟨by unfold aS; rw [if_neg (by omega)], rfl⟩
  · refine g_iload_n dX6_at_4 rfl ?_
    refine g_aload_n dX6_at_5 rfl ?_
    refine g_clen dX6_at_6 ha hk ?_
    rw [zI_nat]
    refine g_icmp_geZ dX6_at_7 rfl hz (by omega) (fun c2 => ?_) (fun c2 => ?_)
    · refine g_iconst (v := zI (-1)) dX6_at_16 (by decide) ?_
      exact g_iret dX6_at_17 rfl rfl ⟨by unfold aS; rw [if_neg (fun h => by have : stB.length = 5 := rfl; omega)], rfl⟩
    · refine g_aload_n dX6_at_10 rfl ?_
      refine g_iload_n dX6_at_11 rfl ?_
      refine g_cald dX6_at_12 ha hk (zI_ix (by omega) (by omega) (by decide)) ?_
      refine g_goto dX6_at_13 rfl ?_
      rw [hf _ (by omega)]
      exact g_iret dX6_at_17 rfl rfl ⟨by unfold aS; rw [if_pos ⟨by omega, by have : stB.length = 5 := rfl; omega⟩], rfl⟩
theorem aI_rg (T : gT) (k n : Nat) (z : Int) : -2147483648 ≤ aI T k n z ∧ aI T k n z < 2147483648 := by
  unfold aI
  split
  · exact ⟨vI_lo _ _ _, vI_hi _ _ _⟩
  · exact ⟨by decide, by decide⟩
theorem aP_rg (T : gT) (q : Nat) (l i : Int) : -2147483648 ≤ aP T q l i ∧ aP T q l i < 2147483648 := by
  unfold aP
  split
  · exact ⟨vI_lo _ _ _, vI_hi _ _ _⟩
  · exact ⟨by decide, by decide⟩
/-- a block of its own: part -/
def f_X3_part (sa : Nat → Nat) (b : Nat) (E : Nat × mH) (d : Nat) (l0 : Nat) (l1 : Int) (l2 : Int) (T : gT) (Q : Option Value → gT → Prop) : Prop := (-2147483648 ≤ l2 ∧ l2 < 2147483648) ∧ ((l2 < 0 → gW (tP sa) lD b E d mX3_part 24 [some (.ref (b + l0)), some (.int (zI l1)), some (.int (zI l2)), none] [] T Q) ∧ (¬ l2 < 0 → ((3 ≤ l2 → gW (tP sa) lD b E d mX3_part 24 [some (.ref (b + l0)), some (.int (zI l1)), some (.int (zI l2)), none] [] T Q) ∧ (¬ 3 ≤ l2 → (-2147483648 ≤ l1 ∧ l1 < 2147483648) ∧ ((l1 < 0 → gW (tP sa) lD b E d mX3_part 24 [some (.ref (b + l0)), some (.int (zI l1)), some (.int (zI l2)), none] [] T Q) ∧ (¬ l1 < 0 → ((200 ≤ l1 → gW (tP sa) lD b E d mX3_part 24 [some (.ref (b + l0)), some (.int (zI l1)), some (.int (zI l2)), none] [] T Q) ∧ (¬ 200 ≤ l1 → 0 ≤ l2 ∧ l2 < 3 ∧ 0 ≤ l1 ∧ l1 < 200 ∧ Q (some (.int (zI (vI T (l0 + 13 + l2.toNat) l1.toNat)))) T))))))))
set_option maxRecDepth 4000 in
theorem w_X3_part {sa : Nat → Nat} {b : Nat} {E : Nat × mH} {d : Nat} {l0 : Nat} {l1 : Int} {l2 : Int} {T : gT} {Q : Option Value → gT → Prop} (hq_l0 : l0 = 2 ∨ l0 = 21) (h : f_X3_part sa b E d l0 l1 l2 T Q) : gC (tP sa) lD b E d mX3_part [.ref (b + l0), .int (zI l1), .int (zI l2)] T Q := by
  unfold f_X3_part at h
  refine ⟨Nat.le_of_ble_eq_true rfl, ?_⟩
  show gW (tP sa) lD b E d mX3_part 0 [some (.ref (b + l0)), some (.int (zI l1)), some (.int (zI l2)), none] [] T Q
  refine g_iload_n dX3_part_0 rfl ?_
  obtain ⟨a1, h⟩ := h
  refine g_if_ltZ dX3_part_1 rfl a1  (fun c1 => ?_) (fun c1 => ?_)
  · replace h := h.1 c1
    exact h
  · replace h := h.2 c1
    refine g_iload_n dX3_part_4 rfl ?_
    refine g_iconst (v := zI 3) dX3_part_5 (by decide) ?_
    refine g_icmp_geZ dX3_part_6 rfl a1 (by decide) (fun c6 => ?_) (fun c6 => ?_)
    · replace h := h.1 c6
      exact h
    · replace h := h.2 c6
      refine g_iload_n dX3_part_9 rfl ?_
      obtain ⟨a2, h⟩ := h
      refine g_if_ltZ dX3_part_10 rfl a2  (fun c10 => ?_) (fun c10 => ?_)
      · replace h := h.1 c10
        exact h
      · replace h := h.2 c10
        refine g_iload_n dX3_part_13 rfl ?_
        refine g_sipush (v := zI 200) dX3_part_14 (by decide) ?_
        refine g_icmp_geZ dX3_part_17 rfl a2 (by decide) (fun c17 => ?_) (fun c17 => ?_)
        · replace h := h.1 c17
          exact h
        · replace h := h.2 c17
          refine g_iconst (v := zI 1) dX3_part_20 (by decide) ?_
          refine g_goto dX3_part_21 rfl ?_
          refine g_istore_n (L' := [some (.ref (b + l0)), some (.int (zI l1)), some (.int (zI l2)), some (.int (zI 1))]) dX3_part_25 rfl ?_
          refine g_iload_n dX3_part_26 rfl ?_
          refine g_if_no dX3_part_27 rfl (by decide) ?_
          refine g_aload_n dX3_part_30 rfl ?_
          refine g_getR dX3_part_31 tF_3_47 (lP_0 hq_l0) rfl ?_
          refine g_iload_n dX3_part_34 rfl ?_
          obtain ⟨a3, h⟩ := h
          obtain ⟨a4, h⟩ := h
          have t5 : l2.toNat < 3 := by omega
          refine g_aaldZ dX3_part_35 (lP_12 hq_l0) a3 a4 (show (3 : Nat) < 2 ^ 31 by decide) (lP_o t5) ?_
          refine g_iload_n dX3_part_36 rfl ?_
          obtain ⟨a6, h⟩ := h
          obtain ⟨a7, h⟩ := h
          refine g_ialdZ (v := vI T (l0 + 13 + l2.toNat) l1.toNat) dX3_part_37 (lP_p hq_l0 t5) a6 a7 (by decide) (zI_v T (l0 + 13 + l2.toNat) l1.toNat) ?_
          refine g_goto dX3_part_38 rfl ?_
          exact g_iret dX3_part_42 rfl rfl h
def f_X3_part_24 (sa : Nat → Nat) (b : Nat) (E : Nat × mH) (d : Nat) (l0 : Nat) (l1 : Int) (l2 : Int) (T : gT) (Q : Option Value → gT → Prop) : Prop := Q (some (.int (zI (-1)))) T
set_option maxRecDepth 4000 in
theorem w_X3_part_24 {sa : Nat → Nat} {b : Nat} {E : Nat × mH} {d : Nat} {l0 : Nat} {l1 : Int} {l2 : Int} {T : gT} {Q : Option Value → gT → Prop} (hq_l0 : l0 = 2 ∨ l0 = 21) (h : f_X3_part_24 sa b E d l0 l1 l2 T Q) : gW (tP sa) lD b E d mX3_part 24 [some (.ref (b + l0)), some (.int (zI l1)), some (.int (zI l2)), none] [] T Q := by
  unfold f_X3_part_24 at h
  refine g_iconst (v := zI 0) dX3_part_24 (by decide) ?_
  refine g_istore_n (L' := [some (.ref (b + l0)), some (.int (zI l1)), some (.int (zI l2)), some (.int (zI 0))]) dX3_part_25 rfl ?_
  refine g_iload_n dX3_part_26 rfl ?_
  refine g_if_y dX3_part_27 rfl (by decide) ?_
  refine g_iconst (v := zI (-1)) dX3_part_41 (by decide) ?_
  exact g_iret dX3_part_42 rfl rfl h
def f_X4_isLetter (sa : Nat → Nat) (b : Nat) (E : Nat × mH) (d : Nat) (l0 : Int) (T : gT) (Q : Option Value → gT → Prop) : Prop := (-2147483648 ≤ l0 ∧ l0 < 2147483648) ∧ ((l0 < 97 → Q (some (.int (zI 0))) T) ∧ (¬ l0 < 97 → ((122 < l0 → Q (some (.int (zI 0))) T) ∧ (¬ 122 < l0 → Q (some (.int (zI 1))) T))))
set_option maxRecDepth 4000 in
theorem w_X4_isLetter {sa : Nat → Nat} {b : Nat} {E : Nat × mH} {d : Nat} {l0 : Int} {T : gT} {Q : Option Value → gT → Prop} (h : f_X4_isLetter sa b E d l0 T Q) : gC (tP sa) lD b E d mX4_isLetter [.int (zI l0)] T Q := by
  unfold f_X4_isLetter at h
  refine ⟨Nat.le_of_ble_eq_true rfl, ?_⟩
  show gW (tP sa) lD b E d mX4_isLetter 0 [some (.int (zI l0))] [] T Q
  refine g_iload_n dX4_isLetter_0 rfl ?_
  refine g_bipush (v := zI 97) dX4_isLetter_1 (by decide) ?_
  obtain ⟨a1, h⟩ := h
  refine g_icmp_ltZ dX4_isLetter_3 rfl a1 (by decide) (fun c3 => ?_) (fun c3 => ?_)
  · replace h := h.1 c3
    refine g_iconst (v := zI 0) dX4_isLetter_16 (by decide) ?_
    exact g_iret dX4_isLetter_17 rfl rfl h
  · replace h := h.2 c3
    refine g_iload_n dX4_isLetter_6 rfl ?_
    refine g_bipush (v := zI 122) dX4_isLetter_7 (by decide) ?_
    refine g_icmp_gtZ dX4_isLetter_9 rfl a1 (by decide) (fun c9 => ?_) (fun c9 => ?_)
    · replace h := h.1 c9
      refine g_iconst (v := zI 0) dX4_isLetter_16 (by decide) ?_
      exact g_iret dX4_isLetter_17 rfl rfl h
    · replace h := h.2 c9
      refine g_iconst (v := zI 1) dX4_isLetter_12 (by decide) ?_
      refine g_goto dX4_isLetter_13 rfl ?_
      exact g_iret dX4_isLetter_17 rfl rfl h
def f_X4_isDigit (sa : Nat → Nat) (b : Nat) (E : Nat × mH) (d : Nat) (l0 : Int) (T : gT) (Q : Option Value → gT → Prop) : Prop := (-2147483648 ≤ l0 ∧ l0 < 2147483648) ∧ ((l0 < 48 → Q (some (.int (zI 0))) T) ∧ (¬ l0 < 48 → ((57 < l0 → Q (some (.int (zI 0))) T) ∧ (¬ 57 < l0 → Q (some (.int (zI 1))) T))))
set_option maxRecDepth 4000 in
theorem w_X4_isDigit {sa : Nat → Nat} {b : Nat} {E : Nat × mH} {d : Nat} {l0 : Int} {T : gT} {Q : Option Value → gT → Prop} (h : f_X4_isDigit sa b E d l0 T Q) : gC (tP sa) lD b E d mX4_isDigit [.int (zI l0)] T Q := by
  unfold f_X4_isDigit at h
  refine ⟨Nat.le_of_ble_eq_true rfl, ?_⟩
  show gW (tP sa) lD b E d mX4_isDigit 0 [some (.int (zI l0))] [] T Q
  refine g_iload_n dX4_isDigit_0 rfl ?_
  refine g_bipush (v := zI 48) dX4_isDigit_1 (by decide) ?_
  obtain ⟨a1, h⟩ := h
  refine g_icmp_ltZ dX4_isDigit_3 rfl a1 (by decide) (fun c3 => ?_) (fun c3 => ?_)
  · replace h := h.1 c3
    refine g_iconst (v := zI 0) dX4_isDigit_16 (by decide) ?_
    exact g_iret dX4_isDigit_17 rfl rfl h
  · replace h := h.2 c3
    refine g_iload_n dX4_isDigit_6 rfl ?_
    refine g_bipush (v := zI 57) dX4_isDigit_7 (by decide) ?_
    refine g_icmp_gtZ dX4_isDigit_9 rfl a1 (by decide) (fun c9 => ?_) (fun c9 => ?_)
    · replace h := h.1 c9
      refine g_iconst (v := zI 0) dX4_isDigit_16 (by decide) ?_
      exact g_iret dX4_isDigit_17 rfl rfl h
    · replace h := h.2 c9
      refine g_iconst (v := zI 1) dX4_isDigit_12 (by decide) ?_
      refine g_goto dX4_isDigit_13 rfl ?_
      exact g_iret dX4_isDigit_17 rfl rfl h
theorem c4_zL (sa : Nat → Nat) (b : Nat) (E : Nat × mH) (d : Nat) (T : gT) {z : Int} (h : -2147483648 ≤ z ∧ z < 2147483648) : gC (tP sa) lD b E d mX4_isLetter [.int (zI z)] T (fun r T' => r = some (.int (zI (if zL z = true then 1 else 0))) ∧ T' = T) := by
  refine w_X4_isLetter ?_
  unfold f_X4_isLetter zL
  refine ⟨h, fun c => ?_, fun c => ⟨fun c2 => ?_, fun c2 => ?_⟩⟩
  · rw [decide_eq_false (show ¬ (97 : Int) ≤ z by omega)]; exact ⟨rfl, rfl⟩
  · rw [decide_eq_false (show ¬ z ≤ (122 : Int) by omega), Bool.and_false]; exact ⟨rfl, rfl⟩
  · rw [decide_eq_true (show (97 : Int) ≤ z by omega), decide_eq_true (show z ≤ (122 : Int) by omega)]; exact ⟨rfl, rfl⟩
theorem c4_zD (sa : Nat → Nat) (b : Nat) (E : Nat × mH) (d : Nat) (T : gT) {z : Int} (h : -2147483648 ≤ z ∧ z < 2147483648) : gC (tP sa) lD b E d mX4_isDigit [.int (zI z)] T (fun r T' => r = some (.int (zI (if zD z = true then 1 else 0))) ∧ T' = T) := by
  refine w_X4_isDigit ?_
  unfold f_X4_isDigit zD
  refine ⟨h, fun c => ?_, fun c => ⟨fun c2 => ?_, fun c2 => ?_⟩⟩
  · rw [decide_eq_false (show ¬ (48 : Int) ≤ z by omega)]; exact ⟨rfl, rfl⟩
  · rw [decide_eq_false (show ¬ z ≤ (57 : Int) by omega), Bool.and_false]; exact ⟨rfl, rfl⟩
  · rw [decide_eq_true (show (48 : Int) ≤ z by omega), decide_eq_true (show z ≤ (57 : Int) by omega)]; exact ⟨rfl, rfl⟩
theorem c_part (sa : Nat → Nat) (b : Nat) (E : Nat × mH) (d : Nat) (T : gT) {q : Nat} {l i : Int} (hq : q = 2 ∨ q = 21) (hl : -2147483648 ≤ l ∧ l < 2147483648) (hi : -2147483648 ≤ i ∧ i < 2147483648) : gC (tP sa) lD b E d mX3_part [.ref (b + q), .int (zI l), .int (zI i)] T (fun r T' => r = some (.int (zI (aP T q l i))) ∧ T' = T) := by
  have out : ¬ ((0 ≤ i ∧ i < 3) ∧ 0 ≤ l ∧ l < 200) → aP T q l i = -1 := fun h => if_neg h
  have inn : (0 ≤ i ∧ i < 3) ∧ 0 ≤ l ∧ l < 200 → aP T q l i = vI T (q + 13 + i.toNat) l.toNat := fun h => if_pos h
  have fz : gW (tP sa) lD b E d mX3_part 24 [some (.ref (b + q)), some (.int (zI l)), some (.int (zI i)), none] [] T (fun r T' => r = some (.int (zI (-1))) ∧ T' = T) := w_X3_part_24 hq ⟨rfl, rfl⟩
  refine w_X3_part hq ?_
  unfold f_X3_part
  refine ⟨hi, fun c => ?_, fun c => ⟨fun c2 => ?_, fun c2 => ⟨hl, fun c3 => ?_, fun c3 => ⟨fun c4 => ?_, fun c4 => ?_⟩⟩⟩⟩
  · rw [out (by omega)]; exact fz
  · rw [out (by omega)]; exact fz
  · rw [out (by omega)]; exact fz
  · rw [out (by omega)]; exact fz
  · rw [inn (by omega)]
    exact ⟨by omega, by omega, by omega, by omega, rfl, rfl⟩
theorem c_endOf (sa : Nat → Nat) (b : Nat) (E : Nat × mH) (d : Nat) (T : gT) {q : Nat} {l : Int} (hq : q = 2 ∨ q = 21) (hl : -2147483648 ≤ l ∧ l < 2147483648) : gC (tP sa) lD b E (d + 1) mX3_endOf [.ref (b + q), .int (zI l)] T (fun r T' => r = some (.int (zI (aI T (q + 17) 200 l))) ∧ T' = T) := by
  refine ⟨Nat.le_of_ble_eq_true rfl, ?_⟩
  show gW (tP sa) lD b E (d + 1) mX3_endOf 0 [some (.ref (b + q)), some (.int (zI l))] [] T _
  refine g_aload_n dX3_endOf_0 rfl ?_
  refine g_getR dX3_endOf_1 tF_3_53 (lP_0 hq) rfl ?_
  refine g_iload_n dX3_endOf_4 rfl ?_
  refine g_callS [.ref (b + (q + 17)), .int (zI l)] [] dX3_endOf_5 tG_3_100 tM_96 rfl rfl rfl rfl (by decide) ?_
  refine gC.mono (c_aI sa b E d T (lP_17 hq) (by decide) hl) (Nat.le_refl _) ?_
  rintro _ _ ⟨rfl, h9⟩
  obtain rfl := h9.symm
  exact g_iret dX3_endOf_8 rfl rfl ⟨rfl, rfl⟩

