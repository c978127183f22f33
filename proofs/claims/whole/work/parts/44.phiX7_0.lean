/-! THE REFERENCE: its blocks, 0 (printed by wip/whole/phi7.py) -/
def f_X7_isWord (sa : Nat → Nat) (b : Nat) (E : Nat × mH) (d : Nat) (l1 : Nat) (l1w : List Nat) (T : gT) (Q : Option Value → gT → Prop) : Prop := gC (tP sa) lM b E (d + 3) mX7_peek [.ref (b + 0)] T (fun r T6 => pI r (fun v6 => (-2147483648 ≤ v6 ∧ v6 < 2147483648) ∧ ((¬ (zL v6 = true) → Q (some (.int (zI 0))) T6) ∧ ((zL v6 = true) → gC (tP sa) lM b E (d + 3) mX7_wordEnd [.ref (b + 0)] T6 (fun r T16 => pI r (fun v16 => (-2147483648 ≤ v16 - (vI T16 0 20) ∧ v16 - (vI T16 0 20) < 2147483648) ∧ (-2147483648 ≤ (l1w.length : Int) ∧ (l1w.length : Int) < 2147483648) ∧ (((v16 - (vI T16 0 20)) = (l1w.length : Int) → gW (tP sa) lM b E (d + 3 + 1) mX7_isWord 32 [some (.ref (b + 0)), some (.ref (l1)), some (.int (zI (l1w.length : Int))), some (.int (zI 0))] [] T16 Q) ∧ (¬ (v16 - (vI T16 0 20)) = (l1w.length : Int) → Q (some (.int (zI 0))) T16))))))))
set_option maxRecDepth 4000 in
theorem w_X7_isWord {sa : Nat → Nat} {b : Nat} {E : Nat × mH} {d : Nat} {l1 : Nat} {l1w : List Nat} {T : gT} {Q : Option Value → gT → Prop} (hs_l1 : mStr E b l1 l1w) (h : f_X7_isWord sa b E d l1 l1w T Q) : gC (tP sa) lM b E (d + 3 + 1) mX7_isWord [.ref (b + 0), .ref (l1)] T Q := by
  unfold f_X7_isWord at h
  obtain ⟨va_hs_l1, f_hs_l1, fs_hs_l1, ha_hs_l1, _, hk_hs_l1, _⟩ := id hs_l1
  refine ⟨Nat.le_of_ble_eq_true rfl, ?_⟩
  show gW (tP sa) lM b E (d + 3 + 1) mX7_isWord 0 [some (.ref (b + 0)), some (.ref (l1)), none, none] [] T Q
  refine g_aload_n dX7_isWord_0 rfl ?_
  refine g_callC [.ref (l1)] [] dX7_isWord_1 tG_7_136 tM_179 ha_hs_l1 hk_hs_l1 rfl rfl rfl rfl (by decide) rfl ?_
  refine gC.mono (c_length sa _ _ hs_l1) (Nat.add_le_add_left (by decide) _) ?_
  rintro _ _ ⟨rfl, h9⟩
  obtain rfl := h9.symm
  rw [zI_nat]
  refine g_istore_n (L' := [some (.ref (b + 0)), some (.ref (l1)), some (.int (zI (l1w.length : Int))), none]) dX7_isWord_4 rfl ?_
  refine g_aload_n dX7_isWord_5 rfl ?_
  refine g_callV [.ref (b + 0)] [] dX7_isWord_6 tG_7_118 tM_116 lM_0 rfl rfl rfl rfl (by decide) rfl ?_
  refine gC.mono h (Nat.le_refl _) ?_
  rintro _ T6 ⟨v6, rfl, h⟩
  obtain ⟨a1, h⟩ := h
  refine g_callS [.int (zI v6)] [] dX7_isWord_9 tG_7_129 tM_120 rfl rfl rfl rfl (by decide) ?_
  refine gC.mono (c_zL sa b E _ _ a1) (Nat.le_refl _) ?_
  rintro _ _ ⟨rfl, h9⟩
  obtain rfl := h9.symm
  refine g_if_eqB dX7_isWord_12 rfl (fun c12 => ?_) (fun c12 => ?_)
  · replace h := h.1 c12
    refine g_iconst (v := zI 0) dX7_isWord_28 (by decide) ?_
    exact g_iret dX7_isWord_29 rfl rfl h
  · replace h := h.2 c12
    refine g_aload_n dX7_isWord_15 rfl ?_
    refine g_callV [.ref (b + 0)] [] dX7_isWord_16 tG_7_141 tM_122 lM_0 rfl rfl rfl rfl (by decide) rfl ?_
    refine gC.mono h (Nat.le_refl _) ?_
    rintro _ T16 ⟨v16, rfl, h⟩
    refine g_aload_n dX7_isWord_19 rfl ?_
    refine g_getZ (v := vI T16 0 20) dX7_isWord_20 tF_7_112 lM_0 rfl (zI_v T16 0 20) ?_
    refine g_isubZ dX7_isWord_23 ?_
    refine g_iload_n dX7_isWord_24 rfl ?_
    obtain ⟨a2, h⟩ := h
    obtain ⟨a3, h⟩ := h
    refine g_icmp_eqZ dX7_isWord_25 rfl a2 a3 (fun c25 => ?_) (fun c25 => ?_)
    · replace h := h.1 c25
      refine g_iconst (v := zI 0) dX7_isWord_30 (by decide) ?_
      refine g_istore_n (L' := [some (.ref (b + 0)), some (.ref (l1)), some (.int (zI (l1w.length : Int))), some (.int (zI 0))]) dX7_isWord_31 rfl ?_
      exact h
    · replace h := h.2 c25
      refine g_iconst (v := zI 0) dX7_isWord_28 (by decide) ?_
      exact g_iret dX7_isWord_29 rfl rfl h
def f_X7_isWord_32 (sa : Nat → Nat) (b : Nat) (E : Nat × mH) (d : Nat) (l1 : Nat) (l1w : List Nat) (l2 : Int) (l3 : Int) (T : gT) (Q : Option Value → gT → Prop) : Prop := (-2147483648 ≤ l3 ∧ l3 < 2147483648) ∧ (-2147483648 ≤ l2 ∧ l2 < 2147483648) ∧ ((l2 ≤ l3 → Q (some (.int (zI 1))) T) ∧ (¬ l2 ≤ l3 → 0 ≤ (vI T 0 20) + l3 ∧ (vI T 0 20) + l3 < 400 ∧ 0 ≤ l3 ∧ l3 < (l1w.length : Int) ∧ (-2147483648 ≤ ((l1w.getD l3.toNat 0 : Nat) : Int) ∧ ((l1w.getD l3.toNat 0 : Nat) : Int) < 2147483648) ∧ (((vI T 1 ((vI T 0 20) + l3).toNat) = ((l1w.getD l3.toNat 0 : Nat) : Int) → gW (tP sa) lM b E (d + 3 + 1) mX7_isWord 32 [some (.ref (b + 0)), some (.ref (l1)), some (.int (zI l2)), some (.int (zI (l3 + 1)))] [] T Q) ∧ (¬ (vI T 1 ((vI T 0 20) + l3).toNat) = ((l1w.getD l3.toNat 0 : Nat) : Int) → Q (some (.int (zI 0))) T))))
set_option maxRecDepth 4000 in
theorem w_X7_isWord_32 {sa : Nat → Nat} {b : Nat} {E : Nat × mH} {d : Nat} {l1 : Nat} {l1w : List Nat} {l2 : Int} {l3 : Int} {T : gT} {Q : Option Value → gT → Prop} (hs_l1 : mStr E b l1 l1w) (h : f_X7_isWord_32 sa b E d l1 l1w l2 l3 T Q) : gW (tP sa) lM b E (d + 3 + 1) mX7_isWord 32 [some (.ref (b + 0)), some (.ref (l1)), some (.int (zI l2)), some (.int (zI l3))] [] T Q := by
  unfold f_X7_isWord_32 at h
  obtain ⟨va_hs_l1, f_hs_l1, fs_hs_l1, ha_hs_l1, _, hk_hs_l1, _⟩ := id hs_l1
  refine g_iload_n dX7_isWord_32 rfl ?_
  refine g_iload_n dX7_isWord_33 rfl ?_
  obtain ⟨a1, h⟩ := h
  obtain ⟨a2, h⟩ := h
  refine g_icmp_geZ dX7_isWord_34 rfl a1 a2 (fun c34 => ?_) (fun c34 => ?_)
  · replace h := h.1 c34
    refine g_iconst (v := zI 1) dX7_isWord_64 (by decide) ?_
    exact g_iret dX7_isWord_65 rfl rfl h
  · replace h := h.2 c34
    refine g_aload_n dX7_isWord_37 rfl ?_
    refine g_getR dX7_isWord_38 tF_7_7 lM_0 rfl ?_
    refine g_aload_n dX7_isWord_41 rfl ?_
    refine g_getZ (v := vI T 0 20) dX7_isWord_42 tF_7_112 lM_0 rfl (zI_v T 0 20) ?_
    refine g_iload_n dX7_isWord_45 rfl ?_
    refine g_iaddZ dX7_isWord_46 ?_
    obtain ⟨a3, h⟩ := h
    obtain ⟨a4, h⟩ := h
    refine g_baldZ (v := vI T 1 ((vI T 0 20) + l3).toNat) dX7_isWord_47 lM_1 a3 a4 (by decide) (zI_v T 1 ((vI T 0 20) + l3).toNat) ?_
    refine g_aload_n dX7_isWord_48 rfl ?_
    refine g_iload_n dX7_isWord_49 rfl ?_
    obtain ⟨a5, h⟩ := h
    obtain ⟨a6, h⟩ := h
    refine g_callC [.ref (l1), .int (zI l3)] [.int (zI (vI T 1 ((vI T 0 20) + l3).toNat))] dX7_isWord_50 tG_7_144 tM_180 ha_hs_l1 hk_hs_l1 rfl rfl rfl rfl (by decide) rfl ?_
    refine gC.mono (c_charZ sa _ _ hs_l1 a5 a6) (Nat.le_refl _) ?_
    rintro _ _ ⟨rfl, h9⟩
    obtain rfl := h9.symm
    rw [zI_nat]
    obtain ⟨a7, h⟩ := h
    refine g_icmp_eqZ dX7_isWord_53 rfl ⟨vI_lo _ _ _, vI_hi _ _ _⟩ a7 (fun c53 => ?_) (fun c53 => ?_)
    · replace h := h.1 c53
      refine g_iinc (x := zI l3) (v := zI (l3 + 1)) (L' := [some (.ref (b + 0)), some (.ref (l1)), some (.int (zI l2)), some (.int (zI (l3 + 1)))]) dX7_isWord_58 rfl (zI_add _ _) rfl ?_
      refine g_goto dX7_isWord_61 rfl ?_
      exact h
    · replace h := h.2 c53
      refine g_iconst (v := zI 0) dX7_isWord_56 (by decide) ?_
      exact g_iret dX7_isWord_57 rfl rfl h
def f_X7_number (sa : Nat → Nat) (b : Nat) (E : Nat × mH) (d : Nat) (l1 : Int) (T : gT) (Q : Option Value → gT → Prop) : Prop := gC (tP sa) lM b E d mX7_peek [.ref (b + 0)] T (fun r T1 => pI r (fun v1 => (-2147483648 ≤ v1 ∧ v1 < 2147483648) ∧ ((¬ v1 = 45 → gW (tP sa) lM b E (d + 1) mX7_number 14 [some (.ref (b + 0)), some (.int (zI l1)), none, none, none] [.int (zI 0)] T1 Q) ∧ (v1 = 45 → gW (tP sa) lM b E (d + 1) mX7_number 14 [some (.ref (b + 0)), some (.int (zI l1)), none, none, none] [.int (zI 1)] T1 Q))))
set_option maxRecDepth 4000 in
theorem w_X7_number {sa : Nat → Nat} {b : Nat} {E : Nat × mH} {d : Nat} {l1 : Int} {T : gT} {Q : Option Value → gT → Prop} (h : f_X7_number sa b E d l1 T Q) : gC (tP sa) lM b E (d + 1) mX7_number [.ref (b + 0), .int (zI l1)] T Q := by
  unfold f_X7_number at h
  refine ⟨Nat.le_of_ble_eq_true rfl, ?_⟩
  show gW (tP sa) lM b E (d + 1) mX7_number 0 [some (.ref (b + 0)), some (.int (zI l1)), none, none, none] [] T Q
  refine g_aload_n dX7_number_0 rfl ?_
  refine g_callV [.ref (b + 0)] [] dX7_number_1 tG_7_118 tM_116 lM_0 rfl rfl rfl rfl (by decide) rfl ?_
  refine gC.mono h (Nat.le_refl _) ?_
  rintro _ T1 ⟨v1, rfl, h⟩
  refine g_bipush (v := zI 45) dX7_number_4 (by decide) ?_
  obtain ⟨a1, h⟩ := h
  refine g_icmp_neZ dX7_number_6 rfl a1 (by decide) (fun c6 => ?_) (fun c6 => ?_)
  · replace h := h.1 c6
    refine g_iconst (v := zI 0) dX7_number_13 (by decide) ?_
    exact h
  · replace h := h.2 c6
    refine g_iconst (v := zI 1) dX7_number_9 (by decide) ?_
    refine g_goto dX7_number_10 rfl ?_
    exact h
def f_X7_number_14 (sa : Nat → Nat) (b : Nat) (E : Nat × mH) (d : Nat) (l1 : Int) (s0 : Int) (T : gT) (Q : Option Value → gT → Prop) : Prop := (-2147483648 ≤ s0 ∧ s0 < 2147483648) ∧ ((s0 = 0 → gW (tP sa) lM b E (d + 1) mX7_number 29 [some (.ref (b + 0)), some (.int (zI l1)), some (.int (zI s0)), none, none] [.int (zI 0), .int (zI (vI T 0 20)), .ref (b + 0)] T Q) ∧ (¬ s0 = 0 → gW (tP sa) lM b E (d + 1) mX7_number 29 [some (.ref (b + 0)), some (.int (zI l1)), some (.int (zI s0)), none, none] [.int (zI 1), .int (zI (vI T 0 20)), .ref (b + 0)] T Q))
set_option maxRecDepth 4000 in
theorem w_X7_number_14 {sa : Nat → Nat} {b : Nat} {E : Nat × mH} {d : Nat} {l1 : Int} {s0 : Int} {T : gT} {Q : Option Value → gT → Prop} (h : f_X7_number_14 sa b E d l1 s0 T Q) : gW (tP sa) lM b E (d + 1) mX7_number 14 [some (.ref (b + 0)), some (.int (zI l1)), none, none, none] [.int (zI s0)] T Q := by
  unfold f_X7_number_14 at h
  refine g_istore_n (L' := [some (.ref (b + 0)), some (.int (zI l1)), some (.int (zI s0)), none, none]) dX7_number_14 rfl ?_
  refine g_aload_n dX7_number_15 rfl ?_
  refine g_dup dX7_number_16 rfl ?_
  refine g_getZ (v := vI T 0 20) dX7_number_17 tF_7_112 lM_0 rfl (zI_v T 0 20) ?_
  refine g_iload_n dX7_number_20 rfl ?_
  obtain ⟨a1, h⟩ := h
  refine g_if_eqZ dX7_number_21 rfl a1  (fun c21 => ?_) (fun c21 => ?_)
  · replace h := h.1 c21
    refine g_iconst (v := zI 0) dX7_number_28 (by decide) ?_
    exact h
  · replace h := h.2 c21
    refine g_iconst (v := zI 1) dX7_number_24 (by decide) ?_
    refine g_goto dX7_number_25 rfl ?_
    exact h
def f_X7_number_29 (sa : Nat → Nat) (b : Nat) (E : Nat × mH) (d : Nat) (l1 : Int) (l2 : Int) (s0 : Int) (s1 : Int) (T : gT) (Q : Option Value → gT → Prop) : Prop := gC (tP sa) lM b E d mX7_peek [.ref (b + 0)] (gI T 0 20 (zI (s1 + s0))) (fun r T34 => pI r (fun v34 => (-2147483648 ≤ v34 ∧ v34 < 2147483648) ∧ (((zD v34 = true) → gW (tP sa) lM b E (d + 1) mX7_number 57 [some (.ref (b + 0)), some (.int (zI l1)), some (.int (zI l2)), some (.int (zI 0)), some (.int (zI 0))] [] T34 Q) ∧ (¬ (zD v34 = true) → gC (tP sa) lM b E d mX7_fail [.ref (b + 0), .int (zI (vI T34 0 20))] T34 (fun r T48 => pI r (fun v48 => Q (some (.int (zI v48))) T48))))))
set_option maxRecDepth 4000 in
theorem w_X7_number_29 {sa : Nat → Nat} {b : Nat} {E : Nat × mH} {d : Nat} {l1 : Int} {l2 : Int} {s0 : Int} {s1 : Int} {T : gT} {Q : Option Value → gT → Prop} (h : f_X7_number_29 sa b E d l1 l2 s0 s1 T Q) : gW (tP sa) lM b E (d + 1) mX7_number 29 [some (.ref (b + 0)), some (.int (zI l1)), some (.int (zI l2)), none, none] [.int (zI s0), .int (zI s1), .ref (b + 0)] T Q := by
  unfold f_X7_number_29 at h
  refine g_iaddZ dX7_number_29 ?_
  refine g_putI dX7_number_30 tF_7_112 lM_0 rfl rfl ⟨rfl, rfl⟩ rfl ?_
  refine g_aload_n dX7_number_33 rfl ?_
  refine g_callV [.ref (b + 0)] [] dX7_number_34 tG_7_118 tM_116 lM_0 rfl rfl rfl rfl (by decide) rfl ?_
  refine gC.mono h (Nat.le_refl _) ?_
  rintro _ T34 ⟨v34, rfl, h⟩
  obtain ⟨a1, h⟩ := h
  refine g_callS [.int (zI v34)] [] dX7_number_37 tG_7_133 tM_121 rfl rfl rfl rfl (by decide) ?_
  refine gC.mono (c_zD sa b E _ _ a1) (Nat.le_refl _) ?_
  rintro _ _ ⟨rfl, h9⟩
  obtain rfl := h9.symm
  refine g_if_neB dX7_number_40 rfl (fun c40 => ?_) (fun c40 => ?_)
  · replace h := h.1 c40
    refine g_iconst (v := zI 0) dX7_number_52 (by decide) ?_
    refine g_istore_n (L' := [some (.ref (b + 0)), some (.int (zI l1)), some (.int (zI l2)), some (.int (zI 0)), none]) dX7_number_53 rfl ?_
    refine g_iconst (v := zI 0) dX7_number_54 (by decide) ?_
    refine g_istore (L' := [some (.ref (b + 0)), some (.int (zI l1)), some (.int (zI l2)), some (.int (zI 0)), some (.int (zI 0))]) dX7_number_55 rfl ?_
    exact h
  · replace h := h.2 c40
    refine g_aload_n dX7_number_43 rfl ?_
    refine g_aload_n dX7_number_44 rfl ?_
    refine g_getZ (v := vI T34 0 20) dX7_number_45 tF_7_112 lM_0 rfl (zI_v T34 0 20) ?_
    refine g_callV [.ref (b + 0), .int (zI (vI T34 0 20))] [] dX7_number_48 tG_7_151 tM_119 lM_0 rfl rfl rfl rfl (by decide) rfl ?_
    refine gC.mono h (Nat.le_refl _) ?_
    rintro _ T48 ⟨v48, rfl, h⟩
    exact g_iret dX7_number_51 rfl rfl h
def f_X7_number_57 (sa : Nat → Nat) (b : Nat) (E : Nat × mH) (d : Nat) (l1 : Int) (l2 : Int) (l3 : Int) (l4 : Int) (T : gT) (Q : Option Value → gT → Prop) : Prop := (-2147483648 ≤ l4 ∧ l4 < 2147483648) ∧ ((6 ≤ l4 → gW (tP sa) lM b E (d + 1) mX7_number 103 [some (.ref (b + 0)), some (.int (zI l1)), some (.int (zI l2)), some (.int (zI l3)), some (.int (zI l4))] [] T Q) ∧ (¬ 6 ≤ l4 → gC (tP sa) lM b E d mX7_peek [.ref (b + 0)] T (fun r T65 => pI r (fun v65 => (-2147483648 ≤ v65 ∧ v65 < 2147483648) ∧ ((¬ (zD v65 = true) → gW (tP sa) lM b E (d + 1) mX7_number 103 [some (.ref (b + 0)), some (.int (zI l1)), some (.int (zI l2)), some (.int (zI l3)), some (.int (zI l4))] [] T65 Q) ∧ ((zD v65 = true) → gC (tP sa) lM b E d mX7_peek [.ref (b + 0)] T65 (fun r T79 => pI r (fun v79 => gW (tP sa) lM b E (d + 1) mX7_number 57 [some (.ref (b + 0)), some (.int (zI l1)), some (.int (zI l2)), some (.int (zI (((10 * l3) + v79) - 48))), some (.int (zI (l4 + 1)))] [] (gI T79 0 20 (zI ((vI T79 0 20) + 1))) Q))))))))
set_option maxRecDepth 4000 in
theorem w_X7_number_57 {sa : Nat → Nat} {b : Nat} {E : Nat × mH} {d : Nat} {l1 : Int} {l2 : Int} {l3 : Int} {l4 : Int} {T : gT} {Q : Option Value → gT → Prop} (h : f_X7_number_57 sa b E d l1 l2 l3 l4 T Q) : gW (tP sa) lM b E (d + 1) mX7_number 57 [some (.ref (b + 0)), some (.int (zI l1)), some (.int (zI l2)), some (.int (zI l3)), some (.int (zI l4))] [] T Q := by
  unfold f_X7_number_57 at h
  refine g_iload dX7_number_57 rfl ?_
  refine g_bipush (v := zI 6) dX7_number_59 (by decide) ?_
  obtain ⟨a1, h⟩ := h
  refine g_icmp_geZ dX7_number_61 rfl a1 (by decide) (fun c61 => ?_) (fun c61 => ?_)
  · replace h := h.1 c61
    exact h
  · replace h := h.2 c61
    refine g_aload_n dX7_number_64 rfl ?_
    refine g_callV [.ref (b + 0)] [] dX7_number_65 tG_7_118 tM_116 lM_0 rfl rfl rfl rfl (by decide) rfl ?_
    refine gC.mono h (Nat.le_refl _) ?_
    rintro _ T65 ⟨v65, rfl, h⟩
    obtain ⟨a2, h⟩ := h
    refine g_callS [.int (zI v65)] [] dX7_number_68 tG_7_133 tM_121 rfl rfl rfl rfl (by decide) ?_
    refine gC.mono (c_zD sa b E _ _ a2) (Nat.le_refl _) ?_
    rintro _ _ ⟨rfl, h9⟩
    obtain rfl := h9.symm
    refine g_if_eqB dX7_number_71 rfl (fun c71 => ?_) (fun c71 => ?_)
    · replace h := h.1 c71
      exact h
    · replace h := h.2 c71
      refine g_bipush (v := zI 10) dX7_number_74 (by decide) ?_
      refine g_iload_n dX7_number_76 rfl ?_
      refine g_imulZ dX7_number_77 ?_
      refine g_aload_n dX7_number_78 rfl ?_
      refine g_callV [.ref (b + 0)] [.int (zI (10 * l3))] dX7_number_79 tG_7_118 tM_116 lM_0 rfl rfl rfl rfl (by decide) rfl ?_
      refine gC.mono h (Nat.le_refl _) ?_
      rintro _ T79 ⟨v79, rfl, h⟩
      refine g_iaddZ dX7_number_82 ?_
      refine g_bipush (v := zI 48) dX7_number_83 (by decide) ?_
      refine g_isubZ dX7_number_85 ?_
      refine g_istore_n (L' := [some (.ref (b + 0)), some (.int (zI l1)), some (.int (zI l2)), some (.int (zI (((10 * l3) + v79) - 48))), some (.int (zI l4))]) dX7_number_86 rfl ?_
      refine g_aload_n dX7_number_87 rfl ?_
      refine g_dup dX7_number_88 rfl ?_
      refine g_getZ (v := vI T79 0 20) dX7_number_89 tF_7_112 lM_0 rfl (zI_v T79 0 20) ?_
      refine g_iconst (v := zI 1) dX7_number_92 (by decide) ?_
      refine g_iaddZ dX7_number_93 ?_
      refine g_putI dX7_number_94 tF_7_112 lM_0 rfl rfl ⟨rfl, rfl⟩ rfl ?_
      refine g_iinc (x := zI l4) (v := zI (l4 + 1)) (L' := [some (.ref (b + 0)), some (.int (zI l1)), some (.int (zI l2)), some (.int (zI (((10 * l3) + v79) - 48))), some (.int (zI (l4 + 1)))]) dX7_number_97 rfl (zI_add _ _) rfl ?_
      refine g_goto dX7_number_100 rfl ?_
      exact h
def f_X7_number_103 (sa : Nat → Nat) (b : Nat) (E : Nat × mH) (d : Nat) (l1 : Int) (l2 : Int) (l3 : Int) (l4 : Int) (T : gT) (Q : Option Value → gT → Prop) : Prop := gC (tP sa) lM b E d mX7_peek [.ref (b + 0)] T (fun r T104 => pI r (fun v104 => (-2147483648 ≤ v104 ∧ v104 < 2147483648) ∧ ((¬ (zD v104 = true) → (-2147483648 ≤ l2 ∧ l2 < 2147483648) ∧ ((l2 = 0 → gC (tP sa) lM b E d mX7_begin [.ref (b + 0), .int (zI (1 - (vI T104 0 3))), .int (zI 1), .int (zI l3), .int (zI l1)] T104 (fun r T143 => pI r (fun v143 => Q (some (.int (zI v143))) T143))) ∧ (¬ l2 = 0 → gC (tP sa) lM b E d mX7_begin [.ref (b + 0), .int (zI (1 - (vI T104 0 3))), .int (zI 1), .int (zI (-l3)), .int (zI l1)] T104 (fun r T143 => pI r (fun v143 => Q (some (.int (zI v143))) T143))))) ∧ ((zD v104 = true) → gC (tP sa) lM b E d mX7_fail [.ref (b + 0), .int (zI (vI T104 0 20))] T104 (fun r T118 => pI r (fun v118 => Q (some (.int (zI v118))) T118))))))
set_option maxRecDepth 4000 in
theorem w_X7_number_103 {sa : Nat → Nat} {b : Nat} {E : Nat × mH} {d : Nat} {l1 : Int} {l2 : Int} {l3 : Int} {l4 : Int} {T : gT} {Q : Option Value → gT → Prop} (h : f_X7_number_103 sa b E d l1 l2 l3 l4 T Q) : gW (tP sa) lM b E (d + 1) mX7_number 103 [some (.ref (b + 0)), some (.int (zI l1)), some (.int (zI l2)), some (.int (zI l3)), some (.int (zI l4))] [] T Q := by
  unfold f_X7_number_103 at h
  refine g_aload_n dX7_number_103 rfl ?_
  refine g_callV [.ref (b + 0)] [] dX7_number_104 tG_7_118 tM_116 lM_0 rfl rfl rfl rfl (by decide) rfl ?_
  refine gC.mono h (Nat.le_refl _) ?_
  rintro _ T104 ⟨v104, rfl, h⟩
  obtain ⟨a1, h⟩ := h
  refine g_callS [.int (zI v104)] [] dX7_number_107 tG_7_133 tM_121 rfl rfl rfl rfl (by decide) ?_
  refine gC.mono (c_zD sa b E _ _ a1) (Nat.le_refl _) ?_
  rintro _ _ ⟨rfl, h9⟩
  obtain rfl := h9.symm
  refine g_if_eqB dX7_number_110 rfl (fun c110 => ?_) (fun c110 => ?_)
  · replace h := h.1 c110
    refine g_aload_n dX7_number_124 rfl ?_
    refine g_iconst (v := zI 1) dX7_number_125 (by decide) ?_
    refine g_aload_n dX7_number_126 rfl ?_
    refine g_getZ (v := vI T104 0 3) dX7_number_127 tF_7_101 lM_0 rfl (zI_v T104 0 3) ?_
    refine g_isubZ dX7_number_130 ?_
    refine g_iconst (v := zI 1) dX7_number_131 (by decide) ?_
    refine g_iload_n dX7_number_132 rfl ?_
    obtain ⟨a2, h⟩ := h
    refine g_if_eqZ dX7_number_133 rfl a2  (fun c133 => ?_) (fun c133 => ?_)
    · replace h := h.1 c133
      refine g_iload_n dX7_number_141 rfl ?_
      refine g_iload_n dX7_number_142 rfl ?_
      refine g_callV [.ref (b + 0), .int (zI (1 - (vI T104 0 3))), .int (zI 1), .int (zI l3), .int (zI l1)] [] dX7_number_143 tG_7_161 tM_115 lM_0 rfl rfl rfl rfl (by decide) rfl ?_
      refine gC.mono h (Nat.le_refl _) ?_
      rintro _ T143 ⟨v143, rfl, h⟩
      exact g_iret dX7_number_146 rfl rfl h
    · replace h := h.2 c133
      refine g_iload_n dX7_number_136 rfl ?_
      refine g_inegZ dX7_number_137 ?_
      refine g_goto dX7_number_138 rfl ?_
      refine g_iload_n dX7_number_142 rfl ?_
      refine g_callV [.ref (b + 0), .int (zI (1 - (vI T104 0 3))), .int (zI 1), .int (zI (-l3)), .int (zI l1)] [] dX7_number_143 tG_7_161 tM_115 lM_0 rfl rfl rfl rfl (by decide) rfl ?_
      refine gC.mono h (Nat.le_refl _) ?_
      rintro _ T143 ⟨v143, rfl, h⟩
      exact g_iret dX7_number_146 rfl rfl h
  · replace h := h.2 c110
    refine g_aload_n dX7_number_113 rfl ?_
    refine g_aload_n dX7_number_114 rfl ?_
    refine g_getZ (v := vI T104 0 20) dX7_number_115 tF_7_112 lM_0 rfl (zI_v T104 0 20) ?_
    refine g_callV [.ref (b + 0), .int (zI (vI T104 0 20))] [] dX7_number_118 tG_7_151 tM_119 lM_0 rfl rfl rfl rfl (by decide) rfl ?_
    refine gC.mono h (Nat.le_refl _) ?_
    rintro _ T118 ⟨v118, rfl, h⟩
    refine g_goto dX7_number_121 rfl ?_
    exact g_iret dX7_number_146 rfl rfl h
def f_X7_change (sa : Nat → Nat) (b : Nat) (E : Nat × mH) (d : Nat) (T : gT) (Q : Option Value → gT → Prop) : Prop := gW (tP sa) lM b E (d + 1 + 1) mX7_change 37 [some (.ref (b + 0)), some (.int (zI 0)), none, none, none] [] (gI (gJ (gI (gI (gI (gI T 0 3 (zI (1 - (vI T 0 3)))) 0 4 (zI 1)) 0 16 (zI 0)) 0 17 (zI 0)) 0 18 0) 0 8 (zI 0)) Q
set_option maxRecDepth 4000 in
theorem w_X7_change {sa : Nat → Nat} {b : Nat} {E : Nat × mH} {d : Nat} {T : gT} {Q : Option Value → gT → Prop} (h : f_X7_change sa b E d T Q) : gC (tP sa) lM b E (d + 1 + 1) mX7_change [.ref (b + 0)] T Q := by
  unfold f_X7_change at h
  refine ⟨Nat.le_of_ble_eq_true rfl, ?_⟩
  show gW (tP sa) lM b E (d + 1 + 1) mX7_change 0 [some (.ref (b + 0)), none, none, none, none] [] T Q
  refine g_aload_n dX7_change_0 rfl ?_
  refine g_iconst (v := zI 1) dX7_change_1 (by decide) ?_
  refine g_aload_n dX7_change_2 rfl ?_
  refine g_getZ (v := vI T 0 3) dX7_change_3 tF_7_101 lM_0 rfl (zI_v T 0 3) ?_
  refine g_isubZ dX7_change_6 ?_
  refine g_putI dX7_change_7 tF_7_101 lM_0 rfl rfl ⟨rfl, rfl⟩ rfl ?_
  refine g_aload_n dX7_change_10 rfl ?_
  refine g_iconst (v := zI 1) dX7_change_11 (by decide) ?_
  refine g_putI dX7_change_12 tF_7_203 lM_0 rfl rfl ⟨rfl, rfl⟩ rfl ?_
  refine g_aload_n dX7_change_15 rfl ?_
  refine g_iconst (v := zI 0) dX7_change_16 (by decide) ?_
  refine g_putI dX7_change_17 tF_7_206 lM_0 rfl rfl ⟨rfl, rfl⟩ rfl ?_
  refine g_aload_n dX7_change_20 rfl ?_
  refine g_iconst (v := zI 0) dX7_change_21 (by decide) ?_
  refine g_putI dX7_change_22 tF_7_209 lM_0 rfl rfl ⟨rfl, rfl⟩ rfl ?_
  refine g_aload_n dX7_change_25 rfl ?_
  refine g_lconst (v := 0) dX7_change_26 (by decide) ?_
  refine g_putJ dX7_change_27 tF_7_212 lM_0 rfl rfl rfl ?_
  refine g_aload_n dX7_change_30 rfl ?_
  refine g_iconst (v := zI 0) dX7_change_31 (by decide) ?_
  refine g_putI dX7_change_32 tF_7_216 lM_0 rfl rfl ⟨rfl, rfl⟩ rfl ?_
  refine g_iconst (v := zI 0) dX7_change_35 (by decide) ?_
  refine g_istore_n (L' := [some (.ref (b + 0)), some (.int (zI 0)), none, none, none]) dX7_change_36 rfl ?_
  exact h
def f_X7_change_37 (sa : Nat → Nat) (b : Nat) (E : Nat × mH) (d : Nat) (l1 : Int) (T : gT) (Q : Option Value → gT → Prop) : Prop := (-2147483648 ≤ l1 ∧ l1 < 2147483648) ∧ ((100 ≤ l1 → gW (tP sa) lM b E (d + 1 + 1) mX7_change 58 [some (.ref (b + 0)), some (.int (zI 0)), none, none, none] [] T Q) ∧ (¬ 100 ≤ l1 → 0 ≤ l1 ∧ l1 < 100 ∧ gW (tP sa) lM b E (d + 1 + 1) mX7_change 37 [some (.ref (b + 0)), some (.int (zI (l1 + 1))), none, none, none] [] (gI T 8 l1.toNat (zI 0)) Q))
set_option maxRecDepth 4000 in
theorem w_X7_change_37 {sa : Nat → Nat} {b : Nat} {E : Nat × mH} {d : Nat} {l1 : Int} {T : gT} {Q : Option Value → gT → Prop} (h : f_X7_change_37 sa b E d l1 T Q) : gW (tP sa) lM b E (d + 1 + 1) mX7_change 37 [some (.ref (b + 0)), some (.int (zI l1)), none, none, none] [] T Q := by
  unfold f_X7_change_37 at h
  refine g_iload_n dX7_change_37 rfl ?_
  refine g_bipush (v := zI 100) dX7_change_38 (by decide) ?_
  obtain ⟨a1, h⟩ := h
  refine g_icmp_geZ dX7_change_40 rfl a1 (by decide) (fun c40 => ?_) (fun c40 => ?_)
  · replace h := h.1 c40
    refine g_iconst (v := zI 0) dX7_change_56 (by decide) ?_
    refine g_istore_n (L' := [some (.ref (b + 0)), some (.int (zI 0)), none, none, none]) dX7_change_57 rfl ?_
    exact h
  · replace h := h.2 c40
    refine g_aload_n dX7_change_43 rfl ?_
    refine g_getR dX7_change_44 tF_7_32 lM_0 rfl ?_
    refine g_iload_n dX7_change_47 rfl ?_
    refine g_iconst (v := zI 0) dX7_change_48 (by decide) ?_
    obtain ⟨a2, h⟩ := h
    obtain ⟨a3, h⟩ := h
    refine g_iastZ dX7_change_49 lM_8 a2 a3 (by decide) ?_
    refine g_iinc (x := zI l1) (v := zI (l1 + 1)) (L' := [some (.ref (b + 0)), some (.int (zI (l1 + 1))), none, none, none]) dX7_change_50 rfl (zI_add _ _) rfl ?_
    refine g_goto dX7_change_53 rfl ?_
    exact h
def f_X7_change_58 (sa : Nat → Nat) (b : Nat) (E : Nat × mH) (d : Nat) (l1 : Int) (T : gT) (Q : Option Value → gT → Prop) : Prop := 0 ≤ vI T 0 3 ∧ vI T 0 3 < 2 ∧ (-2147483648 ≤ l1 ∧ l1 < 2147483648) ∧ (((vI T 2 (vI T 0 3).toNat) ≤ l1 → gC (tP sa) lM b E (d + 1) mX7_findFlows [.ref (b + 0)] T (fun r T215 => pV r (Q none T215))) ∧ (¬ (vI T 2 (vI T 0 3).toNat) ≤ l1 → (vI T 0 3 = 0 ∨ vI T 0 3 = 1) ∧ (0 ≤ l1 ∧ l1 < 200) ∧ (((cV T (vI T 0 3).toNat l1.toNat 0) = 2 → gW (tP sa) lM b E (d + 1 + 1) mX7_change 88 [some (.ref (b + 0)), some (.int (zI l1)), some (.int (zI (cV T (vI T 0 3).toNat l1.toNat 0))), none, none] [] T Q) ∧ (¬ (cV T (vI T 0 3).toNat l1.toNat 0) = 2 → ((¬ (cV T (vI T 0 3).toNat l1.toNat 0) = 3 → gW (tP sa) lM b E (d + 1 + 1) mX7_change 93 [some (.ref (b + 0)), some (.int (zI l1)), some (.int (zI (cV T (vI T 0 3).toNat l1.toNat 0))), none, none] [.int (zI 0)] T Q) ∧ ((cV T (vI T 0 3).toNat l1.toNat 0) = 3 → gW (tP sa) lM b E (d + 1 + 1) mX7_change 88 [some (.ref (b + 0)), some (.int (zI l1)), some (.int (zI (cV T (vI T 0 3).toNat l1.toNat 0))), none, none] [] T Q))))))
set_option maxRecDepth 4000 in
theorem w_X7_change_58 {sa : Nat → Nat} {b : Nat} {E : Nat × mH} {d : Nat} {l1 : Int} {T : gT} {Q : Option Value → gT → Prop} (h : f_X7_change_58 sa b E d l1 T Q) : gW (tP sa) lM b E (d + 1 + 1) mX7_change 58 [some (.ref (b + 0)), some (.int (zI l1)), none, none, none] [] T Q := by
  unfold f_X7_change_58 at h
  refine g_iload_n dX7_change_58 rfl ?_
  refine g_aload_n dX7_change_59 rfl ?_
  refine g_getR dX7_change_60 tF_7_13 lM_0 rfl ?_
  refine g_aload_n dX7_change_63 rfl ?_
  refine g_getZ (v := vI T 0 3) dX7_change_64 tF_7_101 lM_0 rfl (zI_v T 0 3) ?_
  obtain ⟨a1, h⟩ := h
  obtain ⟨a2, h⟩ := h
  refine g_ialdZ (v := vI T 2 (vI T 0 3).toNat) dX7_change_67 lM_2 a1 a2 (by decide) (zI_v T 2 (vI T 0 3).toNat) ?_
  obtain ⟨a3, h⟩ := h
  refine g_icmp_geZ dX7_change_68 rfl a3 ⟨vI_lo _ _ _, vI_hi _ _ _⟩ (fun c68 => ?_) (fun c68 => ?_)
  · replace h := h.1 c68
    refine g_aload_n dX7_change_214 rfl ?_
    refine g_callV [.ref (b + 0)] [] dX7_change_215 tG_7_222 tM_134 lM_0 rfl rfl rfl rfl (by decide) rfl ?_
    refine gC.mono h (Nat.le_refl _) ?_
    rintro _ T215 ⟨rfl, h⟩
    exact g_vret dX7_change_218 rfl h
  · replace h := h.2 c68
    refine g_aload_n dX7_change_71 rfl ?_
    refine g_iload_n dX7_change_72 rfl ?_
    refine g_iconst (v := zI 0) dX7_change_73 (by decide) ?_
    obtain ⟨a4, h⟩ := h
    obtain ⟨a5, h⟩ := h
    refine g_callV [.ref (b + 0), .int (zI l1), .int (zI 0)] [] dX7_change_74 tG_7_219 tM_113 lM_0 rfl rfl rfl rfl (by decide) rfl ?_
    refine gC.mono (c_getZ sa b E d _ (n := vI T 0 3) (by first | exact (zI_v _ _ _).symm | rfl) a4 a5 (by decide)) (Nat.le_refl _) ?_
    rintro _ _ ⟨rfl, h9⟩
    obtain rfl := h9.symm
    refine g_istore_n (L' := [some (.ref (b + 0)), some (.int (zI l1)), some (.int (zI (cV T (vI T 0 3).toNat l1.toNat 0))), none, none]) dX7_change_77 rfl ?_
    refine g_iload_n dX7_change_78 rfl ?_
    refine g_iconst (v := zI 2) dX7_change_79 (by decide) ?_
    refine g_icmp_eqZ dX7_change_80 rfl ⟨vI_lo _ _ _, vI_hi _ _ _⟩ (by decide) (fun c80 => ?_) (fun c80 => ?_)
    · replace h := h.1 c80
      exact h
    · replace h := h.2 c80
      refine g_iload_n dX7_change_83 rfl ?_
      refine g_iconst (v := zI 3) dX7_change_84 (by decide) ?_
      refine g_icmp_neZ dX7_change_85 rfl ⟨vI_lo _ _ _, vI_hi _ _ _⟩ (by decide) (fun c85 => ?_) (fun c85 => ?_)
      · replace h := h.1 c85
        refine g_iconst (v := zI 0) dX7_change_92 (by decide) ?_
        exact h
      · replace h := h.2 c85
        exact h
def f_X7_change_88 (sa : Nat → Nat) (b : Nat) (E : Nat × mH) (d : Nat) (l1 : Int) (l2 : Int) (T : gT) (Q : Option Value → gT → Prop) : Prop := gW (tP sa) lM b E (d + 1 + 1) mX7_change 93 [some (.ref (b + 0)), some (.int (zI l1)), some (.int (zI l2)), none, none] [.int (zI 1)] T Q
set_option maxRecDepth 4000 in
theorem w_X7_change_88 {sa : Nat → Nat} {b : Nat} {E : Nat × mH} {d : Nat} {l1 : Int} {l2 : Int} {T : gT} {Q : Option Value → gT → Prop} (h : f_X7_change_88 sa b E d l1 l2 T Q) : gW (tP sa) lM b E (d + 1 + 1) mX7_change 88 [some (.ref (b + 0)), some (.int (zI l1)), some (.int (zI l2)), none, none] [] T Q := by
  unfold f_X7_change_88 at h
  refine g_iconst (v := zI 1) dX7_change_88 (by decide) ?_
  refine g_goto dX7_change_89 rfl ?_
  exact h
def f_X7_change_93 (sa : Nat → Nat) (b : Nat) (E : Nat × mH) (d : Nat) (l1 : Int) (l2 : Int) (s0 : Int) (T : gT) (Q : Option Value → gT → Prop) : Prop := (-2147483648 ≤ s0 ∧ s0 < 2147483648) ∧ ((s0 = 0 → gW (tP sa) lM b E (d + 1 + 1) mX7_change 111 [some (.ref (b + 0)), some (.int (zI l1)), some (.int (zI l2)), some (.int (zI s0)), none] [.int (zI (-1)), .int (zI l1), .ref (b + 5)] T Q) ∧ (¬ s0 = 0 → gW (tP sa) lM b E (d + 1 + 1) mX7_change 111 [some (.ref (b + 0)), some (.int (zI l1)), some (.int (zI l2)), some (.int (zI s0)), none] [.int (zI (vI T 0 8)), .int (zI l1), .ref (b + 5)] T Q))
set_option maxRecDepth 4000 in
theorem w_X7_change_93 {sa : Nat → Nat} {b : Nat} {E : Nat × mH} {d : Nat} {l1 : Int} {l2 : Int} {s0 : Int} {T : gT} {Q : Option Value → gT → Prop} (h : f_X7_change_93 sa b E d l1 l2 s0 T Q) : gW (tP sa) lM b E (d + 1 + 1) mX7_change 93 [some (.ref (b + 0)), some (.int (zI l1)), some (.int (zI l2)), none, none] [.int (zI s0)] T Q := by
  unfold f_X7_change_93 at h
  refine g_istore_n (L' := [some (.ref (b + 0)), some (.int (zI l1)), some (.int (zI l2)), some (.int (zI s0)), none]) dX7_change_93 rfl ?_
  refine g_aload_n dX7_change_94 rfl ?_
  refine g_getR dX7_change_95 tF_7_23 lM_0 rfl ?_
  refine g_iload_n dX7_change_98 rfl ?_
  refine g_iload_n dX7_change_99 rfl ?_
  obtain ⟨a1, h⟩ := h
  refine g_if_eqZ dX7_change_100 rfl a1  (fun c100 => ?_) (fun c100 => ?_)
  · replace h := h.1 c100
    refine g_iconst (v := zI (-1)) dX7_change_110 (by decide) ?_
    exact h
  · replace h := h.2 c100
    refine g_aload_n dX7_change_103 rfl ?_
    refine g_getZ (v := vI T 0 8) dX7_change_104 tF_7_216 lM_0 rfl (zI_v T 0 8) ?_
    refine g_goto dX7_change_107 rfl ?_
    exact h
def f_X7_change_111 (sa : Nat → Nat) (b : Nat) (E : Nat × mH) (d : Nat) (l1 : Int) (l2 : Int) (l3 : Int) (s0 : Int) (s1 : Int) (T : gT) (Q : Option Value → gT → Prop) : Prop := 0 ≤ s1 ∧ s1 < 200 ∧ (-2147483648 ≤ l3 ∧ l3 < 2147483648) ∧ ((l3 = 0 → gW (tP sa) lM b E (d + 1 + 1) mX7_change 136 [some (.ref (b + 0)), some (.int (zI l1)), some (.int (zI l2)), some (.int (zI l3)), none] [] (gI T 5 s1.toNat (zI s0)) Q) ∧ (¬ l3 = 0 → 0 ≤ vI T 0 8 ∧ vI T 0 8 < 50 ∧ gW (tP sa) lM b E (d + 1 + 1) mX7_change 136 [some (.ref (b + 0)), some (.int (zI l1)), some (.int (zI l2)), some (.int (zI l3)), none] [] (gI (gI (gI T 5 s1.toNat (zI s0)) 6 (vI T 0 8).toNat (zI l1)) 0 8 (zI ((vI T 0 8) + 1))) Q))
set_option maxRecDepth 4000 in
theorem w_X7_change_111 {sa : Nat → Nat} {b : Nat} {E : Nat × mH} {d : Nat} {l1 : Int} {l2 : Int} {l3 : Int} {s0 : Int} {s1 : Int} {T : gT} {Q : Option Value → gT → Prop} (h : f_X7_change_111 sa b E d l1 l2 l3 s0 s1 T Q) : gW (tP sa) lM b E (d + 1 + 1) mX7_change 111 [some (.ref (b + 0)), some (.int (zI l1)), some (.int (zI l2)), some (.int (zI l3)), none] [.int (zI s0), .int (zI s1), .ref (b + 5)] T Q := by
  unfold f_X7_change_111 at h
  obtain ⟨a1, h⟩ := h
  obtain ⟨a2, h⟩ := h
  refine g_iastZ dX7_change_111 lM_5 a1 a2 (by decide) ?_
  refine g_iload_n dX7_change_112 rfl ?_
  obtain ⟨a3, h⟩ := h
  refine g_if_eqZ dX7_change_113 rfl a3  (fun c113 => ?_) (fun c113 => ?_)
  · replace h := h.1 c113
    exact h
  · replace h := h.2 c113
    refine g_aload_n dX7_change_116 rfl ?_
    refine g_getR dX7_change_117 tF_7_26 lM_0 rfl ?_
    refine g_aload_n dX7_change_120 rfl ?_
    refine g_getZ (v := vI T 0 8) dX7_change_121 tF_7_216 lM_0 rfl (zI_v T 0 8) ?_
    refine g_iload_n dX7_change_124 rfl ?_
    obtain ⟨a4, h⟩ := h
    obtain ⟨a5, h⟩ := h
    refine g_iastZ dX7_change_125 lM_6 a4 a5 (by decide) ?_
    refine g_aload_n dX7_change_126 rfl ?_
    refine g_dup dX7_change_127 rfl ?_
    refine g_getZ (v := vI T 0 8) dX7_change_128 tF_7_216 lM_0 rfl (zI_v T 0 8) ?_
    refine g_iconst (v := zI 1) dX7_change_131 (by decide) ?_
    refine g_iaddZ dX7_change_132 ?_
    refine g_putI dX7_change_133 tF_7_216 lM_0 rfl rfl ⟨rfl, rfl⟩ rfl ?_
    exact h
def f_X7_change_136 (sa : Nat → Nat) (b : Nat) (E : Nat × mH) (d : Nat) (l1 : Int) (l2 : Int) (l3 : Int) (T : gT) (Q : Option Value → gT → Prop) : Prop := (-2147483648 ≤ l2 ∧ l2 < 2147483648) ∧ ((¬ l2 = 0 → gW (tP sa) lM b E (d + 1 + 1) mX7_change 155 [some (.ref (b + 0)), some (.int (zI l1)), some (.int (zI l2)), some (.int (zI l3)), none] [] T Q) ∧ (l2 = 0 → (vI T 0 3 = 0 ∨ vI T 0 3 = 1) ∧ (0 ≤ l1 ∧ l1 < 200) ∧ 0 ≤ cV T (vI T 0 3).toNat l1.toNat 1 ∧ cV T (vI T 0 3).toNat l1.toNat 1 < 100 ∧ gW (tP sa) lM b E (d + 1 + 1) mX7_change 155 [some (.ref (b + 0)), some (.int (zI l1)), some (.int (zI l2)), some (.int (zI l3)), none] [] (gI T 8 (cV T (vI T 0 3).toNat l1.toNat 1).toNat (zI ((vI T 8 (cV T (vI T 0 3).toNat l1.toNat 1).toNat) + 1))) Q))
set_option maxRecDepth 4000 in
theorem w_X7_change_136 {sa : Nat → Nat} {b : Nat} {E : Nat × mH} {d : Nat} {l1 : Int} {l2 : Int} {l3 : Int} {T : gT} {Q : Option Value → gT → Prop} (h : f_X7_change_136 sa b E d l1 l2 l3 T Q) : gW (tP sa) lM b E (d + 1 + 1) mX7_change 136 [some (.ref (b + 0)), some (.int (zI l1)), some (.int (zI l2)), some (.int (zI l3)), none] [] T Q := by
  unfold f_X7_change_136 at h
  refine g_iload_n dX7_change_136 rfl ?_
  obtain ⟨a1, h⟩ := h
  refine g_if_neZ dX7_change_137 rfl a1  (fun c137 => ?_) (fun c137 => ?_)
  · replace h := h.1 c137
    exact h
  · replace h := h.2 c137
    refine g_aload_n dX7_change_140 rfl ?_
    refine g_getR dX7_change_141 tF_7_32 lM_0 rfl ?_
    refine g_aload_n dX7_change_144 rfl ?_
    refine g_iload_n dX7_change_145 rfl ?_
    refine g_iconst (v := zI 1) dX7_change_146 (by decide) ?_
    obtain ⟨a2, h⟩ := h
    obtain ⟨a3, h⟩ := h
    refine g_callV [.ref (b + 0), .int (zI l1), .int (zI 1)] [.ref (b + 8)] dX7_change_147 tG_7_219 tM_113 lM_0 rfl rfl rfl rfl (by decide) rfl ?_
    refine gC.mono (c_getZ sa b E d _ (n := vI T 0 3) (by first | exact (zI_v _ _ _).symm | rfl) a2 a3 (by decide)) (Nat.le_refl _) ?_
    rintro _ _ ⟨rfl, h9⟩
    obtain rfl := h9.symm
    refine g_dup2 dX7_change_150 rfl rfl ?_
    obtain ⟨a4, h⟩ := h
    obtain ⟨a5, h⟩ := h
    refine g_ialdZ (v := vI T 8 (cV T (vI T 0 3).toNat l1.toNat 1).toNat) dX7_change_151 lM_8 a4 a5 (by decide) (zI_v T 8 (cV T (vI T 0 3).toNat l1.toNat 1).toNat) ?_
    refine g_iconst (v := zI 1) dX7_change_152 (by decide) ?_
    refine g_iaddZ dX7_change_153 ?_
    refine g_iastZ dX7_change_154 lM_8 a4 a5 (by decide) ?_
    exact h
def f_X7_change_155 (sa : Nat → Nat) (b : Nat) (E : Nat × mH) (d : Nat) (l1 : Int) (l2 : Int) (l3 : Int) (T : gT) (Q : Option Value → gT → Prop) : Prop := (vI T 0 3 = 0 ∨ vI T 0 3 = 1) ∧ (0 ≤ l1 ∧ l1 < 200) ∧ ((¬ (cV T (vI T 0 3).toNat l1.toNat 6) = (-1) → 0 ≤ cV T (vI T 0 3).toNat l1.toNat 6 ∧ cV T (vI T 0 3).toNat l1.toNat 6 < 200 ∧ (((vI T 5 (cV T (vI T 0 3).toNat l1.toNat 6).toNat) = (-1) → 0 ≤ l1 ∧ l1 < 200 ∧ gW (tP sa) lM b E (d + 1 + 1) mX7_change 58 [some (.ref (b + 0)), some (.int (zI (l1 + 1))), some (.int (zI l2)), some (.int (zI l3)), some (.int (zI (cV T (vI T 0 3).toNat l1.toNat 6)))] [] (gI T 7 l1.toNat (zI (vI T 7 (cV T (vI T 0 3).toNat l1.toNat 6).toNat))) Q) ∧ (¬ (vI T 5 (cV T (vI T 0 3).toNat l1.toNat 6).toNat) = (-1) → 0 ≤ l1 ∧ l1 < 200 ∧ gW (tP sa) lM b E (d + 1 + 1) mX7_change 58 [some (.ref (b + 0)), some (.int (zI (l1 + 1))), some (.int (zI l2)), some (.int (zI l3)), some (.int (zI (cV T (vI T 0 3).toNat l1.toNat 6)))] [] (gI T 7 l1.toNat (zI (vI T 5 (cV T (vI T 0 3).toNat l1.toNat 6).toNat))) Q))) ∧ ((cV T (vI T 0 3).toNat l1.toNat 6) = (-1) → 0 ≤ l1 ∧ l1 < 200 ∧ gW (tP sa) lM b E (d + 1 + 1) mX7_change 58 [some (.ref (b + 0)), some (.int (zI (l1 + 1))), some (.int (zI l2)), some (.int (zI l3)), some (.int (zI (cV T (vI T 0 3).toNat l1.toNat 6)))] [] (gI T 7 l1.toNat (zI (-1))) Q))
set_option maxRecDepth 4000 in
theorem w_X7_change_155 {sa : Nat → Nat} {b : Nat} {E : Nat × mH} {d : Nat} {l1 : Int} {l2 : Int} {l3 : Int} {T : gT} {Q : Option Value → gT → Prop} (h : f_X7_change_155 sa b E d l1 l2 l3 T Q) : gW (tP sa) lM b E (d + 1 + 1) mX7_change 155 [some (.ref (b + 0)), some (.int (zI l1)), some (.int (zI l2)), some (.int (zI l3)), none] [] T Q := by
  unfold f_X7_change_155 at h
  refine g_aload_n dX7_change_155 rfl ?_
  refine g_iload_n dX7_change_156 rfl ?_
  refine g_bipush (v := zI 6) dX7_change_157 (by decide) ?_
  obtain ⟨a1, h⟩ := h
  obtain ⟨a2, h⟩ := h
  refine g_callV [.ref (b + 0), .int (zI l1), .int (zI 6)] [] dX7_change_159 tG_7_219 tM_113 lM_0 rfl rfl rfl rfl (by decide) rfl ?_
  refine gC.mono (c_getZ sa b E d _ (n := vI T 0 3) (by first | exact (zI_v _ _ _).symm | rfl) a1 a2 (by decide)) (Nat.le_refl _) ?_
  rintro _ _ ⟨rfl, h9⟩
  obtain rfl := h9.symm
  refine g_istore (L' := [some (.ref (b + 0)), some (.int (zI l1)), some (.int (zI l2)), some (.int (zI l3)), some (.int (zI (cV T (vI T 0 3).toNat l1.toNat 6)))]) dX7_change_162 rfl ?_
  refine g_aload_n dX7_change_164 rfl ?_
  refine g_getR dX7_change_165 tF_7_29 lM_0 rfl ?_
  refine g_iload_n dX7_change_168 rfl ?_
  refine g_iload dX7_change_169 rfl ?_
  refine g_iconst (v := zI (-1)) dX7_change_171 (by decide) ?_
  refine g_icmp_neZ dX7_change_172 rfl ⟨vI_lo _ _ _, vI_hi _ _ _⟩ (by decide) (fun c172 => ?_) (fun c172 => ?_)
  · replace h := h.1 c172
    refine g_aload_n dX7_change_179 rfl ?_
    refine g_getR dX7_change_180 tF_7_23 lM_0 rfl ?_
    refine g_iload dX7_change_183 rfl ?_
    obtain ⟨a3, h⟩ := h
    obtain ⟨a4, h⟩ := h
    refine g_ialdZ (v := vI T 5 (cV T (vI T 0 3).toNat l1.toNat 6).toNat) dX7_change_185 lM_5 a3 a4 (by decide) (zI_v T 5 (cV T (vI T 0 3).toNat l1.toNat 6).toNat) ?_
    refine g_iconst (v := zI (-1)) dX7_change_186 (by decide) ?_
    refine g_icmp_eqZ dX7_change_187 rfl ⟨vI_lo _ _ _, vI_hi _ _ _⟩ (by decide) (fun c187 => ?_) (fun c187 => ?_)
    · replace h := h.1 c187
      refine g_aload_n dX7_change_200 rfl ?_
      refine g_getR dX7_change_201 tF_7_29 lM_0 rfl ?_
      refine g_iload dX7_change_204 rfl ?_
      refine g_ialdZ (v := vI T 7 (cV T (vI T 0 3).toNat l1.toNat 6).toNat) dX7_change_206 lM_7 a3 a4 (by decide) (zI_v T 7 (cV T (vI T 0 3).toNat l1.toNat 6).toNat) ?_
      obtain ⟨a5, h⟩ := h
      obtain ⟨a6, h⟩ := h
      refine g_iastZ dX7_change_207 lM_7 a5 a6 (by decide) ?_
      refine g_iinc (x := zI l1) (v := zI (l1 + 1)) (L' := [some (.ref (b + 0)), some (.int (zI (l1 + 1))), some (.int (zI l2)), some (.int (zI l3)), some (.int (zI (cV T (vI T 0 3).toNat l1.toNat 6)))]) dX7_change_208 rfl (zI_add _ _) rfl ?_
      refine g_goto dX7_change_211 rfl ?_
      exact h
    · replace h := h.2 c187
      refine g_aload_n dX7_change_190 rfl ?_
      refine g_getR dX7_change_191 tF_7_23 lM_0 rfl ?_
      refine g_iload dX7_change_194 rfl ?_
      refine g_ialdZ (v := vI T 5 (cV T (vI T 0 3).toNat l1.toNat 6).toNat) dX7_change_196 lM_5 a3 a4 (by decide) (zI_v T 5 (cV T (vI T 0 3).toNat l1.toNat 6).toNat) ?_
      refine g_goto dX7_change_197 rfl ?_
      obtain ⟨a7, h⟩ := h
      obtain ⟨a8, h⟩ := h
      refine g_iastZ dX7_change_207 lM_7 a7 a8 (by decide) ?_
      refine g_iinc (x := zI l1) (v := zI (l1 + 1)) (L' := [some (.ref (b + 0)), some (.int (zI (l1 + 1))), some (.int (zI l2)), some (.int (zI l3)), some (.int (zI (cV T (vI T 0 3).toNat l1.toNat 6)))]) dX7_change_208 rfl (zI_add _ _) rfl ?_
      refine g_goto dX7_change_211 rfl ?_
      exact h
  · replace h := h.2 c172
    refine g_iconst (v := zI (-1)) dX7_change_175 (by decide) ?_
    refine g_goto dX7_change_176 rfl ?_
    obtain ⟨a9, h⟩ := h
    obtain ⟨a10, h⟩ := h
    refine g_iastZ dX7_change_207 lM_7 a9 a10 (by decide) ?_
    refine g_iinc (x := zI l1) (v := zI (l1 + 1)) (L' := [some (.ref (b + 0)), some (.int (zI (l1 + 1))), some (.int (zI l2)), some (.int (zI l3)), some (.int (zI (cV T (vI T 0 3).toNat l1.toNat 6)))]) dX7_change_208 rfl (zI_add _ _) rfl ?_
    refine g_goto dX7_change_211 rfl ?_
    exact h
def f_X7_change_58b (sa : Nat → Nat) (b : Nat) (E : Nat × mH) (d : Nat) (l1 : Int) (l2 : Int) (l3 : Int) (l4 : Int) (T : gT) (Q : Option Value → gT → Prop) : Prop := 0 ≤ vI T 0 3 ∧ vI T 0 3 < 2 ∧ (-2147483648 ≤ l1 ∧ l1 < 2147483648) ∧ (((vI T 2 (vI T 0 3).toNat) ≤ l1 → gC (tP sa) lM b E (d + 1) mX7_findFlows [.ref (b + 0)] T (fun r T215 => pV r (Q none T215))) ∧ (¬ (vI T 2 (vI T 0 3).toNat) ≤ l1 → (vI T 0 3 = 0 ∨ vI T 0 3 = 1) ∧ (0 ≤ l1 ∧ l1 < 200) ∧ (((cV T (vI T 0 3).toNat l1.toNat 0) = 2 → gW (tP sa) lM b E (d + 1 + 1) mX7_change 88 [some (.ref (b + 0)), some (.int (zI l1)), some (.int (zI (cV T (vI T 0 3).toNat l1.toNat 0))), some (.int (zI l3)), some (.int (zI l4))] [] T Q) ∧ (¬ (cV T (vI T 0 3).toNat l1.toNat 0) = 2 → ((¬ (cV T (vI T 0 3).toNat l1.toNat 0) = 3 → gW (tP sa) lM b E (d + 1 + 1) mX7_change 93 [some (.ref (b + 0)), some (.int (zI l1)), some (.int (zI (cV T (vI T 0 3).toNat l1.toNat 0))), some (.int (zI l3)), some (.int (zI l4))] [.int (zI 0)] T Q) ∧ ((cV T (vI T 0 3).toNat l1.toNat 0) = 3 → gW (tP sa) lM b E (d + 1 + 1) mX7_change 88 [some (.ref (b + 0)), some (.int (zI l1)), some (.int (zI (cV T (vI T 0 3).toNat l1.toNat 0))), some (.int (zI l3)), some (.int (zI l4))] [] T Q))))))
set_option maxRecDepth 4000 in
theorem w_X7_change_58b {sa : Nat → Nat} {b : Nat} {E : Nat × mH} {d : Nat} {l1 : Int} {l2 : Int} {l3 : Int} {l4 : Int} {T : gT} {Q : Option Value → gT → Prop} (h : f_X7_change_58b sa b E d l1 l2 l3 l4 T Q) : gW (tP sa) lM b E (d + 1 + 1) mX7_change 58 [some (.ref (b + 0)), some (.int (zI l1)), some (.int (zI l2)), some (.int (zI l3)), some (.int (zI l4))] [] T Q := by
  unfold f_X7_change_58b at h
  refine g_iload_n dX7_change_58 rfl ?_
  refine g_aload_n dX7_change_59 rfl ?_
  refine g_getR dX7_change_60 tF_7_13 lM_0 rfl ?_
  refine g_aload_n dX7_change_63 rfl ?_
  refine g_getZ (v := vI T 0 3) dX7_change_64 tF_7_101 lM_0 rfl (zI_v T 0 3) ?_
  obtain ⟨a1, h⟩ := h
  obtain ⟨a2, h⟩ := h
  refine g_ialdZ (v := vI T 2 (vI T 0 3).toNat) dX7_change_67 lM_2 a1 a2 (by decide) (zI_v T 2 (vI T 0 3).toNat) ?_
  obtain ⟨a3, h⟩ := h
  refine g_icmp_geZ dX7_change_68 rfl a3 ⟨vI_lo _ _ _, vI_hi _ _ _⟩ (fun c68 => ?_) (fun c68 => ?_)
  · replace h := h.1 c68
    refine g_aload_n dX7_change_214 rfl ?_
    refine g_callV [.ref (b + 0)] [] dX7_change_215 tG_7_222 tM_134 lM_0 rfl rfl rfl rfl (by decide) rfl ?_
    refine gC.mono h (Nat.le_refl _) ?_
    rintro _ T215 ⟨rfl, h⟩
    exact g_vret dX7_change_218 rfl h
  · replace h := h.2 c68
    refine g_aload_n dX7_change_71 rfl ?_
    refine g_iload_n dX7_change_72 rfl ?_
    refine g_iconst (v := zI 0) dX7_change_73 (by decide) ?_
    obtain ⟨a4, h⟩ := h
    obtain ⟨a5, h⟩ := h
    refine g_callV [.ref (b + 0), .int (zI l1), .int (zI 0)] [] dX7_change_74 tG_7_219 tM_113 lM_0 rfl rfl rfl rfl (by decide) rfl ?_
    refine gC.mono (c_getZ sa b E d _ (n := vI T 0 3) (by first | exact (zI_v _ _ _).symm | rfl) a4 a5 (by decide)) (Nat.le_refl _) ?_
    rintro _ _ ⟨rfl, h9⟩
    obtain rfl := h9.symm
    refine g_istore_n (L' := [some (.ref (b + 0)), some (.int (zI l1)), some (.int (zI (cV T (vI T 0 3).toNat l1.toNat 0))), some (.int (zI l3)), some (.int (zI l4))]) dX7_change_77 rfl ?_
    refine g_iload_n dX7_change_78 rfl ?_
    refine g_iconst (v := zI 2) dX7_change_79 (by decide) ?_
    refine g_icmp_eqZ dX7_change_80 rfl ⟨vI_lo _ _ _, vI_hi _ _ _⟩ (by decide) (fun c80 => ?_) (fun c80 => ?_)
    · replace h := h.1 c80
      exact h
    · replace h := h.2 c80
      refine g_iload_n dX7_change_83 rfl ?_
      refine g_iconst (v := zI 3) dX7_change_84 (by decide) ?_
      refine g_icmp_neZ dX7_change_85 rfl ⟨vI_lo _ _ _, vI_hi _ _ _⟩ (by decide) (fun c85 => ?_) (fun c85 => ?_)
      · replace h := h.1 c85
        refine g_iconst (v := zI 0) dX7_change_92 (by decide) ?_
        exact h
      · replace h := h.2 c85
        exact h
def f_X7_change_88b (sa : Nat → Nat) (b : Nat) (E : Nat × mH) (d : Nat) (l1 : Int) (l2 : Int) (l3 : Int) (l4 : Int) (T : gT) (Q : Option Value → gT → Prop) : Prop := gW (tP sa) lM b E (d + 1 + 1) mX7_change 93 [some (.ref (b + 0)), some (.int (zI l1)), some (.int (zI l2)), some (.int (zI l3)), some (.int (zI l4))] [.int (zI 1)] T Q
set_option maxRecDepth 4000 in
theorem w_X7_change_88b {sa : Nat → Nat} {b : Nat} {E : Nat × mH} {d : Nat} {l1 : Int} {l2 : Int} {l3 : Int} {l4 : Int} {T : gT} {Q : Option Value → gT → Prop} (h : f_X7_change_88b sa b E d l1 l2 l3 l4 T Q) : gW (tP sa) lM b E (d + 1 + 1) mX7_change 88 [some (.ref (b + 0)), some (.int (zI l1)), some (.int (zI l2)), some (.int (zI l3)), some (.int (zI l4))] [] T Q := by
  unfold f_X7_change_88b at h
  refine g_iconst (v := zI 1) dX7_change_88 (by decide) ?_
  refine g_goto dX7_change_89 rfl ?_
  exact h
def f_X7_change_93b (sa : Nat → Nat) (b : Nat) (E : Nat × mH) (d : Nat) (l1 : Int) (l2 : Int) (l3 : Int) (l4 : Int) (s0 : Int) (T : gT) (Q : Option Value → gT → Prop) : Prop := (-2147483648 ≤ s0 ∧ s0 < 2147483648) ∧ ((s0 = 0 → gW (tP sa) lM b E (d + 1 + 1) mX7_change 111 [some (.ref (b + 0)), some (.int (zI l1)), some (.int (zI l2)), some (.int (zI s0)), some (.int (zI l4))] [.int (zI (-1)), .int (zI l1), .ref (b + 5)] T Q) ∧ (¬ s0 = 0 → gW (tP sa) lM b E (d + 1 + 1) mX7_change 111 [some (.ref (b + 0)), some (.int (zI l1)), some (.int (zI l2)), some (.int (zI s0)), some (.int (zI l4))] [.int (zI (vI T 0 8)), .int (zI l1), .ref (b + 5)] T Q))
set_option maxRecDepth 4000 in
theorem w_X7_change_93b {sa : Nat → Nat} {b : Nat} {E : Nat × mH} {d : Nat} {l1 : Int} {l2 : Int} {l3 : Int} {l4 : Int} {s0 : Int} {T : gT} {Q : Option Value → gT → Prop} (h : f_X7_change_93b sa b E d l1 l2 l3 l4 s0 T Q) : gW (tP sa) lM b E (d + 1 + 1) mX7_change 93 [some (.ref (b + 0)), some (.int (zI l1)), some (.int (zI l2)), some (.int (zI l3)), some (.int (zI l4))] [.int (zI s0)] T Q := by
  unfold f_X7_change_93b at h
  refine g_istore_n (L' := [some (.ref (b + 0)), some (.int (zI l1)), some (.int (zI l2)), some (.int (zI s0)), some (.int (zI l4))]) dX7_change_93 rfl ?_
  refine g_aload_n dX7_change_94 rfl ?_
  refine g_getR dX7_change_95 tF_7_23 lM_0 rfl ?_
  refine g_iload_n dX7_change_98 rfl ?_
  refine g_iload_n dX7_change_99 rfl ?_
  obtain ⟨a1, h⟩ := h
  refine g_if_eqZ dX7_change_100 rfl a1  (fun c100 => ?_) (fun c100 => ?_)
  · replace h := h.1 c100
    refine g_iconst (v := zI (-1)) dX7_change_110 (by decide) ?_
    exact h
  · replace h := h.2 c100
    refine g_aload_n dX7_change_103 rfl ?_
    refine g_getZ (v := vI T 0 8) dX7_change_104 tF_7_216 lM_0 rfl (zI_v T 0 8) ?_
    refine g_goto dX7_change_107 rfl ?_
    exact h
def f_X7_change_111b (sa : Nat → Nat) (b : Nat) (E : Nat × mH) (d : Nat) (l1 : Int) (l2 : Int) (l3 : Int) (l4 : Int) (s0 : Int) (s1 : Int) (T : gT) (Q : Option Value → gT → Prop) : Prop := 0 ≤ s1 ∧ s1 < 200 ∧ (-2147483648 ≤ l3 ∧ l3 < 2147483648) ∧ ((l3 = 0 → gW (tP sa) lM b E (d + 1 + 1) mX7_change 136 [some (.ref (b + 0)), some (.int (zI l1)), some (.int (zI l2)), some (.int (zI l3)), some (.int (zI l4))] [] (gI T 5 s1.toNat (zI s0)) Q) ∧ (¬ l3 = 0 → 0 ≤ vI T 0 8 ∧ vI T 0 8 < 50 ∧ gW (tP sa) lM b E (d + 1 + 1) mX7_change 136 [some (.ref (b + 0)), some (.int (zI l1)), some (.int (zI l2)), some (.int (zI l3)), some (.int (zI l4))] [] (gI (gI (gI T 5 s1.toNat (zI s0)) 6 (vI T 0 8).toNat (zI l1)) 0 8 (zI ((vI T 0 8) + 1))) Q))
set_option maxRecDepth 4000 in
theorem w_X7_change_111b {sa : Nat → Nat} {b : Nat} {E : Nat × mH} {d : Nat} {l1 : Int} {l2 : Int} {l3 : Int} {l4 : Int} {s0 : Int} {s1 : Int} {T : gT} {Q : Option Value → gT → Prop} (h : f_X7_change_111b sa b E d l1 l2 l3 l4 s0 s1 T Q) : gW (tP sa) lM b E (d + 1 + 1) mX7_change 111 [some (.ref (b + 0)), some (.int (zI l1)), some (.int (zI l2)), some (.int (zI l3)), some (.int (zI l4))] [.int (zI s0), .int (zI s1), .ref (b + 5)] T Q := by
  unfold f_X7_change_111b at h
  obtain ⟨a1, h⟩ := h
  obtain ⟨a2, h⟩ := h
  refine g_iastZ dX7_change_111 lM_5 a1 a2 (by decide) ?_
  refine g_iload_n dX7_change_112 rfl ?_
  obtain ⟨a3, h⟩ := h
  refine g_if_eqZ dX7_change_113 rfl a3  (fun c113 => ?_) (fun c113 => ?_)
  · replace h := h.1 c113
    exact h
  · replace h := h.2 c113
    refine g_aload_n dX7_change_116 rfl ?_
    refine g_getR dX7_change_117 tF_7_26 lM_0 rfl ?_
    refine g_aload_n dX7_change_120 rfl ?_
    refine g_getZ (v := vI T 0 8) dX7_change_121 tF_7_216 lM_0 rfl (zI_v T 0 8) ?_
    refine g_iload_n dX7_change_124 rfl ?_
    obtain ⟨a4, h⟩ := h
    obtain ⟨a5, h⟩ := h
    refine g_iastZ dX7_change_125 lM_6 a4 a5 (by decide) ?_
    refine g_aload_n dX7_change_126 rfl ?_
    refine g_dup dX7_change_127 rfl ?_
    refine g_getZ (v := vI T 0 8) dX7_change_128 tF_7_216 lM_0 rfl (zI_v T 0 8) ?_
    refine g_iconst (v := zI 1) dX7_change_131 (by decide) ?_
    refine g_iaddZ dX7_change_132 ?_
    refine g_putI dX7_change_133 tF_7_216 lM_0 rfl rfl ⟨rfl, rfl⟩ rfl ?_
    exact h
def f_X7_change_136b (sa : Nat → Nat) (b : Nat) (E : Nat × mH) (d : Nat) (l1 : Int) (l2 : Int) (l3 : Int) (l4 : Int) (T : gT) (Q : Option Value → gT → Prop) : Prop := (-2147483648 ≤ l2 ∧ l2 < 2147483648) ∧ ((¬ l2 = 0 → gW (tP sa) lM b E (d + 1 + 1) mX7_change 155 [some (.ref (b + 0)), some (.int (zI l1)), some (.int (zI l2)), some (.int (zI l3)), some (.int (zI l4))] [] T Q) ∧ (l2 = 0 → (vI T 0 3 = 0 ∨ vI T 0 3 = 1) ∧ (0 ≤ l1 ∧ l1 < 200) ∧ 0 ≤ cV T (vI T 0 3).toNat l1.toNat 1 ∧ cV T (vI T 0 3).toNat l1.toNat 1 < 100 ∧ gW (tP sa) lM b E (d + 1 + 1) mX7_change 155 [some (.ref (b + 0)), some (.int (zI l1)), some (.int (zI l2)), some (.int (zI l3)), some (.int (zI l4))] [] (gI T 8 (cV T (vI T 0 3).toNat l1.toNat 1).toNat (zI ((vI T 8 (cV T (vI T 0 3).toNat l1.toNat 1).toNat) + 1))) Q))
set_option maxRecDepth 4000 in
theorem w_X7_change_136b {sa : Nat → Nat} {b : Nat} {E : Nat × mH} {d : Nat} {l1 : Int} {l2 : Int} {l3 : Int} {l4 : Int} {T : gT} {Q : Option Value → gT → Prop} (h : f_X7_change_136b sa b E d l1 l2 l3 l4 T Q) : gW (tP sa) lM b E (d + 1 + 1) mX7_change 136 [some (.ref (b + 0)), some (.int (zI l1)), some (.int (zI l2)), some (.int (zI l3)), some (.int (zI l4))] [] T Q := by
  unfold f_X7_change_136b at h
  refine g_iload_n dX7_change_136 rfl ?_
  obtain ⟨a1, h⟩ := h
  refine g_if_neZ dX7_change_137 rfl a1  (fun c137 => ?_) (fun c137 => ?_)
  · replace h := h.1 c137
    exact h
  · replace h := h.2 c137
    refine g_aload_n dX7_change_140 rfl ?_
    refine g_getR dX7_change_141 tF_7_32 lM_0 rfl ?_
    refine g_aload_n dX7_change_144 rfl ?_
    refine g_iload_n dX7_change_145 rfl ?_
    refine g_iconst (v := zI 1) dX7_change_146 (by decide) ?_
    obtain ⟨a2, h⟩ := h
    obtain ⟨a3, h⟩ := h
    refine g_callV [.ref (b + 0), .int (zI l1), .int (zI 1)] [.ref (b + 8)] dX7_change_147 tG_7_219 tM_113 lM_0 rfl rfl rfl rfl (by decide) rfl ?_
    refine gC.mono (c_getZ sa b E d _ (n := vI T 0 3) (by first | exact (zI_v _ _ _).symm | rfl) a2 a3 (by decide)) (Nat.le_refl _) ?_
    rintro _ _ ⟨rfl, h9⟩
    obtain rfl := h9.symm
    refine g_dup2 dX7_change_150 rfl rfl ?_
    obtain ⟨a4, h⟩ := h
    obtain ⟨a5, h⟩ := h
    refine g_ialdZ (v := vI T 8 (cV T (vI T 0 3).toNat l1.toNat 1).toNat) dX7_change_151 lM_8 a4 a5 (by decide) (zI_v T 8 (cV T (vI T 0 3).toNat l1.toNat 1).toNat) ?_
    refine g_iconst (v := zI 1) dX7_change_152 (by decide) ?_
    refine g_iaddZ dX7_change_153 ?_
    refine g_iastZ dX7_change_154 lM_8 a4 a5 (by decide) ?_
    exact h
def f_X7_change_155b (sa : Nat → Nat) (b : Nat) (E : Nat × mH) (d : Nat) (l1 : Int) (l2 : Int) (l3 : Int) (l4 : Int) (T : gT) (Q : Option Value → gT → Prop) : Prop := (vI T 0 3 = 0 ∨ vI T 0 3 = 1) ∧ (0 ≤ l1 ∧ l1 < 200) ∧ ((¬ (cV T (vI T 0 3).toNat l1.toNat 6) = (-1) → 0 ≤ cV T (vI T 0 3).toNat l1.toNat 6 ∧ cV T (vI T 0 3).toNat l1.toNat 6 < 200 ∧ (((vI T 5 (cV T (vI T 0 3).toNat l1.toNat 6).toNat) = (-1) → 0 ≤ l1 ∧ l1 < 200 ∧ gW (tP sa) lM b E (d + 1 + 1) mX7_change 58 [some (.ref (b + 0)), some (.int (zI (l1 + 1))), some (.int (zI l2)), some (.int (zI l3)), some (.int (zI (cV T (vI T 0 3).toNat l1.toNat 6)))] [] (gI T 7 l1.toNat (zI (vI T 7 (cV T (vI T 0 3).toNat l1.toNat 6).toNat))) Q) ∧ (¬ (vI T 5 (cV T (vI T 0 3).toNat l1.toNat 6).toNat) = (-1) → 0 ≤ l1 ∧ l1 < 200 ∧ gW (tP sa) lM b E (d + 1 + 1) mX7_change 58 [some (.ref (b + 0)), some (.int (zI (l1 + 1))), some (.int (zI l2)), some (.int (zI l3)), some (.int (zI (cV T (vI T 0 3).toNat l1.toNat 6)))] [] (gI T 7 l1.toNat (zI (vI T 5 (cV T (vI T 0 3).toNat l1.toNat 6).toNat))) Q))) ∧ ((cV T (vI T 0 3).toNat l1.toNat 6) = (-1) → 0 ≤ l1 ∧ l1 < 200 ∧ gW (tP sa) lM b E (d + 1 + 1) mX7_change 58 [some (.ref (b + 0)), some (.int (zI (l1 + 1))), some (.int (zI l2)), some (.int (zI l3)), some (.int (zI (cV T (vI T 0 3).toNat l1.toNat 6)))] [] (gI T 7 l1.toNat (zI (-1))) Q))
set_option maxRecDepth 4000 in
theorem w_X7_change_155b {sa : Nat → Nat} {b : Nat} {E : Nat × mH} {d : Nat} {l1 : Int} {l2 : Int} {l3 : Int} {l4 : Int} {T : gT} {Q : Option Value → gT → Prop} (h : f_X7_change_155b sa b E d l1 l2 l3 l4 T Q) : gW (tP sa) lM b E (d + 1 + 1) mX7_change 155 [some (.ref (b + 0)), some (.int (zI l1)), some (.int (zI l2)), some (.int (zI l3)), some (.int (zI l4))] [] T Q := by
  unfold f_X7_change_155b at h
  refine g_aload_n dX7_change_155 rfl ?_
  refine g_iload_n dX7_change_156 rfl ?_
  refine g_bipush (v := zI 6) dX7_change_157 (by decide) ?_
  obtain ⟨a1, h⟩ := h
  obtain ⟨a2, h⟩ := h
  refine g_callV [.ref (b + 0), .int (zI l1), .int (zI 6)] [] dX7_change_159 tG_7_219 tM_113 lM_0 rfl rfl rfl rfl (by decide) rfl ?_
  refine gC.mono (c_getZ sa b E d _ (n := vI T 0 3) (by first | exact (zI_v _ _ _).symm | rfl) a1 a2 (by decide)) (Nat.le_refl _) ?_
  rintro _ _ ⟨rfl, h9⟩
  obtain rfl := h9.symm
  refine g_istore (L' := [some (.ref (b + 0)), some (.int (zI l1)), some (.int (zI l2)), some (.int (zI l3)), some (.int (zI (cV T (vI T 0 3).toNat l1.toNat 6)))]) dX7_change_162 rfl ?_
  refine g_aload_n dX7_change_164 rfl ?_
  refine g_getR dX7_change_165 tF_7_29 lM_0 rfl ?_
  refine g_iload_n dX7_change_168 rfl ?_
  refine g_iload dX7_change_169 rfl ?_
  refine g_iconst (v := zI (-1)) dX7_change_171 (by decide) ?_
  refine g_icmp_neZ dX7_change_172 rfl ⟨vI_lo _ _ _, vI_hi _ _ _⟩ (by decide) (fun c172 => ?_) (fun c172 => ?_)
  · replace h := h.1 c172
    refine g_aload_n dX7_change_179 rfl ?_
    refine g_getR dX7_change_180 tF_7_23 lM_0 rfl ?_
    refine g_iload dX7_change_183 rfl ?_
    obtain ⟨a3, h⟩ := h
    obtain ⟨a4, h⟩ := h
    refine g_ialdZ (v := vI T 5 (cV T (vI T 0 3).toNat l1.toNat 6).toNat) dX7_change_185 lM_5 a3 a4 (by decide) (zI_v T 5 (cV T (vI T 0 3).toNat l1.toNat 6).toNat) ?_
    refine g_iconst (v := zI (-1)) dX7_change_186 (by decide) ?_
    refine g_icmp_eqZ dX7_change_187 rfl ⟨vI_lo _ _ _, vI_hi _ _ _⟩ (by decide) (fun c187 => ?_) (fun c187 => ?_)
    · replace h := h.1 c187
      refine g_aload_n dX7_change_200 rfl ?_
      refine g_getR dX7_change_201 tF_7_29 lM_0 rfl ?_
      refine g_iload dX7_change_204 rfl ?_
      refine g_ialdZ (v := vI T 7 (cV T (vI T 0 3).toNat l1.toNat 6).toNat) dX7_change_206 lM_7 a3 a4 (by decide) (zI_v T 7 (cV T (vI T 0 3).toNat l1.toNat 6).toNat) ?_
      obtain ⟨a5, h⟩ := h
      obtain ⟨a6, h⟩ := h
      refine g_iastZ dX7_change_207 lM_7 a5 a6 (by decide) ?_
      refine g_iinc (x := zI l1) (v := zI (l1 + 1)) (L' := [some (.ref (b + 0)), some (.int (zI (l1 + 1))), some (.int (zI l2)), some (.int (zI l3)), some (.int (zI (cV T (vI T 0 3).toNat l1.toNat 6)))]) dX7_change_208 rfl (zI_add _ _) rfl ?_
      refine g_goto dX7_change_211 rfl ?_
      exact h
    · replace h := h.2 c187
      refine g_aload_n dX7_change_190 rfl ?_
      refine g_getR dX7_change_191 tF_7_23 lM_0 rfl ?_
      refine g_iload dX7_change_194 rfl ?_
      refine g_ialdZ (v := vI T 5 (cV T (vI T 0 3).toNat l1.toNat 6).toNat) dX7_change_196 lM_5 a3 a4 (by decide) (zI_v T 5 (cV T (vI T 0 3).toNat l1.toNat 6).toNat) ?_
      refine g_goto dX7_change_197 rfl ?_
      obtain ⟨a7, h⟩ := h
      obtain ⟨a8, h⟩ := h
      refine g_iastZ dX7_change_207 lM_7 a7 a8 (by decide) ?_
      refine g_iinc (x := zI l1) (v := zI (l1 + 1)) (L' := [some (.ref (b + 0)), some (.int (zI (l1 + 1))), some (.int (zI l2)), some (.int (zI l3)), some (.int (zI (cV T (vI T 0 3).toNat l1.toNat 6)))]) dX7_change_208 rfl (zI_add _ _) rfl ?_
      refine g_goto dX7_change_211 rfl ?_
      exact h
  · replace h := h.2 c172
    refine g_iconst (v := zI (-1)) dX7_change_175 (by decide) ?_
    refine g_goto dX7_change_176 rfl ?_
    obtain ⟨a9, h⟩ := h
    obtain ⟨a10, h⟩ := h
    refine g_iastZ dX7_change_207 lM_7 a9 a10 (by decide) ?_
    refine g_iinc (x := zI l1) (v := zI (l1 + 1)) (L' := [some (.ref (b + 0)), some (.int (zI (l1 + 1))), some (.int (zI l2)), some (.int (zI l3)), some (.int (zI (cV T (vI T 0 3).toNat l1.toNat 6)))]) dX7_change_208 rfl (zI_add _ _) rfl ?_
    refine g_goto dX7_change_211 rfl ?_
    exact h
def f_X7_canInline (sa : Nat → Nat) (b : Nat) (E : Nat × mH) (d : Nat) (l1 : Int) (T : gT) (Q : Option Value → gT → Prop) : Prop := gC (tP sa) lM b E (d + 1) mX7_isSingle [.ref (b + 0), .int (zI l1)] T (fun r T2 => pI r (fun v2 => (-2147483648 ≤ v2 ∧ v2 < 2147483648) ∧ ((¬ v2 = 0 → gC (tP sa) lM b E (d + 1) mX7_only [.ref (b + 0), .int (zI l1)] T2 (fun r T12 => pI r (fun v12 => (vI T12 0 3 = 0 ∨ vI T12 0 3 = 1) ∧ (0 ≤ l1 ∧ l1 < 200) ∧ (0 ≤ cV T12 (vI T12 0 3).toNat l1.toNat 3 ∧ cV T12 (vI T12 0 3).toNat l1.toNat 3 < 200) ∧ 0 ≤ v12 ∧ v12 < 50 ∧ (0 ≤ vI T12 6 v12.toNat ∧ vI T12 6 v12.toNat < 200) ∧ ((¬ (cV T12 (vI T12 0 3).toNat (vI T12 6 v12.toNat).toNat 0) = 2 → Q (some (.int (zI 0))) T12) ∧ ((cV T12 (vI T12 0 3).toNat (vI T12 6 v12.toNat).toNat 0) = 2 → gC (tP sa) lM b E (d + 1) mX7_freeOf [.ref (b + 0), .int (zI v12)] T12 (fun r T45 => pI r (fun v45 => (-2147483648 ≤ v45 ∧ v45 < 2147483648) ∧ ((¬ v45 = 0 → Q (some (.int (zI 0))) T45) ∧ (v45 = 0 → ((¬ (((T45.2.1 11 v12.toNat) >>> ((zI v12).toInt64 &&& 63)) &&& 1) = 0 → Q (some (.int (zI 0))) T45) ∧ ((((T45.2.1 11 v12.toNat) >>> ((zI v12).toInt64 &&& 63)) &&& 1) = 0 → (((cV T12 (vI T12 0 3).toNat (cV T12 (vI T12 0 3).toNat l1.toNat 3).toNat 0) = 0 → Q (some (.int (zI 1))) T45) ∧ (¬ (cV T12 (vI T12 0 3).toNat (cV T12 (vI T12 0 3).toNat l1.toNat 3).toNat 0) = 0 → ((¬ (cV T12 (vI T12 0 3).toNat (cV T12 (vI T12 0 3).toNat l1.toNat 3).toNat 0) = 2 → Q (some (.int (zI 0))) T45) ∧ ((cV T12 (vI T12 0 3).toNat (cV T12 (vI T12 0 3).toNat l1.toNat 3).toNat 0) = 2 → Q (some (.int (zI 1))) T45))))))))))))))) ∧ (v2 = 0 → Q (some (.int (zI 0))) T2))))
set_option maxRecDepth 4000 in
theorem w_X7_canInline {sa : Nat → Nat} {b : Nat} {E : Nat × mH} {d : Nat} {l1 : Int} {T : gT} {Q : Option Value → gT → Prop} (h : f_X7_canInline sa b E d l1 T Q) : gC (tP sa) lM b E (d + 1 + 1) mX7_canInline [.ref (b + 0), .int (zI l1)] T Q := by
  unfold f_X7_canInline at h
  refine ⟨Nat.le_of_ble_eq_true rfl, ?_⟩
  show gW (tP sa) lM b E (d + 1 + 1) mX7_canInline 0 [some (.ref (b + 0)), some (.int (zI l1)), none, none] [] T Q
  refine g_aload_n dX7_canInline_0 rfl ?_
  refine g_iload_n dX7_canInline_1 rfl ?_
  refine g_callV [.ref (b + 0), .int (zI l1)] [] dX7_canInline_2 tG_7_247 tM_139 lM_0 rfl rfl rfl rfl (by decide) rfl ?_
  refine gC.mono h (Nat.le_refl _) ?_
  rintro _ T2 ⟨v2, rfl, h⟩
  obtain ⟨a1, h⟩ := h
  refine g_if_neZ dX7_canInline_5 rfl a1  (fun c5 => ?_) (fun c5 => ?_)
  · replace h := h.1 c5
    refine g_aload_n dX7_canInline_10 rfl ?_
    refine g_iload_n dX7_canInline_11 rfl ?_
    refine g_callV [.ref (b + 0), .int (zI l1)] [] dX7_canInline_12 tG_7_250 tM_140 lM_0 rfl rfl rfl rfl (by decide) rfl ?_
    refine gC.mono h (Nat.le_refl _) ?_
    rintro _ T12 ⟨v12, rfl, h⟩
    refine g_istore_n (L' := [some (.ref (b + 0)), some (.int (zI l1)), some (.int (zI v12)), none]) dX7_canInline_15 rfl ?_
    refine g_aload_n dX7_canInline_16 rfl ?_
    refine g_aload_n dX7_canInline_17 rfl ?_
    refine g_iload_n dX7_canInline_18 rfl ?_
    refine g_iconst (v := zI 3) dX7_canInline_19 (by decide) ?_
    obtain ⟨a2, h⟩ := h
    obtain ⟨a3, h⟩ := h
    refine g_callV [.ref (b + 0), .int (zI l1), .int (zI 3)] [.ref (b + 0)] dX7_canInline_20 tG_7_219 tM_113 lM_0 rfl rfl rfl rfl (by decide) rfl ?_
    refine gC.mono (c_getZ sa b E d _ (n := vI T12 0 3) (by first | exact (zI_v _ _ _).symm | rfl) a2 a3 (by decide)) (Nat.le_refl _) ?_
    rintro _ _ ⟨rfl, h9⟩
    obtain rfl := h9.symm
    refine g_iconst (v := zI 0) dX7_canInline_23 (by decide) ?_
    obtain ⟨a4, h⟩ := h
    refine g_callV [.ref (b + 0), .int (zI (cV T12 (vI T12 0 3).toNat l1.toNat 3)), .int (zI 0)] [] dX7_canInline_24 tG_7_219 tM_113 lM_0 rfl rfl rfl rfl (by decide) rfl ?_
    refine gC.mono (c_getZ sa b E d _ (n := vI T12 0 3) (by first | exact (zI_v _ _ _).symm | rfl) a2 a4 (by decide)) (Nat.le_refl _) ?_
    rintro _ _ ⟨rfl, h9⟩
    obtain rfl := h9.symm
    refine g_istore_n (L' := [some (.ref (b + 0)), some (.int (zI l1)), some (.int (zI v12)), some (.int (zI (cV T12 (vI T12 0 3).toNat (cV T12 (vI T12 0 3).toNat l1.toNat 3).toNat 0)))]) dX7_canInline_27 rfl ?_
    refine g_aload_n dX7_canInline_28 rfl ?_
    refine g_aload_n dX7_canInline_29 rfl ?_
    refine g_getR dX7_canInline_30 tF_7_26 lM_0 rfl ?_
    refine g_iload_n dX7_canInline_33 rfl ?_
    obtain ⟨a5, h⟩ := h
    obtain ⟨a6, h⟩ := h
    refine g_ialdZ (v := vI T12 6 v12.toNat) dX7_canInline_34 lM_6 a5 a6 (by decide) (zI_v T12 6 v12.toNat) ?_
    refine g_iconst (v := zI 0) dX7_canInline_35 (by decide) ?_
    obtain ⟨a7, h⟩ := h
    refine g_callV [.ref (b + 0), .int (zI (vI T12 6 v12.toNat)), .int (zI 0)] [] dX7_canInline_36 tG_7_219 tM_113 lM_0 rfl rfl rfl rfl (by decide) rfl ?_
    refine gC.mono (c_getZ sa b E d _ (n := vI T12 0 3) (by first | exact (zI_v _ _ _).symm | rfl) a2 a7 (by decide)) (Nat.le_refl _) ?_
    rintro _ _ ⟨rfl, h9⟩
    obtain rfl := h9.symm
    refine g_iconst (v := zI 2) dX7_canInline_39 (by decide) ?_
    refine g_icmp_neZ dX7_canInline_40 rfl ⟨vI_lo _ _ _, vI_hi _ _ _⟩ (by decide) (fun c40 => ?_) (fun c40 => ?_)
    · replace h := h.1 c40
      refine g_iconst (v := zI 0) dX7_canInline_79 (by decide) ?_
      exact g_iret dX7_canInline_80 rfl rfl h
    · replace h := h.2 c40
      refine g_aload_n dX7_canInline_43 rfl ?_
      refine g_iload_n dX7_canInline_44 rfl ?_
      refine g_callV [.ref (b + 0), .int (zI v12)] [] dX7_canInline_45 tG_7_253 tM_142 lM_0 rfl rfl rfl rfl (by decide) rfl ?_
      refine gC.mono h (Nat.le_refl _) ?_
      rintro _ T45 ⟨v45, rfl, h⟩
      obtain ⟨a8, h⟩ := h
      refine g_if_neZ dX7_canInline_48 rfl a8  (fun c48 => ?_) (fun c48 => ?_)
      · replace h := h.1 c48
        refine g_iconst (v := zI 0) dX7_canInline_79 (by decide) ?_
        exact g_iret dX7_canInline_80 rfl rfl h
      · replace h := h.2 c48
        refine g_aload_n dX7_canInline_51 rfl ?_
        refine g_getR dX7_canInline_52 tF_7_42 lM_0 rfl ?_
        refine g_iload_n dX7_canInline_55 rfl ?_
        refine g_laldZ (v := T45.2.1 11 v12.toNat) dX7_canInline_56 lM_11 a5 a6 (by decide) rfl ?_
        refine g_iload_n dX7_canInline_57 rfl ?_
        refine g_lshr dX7_canInline_58 ?_
        refine g_lconst (v := 1) dX7_canInline_59 (by decide) ?_
        refine g_land dX7_canInline_60 ?_
        refine g_lconst (v := 0) dX7_canInline_61 (by decide) ?_
        refine g_lcmp dX7_canInline_62 ?_
        refine g_if_neL dX7_canInline_63 rfl (fun c63 => ?_) (fun c63 => ?_)
        · replace h := h.1 c63
          refine g_iconst (v := zI 0) dX7_canInline_79 (by decide) ?_
          exact g_iret dX7_canInline_80 rfl rfl h
        · replace h := h.2 c63
          refine g_iload_n dX7_canInline_66 rfl ?_
          refine g_if_eqZ dX7_canInline_67 rfl ⟨vI_lo _ _ _, vI_hi _ _ _⟩  (fun c67 => ?_) (fun c67 => ?_)
          · replace h := h.1 c67
            refine g_iconst (v := zI 1) dX7_canInline_75 (by decide) ?_
            refine g_goto dX7_canInline_76 rfl ?_
            exact g_iret dX7_canInline_80 rfl rfl h
          · replace h := h.2 c67
            refine g_iload_n dX7_canInline_70 rfl ?_
            refine g_iconst (v := zI 2) dX7_canInline_71 (by decide) ?_
            refine g_icmp_neZ dX7_canInline_72 rfl ⟨vI_lo _ _ _, vI_hi _ _ _⟩ (by decide) (fun c72 => ?_) (fun c72 => ?_)
            · replace h := h.1 c72
              refine g_iconst (v := zI 0) dX7_canInline_79 (by decide) ?_
              exact g_iret dX7_canInline_80 rfl rfl h
            · replace h := h.2 c72
              refine g_iconst (v := zI 1) dX7_canInline_75 (by decide) ?_
              refine g_goto dX7_canInline_76 rfl ?_
              exact g_iret dX7_canInline_80 rfl rfl h
  · replace h := h.2 c5
    refine g_iconst (v := zI 0) dX7_canInline_8 (by decide) ?_
    exact g_iret dX7_canInline_9 rfl rfl h
def f_X7_expr (sa : Nat → Nat) (b : Nat) (E : Nat × mH) (d : Nat) (l1 : Int) (l2 : Int) (T : gT) (Q : Option Value → gT → Prop) : Prop := gC (tP sa) lM b E (d + 1) mX7_isLabel [.ref (b + 0), .int (zI l1)] (gI T 0 0 (zI 0)) (fun r T7 => pI r (fun v7 => (-2147483648 ≤ v7 ∧ v7 < 2147483648) ∧ ((v7 = 0 → Q (some (.int (zI (-2)))) T7) ∧ (¬ v7 = 0 → (-2147483648 ≤ l2 ∧ l2 < 2147483648) ∧ ((l2 < 0 → Q (some (.int (zI (-2)))) T7) ∧ (¬ l2 < 0 → ((l2 ≤ 7 → ((l2 = 0 → (vI T7 0 3 = 0 ∨ vI T7 0 3 = 1) ∧ (0 ≤ l1 ∧ l1 < 200) ∧ Q (some (.int (zI (cV T7 (vI T7 0 3).toNat l1.toNat 0)))) T7) ∧ (l2 = 1 → (vI T7 0 3 = 0 ∨ vI T7 0 3 = 1) ∧ (0 ≤ l1 ∧ l1 < 200) ∧ Q (some (.int (zI (cV T7 (vI T7 0 3).toNat l1.toNat 1)))) T7) ∧ (l2 = 2 → (vI T7 0 3 = 0 ∨ vI T7 0 3 = 1) ∧ (0 ≤ l1 ∧ l1 < 200) ∧ Q (some (.int (zI (cV T7 (vI T7 0 3).toNat l1.toNat 6)))) T7) ∧ (l2 = 6 → 0 ≤ l1 ∧ l1 < 200 ∧ Q (some (.int (zI (vI T7 5 l1.toNat)))) T7) ∧ (l2 = 7 → 0 ≤ l1 ∧ l1 < 200 ∧ Q (some (.int (zI (vI T7 7 l1.toNat)))) T7) ∧ ((¬ l2 = 0 ∧ ¬ l2 = 1 ∧ ¬ l2 = 2 ∧ ¬ l2 = 6 ∧ ¬ l2 = 7) → (vI T7 0 3 = 0 ∨ vI T7 0 3 = 1) ∧ (0 ≤ l1 ∧ l1 < 200) ∧ (0 ≤ l2 ∧ l2 < 7) ∧ Q (some (.int (zI (cV T7 (vI T7 0 3).toNat l1.toNat l2.toNat)))) T7))) ∧ (¬ l2 ≤ 7 → Q (some (.int (zI (-2)))) T7))))))))
set_option maxRecDepth 4000 in
theorem w_X7_expr {sa : Nat → Nat} {b : Nat} {E : Nat × mH} {d : Nat} {l1 : Int} {l2 : Int} {T : gT} {Q : Option Value → gT → Prop} (h : f_X7_expr sa b E d l1 l2 T Q) : gC (tP sa) lM b E (d + 1 + 1) mX7_expr [.ref (b + 0), .int (zI l1), .int (zI l2)] T Q := by
  unfold f_X7_expr at h
  refine ⟨Nat.le_of_ble_eq_true rfl, ?_⟩
  show gW (tP sa) lM b E (d + 1 + 1) mX7_expr 0 [some (.ref (b + 0)), some (.int (zI l1)), some (.int (zI l2))] [] T Q
  refine g_aload_n dX7_expr_0 rfl ?_
  refine g_iconst (v := zI 0) dX7_expr_1 (by decide) ?_
  refine g_putI dX7_expr_2 tF_7_97 lM_0 rfl rfl ⟨rfl, rfl⟩ rfl ?_
  refine g_aload_n dX7_expr_5 rfl ?_
  refine g_iload_n dX7_expr_6 rfl ?_
  refine g_callV [.ref (b + 0), .int (zI l1)] [] dX7_expr_7 tG_7_262 tM_136 lM_0 rfl rfl rfl rfl (by decide) rfl ?_
  refine gC.mono h (Nat.le_refl _) ?_
  rintro _ T7 ⟨v7, rfl, h⟩
  obtain ⟨a1, h⟩ := h
  refine g_if_eqZ dX7_expr_10 rfl a1  (fun c10 => ?_) (fun c10 => ?_)
  · replace h := h.1 c10
    refine g_bipush (v := zI (-2)) dX7_expr_23 (by decide) ?_
    exact g_iret dX7_expr_25 rfl rfl h
  · replace h := h.2 c10
    refine g_iload_n dX7_expr_13 rfl ?_
    obtain ⟨a2, h⟩ := h
    refine g_if_ltZ dX7_expr_14 rfl a2  (fun c14 => ?_) (fun c14 => ?_)
    · replace h := h.1 c14
      refine g_bipush (v := zI (-2)) dX7_expr_23 (by decide) ?_
      exact g_iret dX7_expr_25 rfl rfl h
    · replace h := h.2 c14
      refine g_iload_n dX7_expr_17 rfl ?_
      refine g_bipush (v := zI 7) dX7_expr_18 (by decide) ?_
      refine g_icmp_leZ dX7_expr_20 rfl a2 (by decide) (fun c20 => ?_) (fun c20 => ?_)
      · replace h := h.1 c20
        refine g_iload_n dX7_expr_26 rfl ?_
        by_cases c9 : l2 = 0
        · replace h := h.1 c9
          refine g_tabC (c := 0) (off := 45) dX7_expr_27 a2 c9 (by decide) rfl rfl ?_
          refine g_aload_n dX7_expr_72 rfl ?_
          refine g_iload_n dX7_expr_73 rfl ?_
          refine g_iconst (v := zI 0) dX7_expr_74 (by decide) ?_
          obtain ⟨a3, h⟩ := h
          obtain ⟨a4, h⟩ := h
          refine g_callV [.ref (b + 0), .int (zI l1), .int (zI 0)] [] dX7_expr_75 tG_7_219 tM_113 lM_0 rfl rfl rfl rfl (by decide) rfl ?_
          refine gC.mono (c_getZ sa b E d _ (n := vI T7 0 3) (by first | exact (zI_v _ _ _).symm | rfl) a3 a4 (by decide)) (Nat.le_refl _) ?_
          rintro _ _ ⟨rfl, h9⟩
          obtain rfl := h9.symm
          exact g_iret dX7_expr_78 rfl rfl h
        have n0_27 := c9
        by_cases c9 : l2 = 1
        · replace h := h.2.1 c9
          refine g_tabC (c := 1) (off := 52) dX7_expr_27 a2 c9 (by decide) rfl rfl ?_
          refine g_aload_n dX7_expr_79 rfl ?_
          refine g_iload_n dX7_expr_80 rfl ?_
          refine g_iconst (v := zI 1) dX7_expr_81 (by decide) ?_
          obtain ⟨a5, h⟩ := h
          obtain ⟨a6, h⟩ := h
          refine g_callV [.ref (b + 0), .int (zI l1), .int (zI 1)] [] dX7_expr_82 tG_7_219 tM_113 lM_0 rfl rfl rfl rfl (by decide) rfl ?_
          refine gC.mono (c_getZ sa b E d _ (n := vI T7 0 3) (by first | exact (zI_v _ _ _).symm | rfl) a5 a6 (by decide)) (Nat.le_refl _) ?_
          rintro _ _ ⟨rfl, h9⟩
          obtain rfl := h9.symm
          exact g_iret dX7_expr_85 rfl rfl h
        have n1_27 := c9
        by_cases c9 : l2 = 2
        · replace h := h.2.2.1 c9
          refine g_tabC (c := 2) (off := 59) dX7_expr_27 a2 c9 (by decide) rfl rfl ?_
          refine g_aload_n dX7_expr_86 rfl ?_
          refine g_iload_n dX7_expr_87 rfl ?_
          refine g_bipush (v := zI 6) dX7_expr_88 (by decide) ?_
          obtain ⟨a7, h⟩ := h
          obtain ⟨a8, h⟩ := h
          refine g_callV [.ref (b + 0), .int (zI l1), .int (zI 6)] [] dX7_expr_90 tG_7_219 tM_113 lM_0 rfl rfl rfl rfl (by decide) rfl ?_
          refine gC.mono (c_getZ sa b E d _ (n := vI T7 0 3) (by first | exact (zI_v _ _ _).symm | rfl) a7 a8 (by decide)) (Nat.le_refl _) ?_
          rintro _ _ ⟨rfl, h9⟩
          obtain rfl := h9.symm
          exact g_iret dX7_expr_93 rfl rfl h
        have n2_27 := c9
        by_cases c9 : l2 = 6
        · replace h := h.2.2.2.1 c9
          refine g_tabC (c := 6) (off := 67) dX7_expr_27 a2 c9 (by decide) rfl rfl ?_
          refine g_aload_n dX7_expr_94 rfl ?_
          refine g_getR dX7_expr_95 tF_7_23 lM_0 rfl ?_
          refine g_iload_n dX7_expr_98 rfl ?_
          obtain ⟨a9, h⟩ := h
          obtain ⟨a10, h⟩ := h
          refine g_ialdZ (v := vI T7 5 l1.toNat) dX7_expr_99 lM_5 a9 a10 (by decide) (zI_v T7 5 l1.toNat) ?_
          exact g_iret dX7_expr_100 rfl rfl h
        have n3_27 := c9
        by_cases c9 : l2 = 7
        · replace h := h.2.2.2.2.1 c9
          refine g_tabC (c := 7) (off := 74) dX7_expr_27 a2 c9 (by decide) rfl rfl ?_
          refine g_aload_n dX7_expr_101 rfl ?_
          refine g_getR dX7_expr_102 tF_7_29 lM_0 rfl ?_
          refine g_iload_n dX7_expr_105 rfl ?_
          obtain ⟨a11, h⟩ := h
          obtain ⟨a12, h⟩ := h
          refine g_ialdZ (v := vI T7 7 l1.toNat) dX7_expr_106 lM_7 a11 a12 (by decide) (zI_v T7 7 l1.toNat) ?_
          exact g_iret dX7_expr_107 rfl rfl h
        have n4_27 := c9
        replace h := h.2.2.2.2.2 ⟨n0_27, n1_27, n2_27, n3_27, n4_27⟩
        have o7 : ¬ (l2 < 0 ∨ 7 < l2) → (#[45, 52, 59, 81, 81, 81, 67, 74] : Array Int)[(l2 - 0).toNat]? = some 81 := by
          intro o9
          have o8 : l2 = 3 ∨ l2 = 4 ∨ l2 = 5 := by omega
          rcases o8 with o8 | o8 | o8 <;> rw [o8] <;> rfl
        refine g_tabD dX7_expr_27 a2 o7 rfl ?_
        refine g_aload_n dX7_expr_108 rfl ?_
        refine g_iload_n dX7_expr_109 rfl ?_
        refine g_iload_n dX7_expr_110 rfl ?_
        obtain ⟨a13, h⟩ := h
        obtain ⟨a14, h⟩ := h
        obtain ⟨a15, h⟩ := h
        refine g_callV [.ref (b + 0), .int (zI l1), .int (zI l2)] [] dX7_expr_111 tG_7_219 tM_113 lM_0 rfl rfl rfl rfl (by decide) rfl ?_
        refine gC.mono (c_getZ sa b E d _ (n := vI T7 0 3) (by first | exact (zI_v _ _ _).symm | rfl) a13 a14 a15) (Nat.le_refl _) ?_
        rintro _ _ ⟨rfl, h9⟩
        obtain rfl := h9.symm
        exact g_iret dX7_expr_114 rfl rfl h
      · replace h := h.2 c20
        refine g_bipush (v := zI (-2)) dX7_expr_23 (by decide) ?_
        exact g_iret dX7_expr_25 rfl rfl h
def f_X7_flows (sa : Nat → Nat) (b : Nat) (E : Nat × mH) (d : Nat) (l1 : Int) (T : gT) (Q : Option Value → gT → Prop) : Prop := (((vI T 0 4) = 0 → Q (some (.long 0)) (gI T 0 0 (zI 0))) ∧ (¬ (vI T 0 4) = 0 → (-2147483648 ≤ l1 ∧ l1 < 2147483648) ∧ ((l1 < 0 → Q (some (.long 0)) (gI T 0 0 (zI 0))) ∧ (¬ l1 < 0 → 0 ≤ vI T 0 3 ∧ vI T 0 3 < 2 ∧ (((vI T 3 (vI T 0 3).toNat) ≤ l1 → Q (some (.long 0)) (gI T 0 0 (zI 0))) ∧ (¬ (vI T 3 (vI T 0 3).toNat) ≤ l1 → 0 ≤ l1 ∧ l1 < 100 ∧ Q (some (.long (T.2.1 10 l1.toNat))) (gI T 0 0 (zI 0))))))))
set_option maxRecDepth 4000 in
theorem w_X7_flows {sa : Nat → Nat} {b : Nat} {E : Nat × mH} {d : Nat} {l1 : Int} {T : gT} {Q : Option Value → gT → Prop} (h : f_X7_flows sa b E d l1 T Q) : gC (tP sa) lM b E d mX7_flows [.ref (b + 0), .int (zI l1)] T Q := by
  unfold f_X7_flows at h
  refine ⟨Nat.le_of_ble_eq_true rfl, ?_⟩
  show gW (tP sa) lM b E d mX7_flows 0 [some (.ref (b + 0)), some (.int (zI l1))] [] T Q
  refine g_aload_n dX7_flows_0 rfl ?_
  refine g_iconst (v := zI 0) dX7_flows_1 (by decide) ?_
  refine g_putI dX7_flows_2 tF_7_97 lM_0 rfl rfl ⟨rfl, rfl⟩ rfl ?_
  refine g_aload_n dX7_flows_5 rfl ?_
  refine g_getZ (v := vI T 0 4) dX7_flows_6 tF_7_203 lM_0 rfl (zI_v T 0 4) ?_
  refine g_if_eqZ dX7_flows_9 rfl ⟨vI_lo _ _ _, vI_hi _ _ _⟩  (fun c9 => ?_) (fun c9 => ?_)
  · replace h := h.1 c9
    refine g_lconst (v := 0) dX7_flows_38 (by decide) ?_
    exact g_lret dX7_flows_39 rfl h
  · replace h := h.2 c9
    refine g_iload_n dX7_flows_12 rfl ?_
    obtain ⟨a1, h⟩ := h
    refine g_if_ltZ dX7_flows_13 rfl a1  (fun c13 => ?_) (fun c13 => ?_)
    · replace h := h.1 c13
      refine g_lconst (v := 0) dX7_flows_38 (by decide) ?_
      exact g_lret dX7_flows_39 rfl h
    · replace h := h.2 c13
      refine g_iload_n dX7_flows_16 rfl ?_
      refine g_aload_n dX7_flows_17 rfl ?_
      refine g_getR dX7_flows_18 tF_7_17 lM_0 rfl ?_
      refine g_aload_n dX7_flows_21 rfl ?_
      refine g_getZ (v := vI T 0 3) dX7_flows_22 tF_7_101 lM_0 rfl (zI_v T 0 3) ?_
      obtain ⟨a2, h⟩ := h
      obtain ⟨a3, h⟩ := h
      refine g_ialdZ (v := vI T 3 (vI T 0 3).toNat) dX7_flows_25 lM_3 a2 a3 (by decide) (zI_v T 3 (vI T 0 3).toNat) ?_
      refine g_icmp_geZ dX7_flows_26 rfl a1 ⟨vI_lo _ _ _, vI_hi _ _ _⟩ (fun c26 => ?_) (fun c26 => ?_)
      · replace h := h.1 c26
        refine g_lconst (v := 0) dX7_flows_38 (by decide) ?_
        exact g_lret dX7_flows_39 rfl h
      · replace h := h.2 c26
        refine g_aload_n dX7_flows_29 rfl ?_
        refine g_getR dX7_flows_30 tF_7_39 lM_0 rfl ?_
        refine g_iload_n dX7_flows_33 rfl ?_
        obtain ⟨a4, h⟩ := h
        obtain ⟨a5, h⟩ := h
        refine g_laldZ (v := T.2.1 10 l1.toNat) dX7_flows_34 lM_10 a4 a5 (by decide) rfl ?_
        refine g_goto dX7_flows_35 rfl ?_
        exact g_lret dX7_flows_39 rfl h
def f_X7_reaches (sa : Nat → Nat) (b : Nat) (E : Nat × mH) (d : Nat) (l1 : Int) (l2 : Int) (T : gT) (Q : Option Value → gT → Prop) : Prop := gC (tP sa) lM b E d mX7_isFunction [.ref (b + 0), .int (zI l1)] (gI T 0 0 (zI 0)) (fun r T7 => pI r (fun v7 => (-2147483648 ≤ v7 ∧ v7 < 2147483648) ∧ ((v7 = 0 → Q (some (.int (zI (-2)))) T7) ∧ (¬ v7 = 0 → gC (tP sa) lM b E d mX7_isFunction [.ref (b + 0), .int (zI l2)] T7 (fun r T15 => pI r (fun v15 => (-2147483648 ≤ v15 ∧ v15 < 2147483648) ∧ ((v15 = 0 → Q (some (.int (zI (-2)))) T15) ∧ (¬ v15 = 0 → 0 ≤ l1 ∧ l1 < 50 ∧ Q (some (.int (zI ((((T15.2.1 11 l1.toNat) >>> ((zI l2).toInt64 &&& 63)) &&& 1).toInt32.toInt)))) T15))))))))
set_option maxRecDepth 4000 in
theorem w_X7_reaches {sa : Nat → Nat} {b : Nat} {E : Nat × mH} {d : Nat} {l1 : Int} {l2 : Int} {T : gT} {Q : Option Value → gT → Prop} (h : f_X7_reaches sa b E d l1 l2 T Q) : gC (tP sa) lM b E (d + 1) mX7_reaches [.ref (b + 0), .int (zI l1), .int (zI l2)] T Q := by
  unfold f_X7_reaches at h
  refine ⟨Nat.le_of_ble_eq_true rfl, ?_⟩
  show gW (tP sa) lM b E (d + 1) mX7_reaches 0 [some (.ref (b + 0)), some (.int (zI l1)), some (.int (zI l2))] [] T Q
  refine g_aload_n dX7_reaches_0 rfl ?_
  refine g_iconst (v := zI 0) dX7_reaches_1 (by decide) ?_
  refine g_putI dX7_reaches_2 tF_7_97 lM_0 rfl rfl ⟨rfl, rfl⟩ rfl ?_
  refine g_aload_n dX7_reaches_5 rfl ?_
  refine g_iload_n dX7_reaches_6 rfl ?_
  refine g_callV [.ref (b + 0), .int (zI l1)] [] dX7_reaches_7 tG_7_265 tM_137 lM_0 rfl rfl rfl rfl (by decide) rfl ?_
  refine gC.mono h (Nat.le_refl _) ?_
  rintro _ T7 ⟨v7, rfl, h⟩
  obtain ⟨a1, h⟩ := h
  refine g_if_eqZ dX7_reaches_10 rfl a1  (fun c10 => ?_) (fun c10 => ?_)
  · replace h := h.1 c10
    refine g_bipush (v := zI (-2)) dX7_reaches_35 (by decide) ?_
    exact g_iret dX7_reaches_37 rfl rfl h
  · replace h := h.2 c10
    refine g_aload_n dX7_reaches_13 rfl ?_
    refine g_iload_n dX7_reaches_14 rfl ?_
    refine g_callV [.ref (b + 0), .int (zI l2)] [] dX7_reaches_15 tG_7_265 tM_137 lM_0 rfl rfl rfl rfl (by decide) rfl ?_
    refine gC.mono h (Nat.le_refl _) ?_
    rintro _ T15 ⟨v15, rfl, h⟩
    obtain ⟨a2, h⟩ := h
    refine g_if_eqZ dX7_reaches_18 rfl a2  (fun c18 => ?_) (fun c18 => ?_)
    · replace h := h.1 c18
      refine g_bipush (v := zI (-2)) dX7_reaches_35 (by decide) ?_
      exact g_iret dX7_reaches_37 rfl rfl h
    · replace h := h.2 c18
      refine g_aload_n dX7_reaches_21 rfl ?_
      refine g_getR dX7_reaches_22 tF_7_42 lM_0 rfl ?_
      refine g_iload_n dX7_reaches_25 rfl ?_
      obtain ⟨a3, h⟩ := h
      obtain ⟨a4, h⟩ := h
      refine g_laldZ (v := T15.2.1 11 l1.toNat) dX7_reaches_26 lM_11 a3 a4 (by decide) rfl ?_
      refine g_iload_n dX7_reaches_27 rfl ?_
      refine g_lshr dX7_reaches_28 ?_
      refine g_lconst (v := 1) dX7_reaches_29 (by decide) ?_
      refine g_land dX7_reaches_30 ?_
      refine g_l2iZ dX7_reaches_31 ?_
      refine g_goto dX7_reaches_32 rfl ?_
      exact g_iret dX7_reaches_37 rfl rfl h
def f_X7_single (sa : Nat → Nat) (b : Nat) (E : Nat × mH) (d : Nat) (l1 : Int) (T : gT) (Q : Option Value → gT → Prop) : Prop := gC (tP sa) lM b E (d + 1) mX7_isLabel [.ref (b + 0), .int (zI l1)] (gI T 0 0 (zI 0)) (fun r T7 => pI r (fun v7 => (-2147483648 ≤ v7 ∧ v7 < 2147483648) ∧ ((v7 = 0 → Q (some (.int (zI (-2)))) T7) ∧ (¬ v7 = 0 → (vI T7 0 3 = 0 ∨ vI T7 0 3 = 1) ∧ (0 ≤ l1 ∧ l1 < 200) ∧ (((cV T7 (vI T7 0 3).toNat l1.toNat 0) = 11 → gC (tP sa) lM b E (d + 1) mX7_isSingle [.ref (b + 0), .int (zI l1)] T7 (fun r T29 => pI r (fun v29 => (-2147483648 ≤ v29 ∧ v29 < 2147483648) ∧ ((v29 = 0 → Q (some (.int (zI (-1)))) T29) ∧ (¬ v29 = 0 → gC (tP sa) lM b E (d + 1) mX7_only [.ref (b + 0), .int (zI l1)] T29 (fun r T37 => pI r (fun v37 => Q (some (.int (zI v37))) T37))))))) ∧ (¬ (cV T7 (vI T7 0 3).toNat l1.toNat 0) = 11 → Q (some (.int (zI (-2)))) T7))))))
set_option maxRecDepth 4000 in
theorem w_X7_single {sa : Nat → Nat} {b : Nat} {E : Nat × mH} {d : Nat} {l1 : Int} {T : gT} {Q : Option Value → gT → Prop} (h : f_X7_single sa b E d l1 T Q) : gC (tP sa) lM b E (d + 1 + 1) mX7_single [.ref (b + 0), .int (zI l1)] T Q := by
  unfold f_X7_single at h
  refine ⟨Nat.le_of_ble_eq_true rfl, ?_⟩
  show gW (tP sa) lM b E (d + 1 + 1) mX7_single 0 [some (.ref (b + 0)), some (.int (zI l1))] [] T Q
  refine g_aload_n dX7_single_0 rfl ?_
  refine g_iconst (v := zI 0) dX7_single_1 (by decide) ?_
  refine g_putI dX7_single_2 tF_7_97 lM_0 rfl rfl ⟨rfl, rfl⟩ rfl ?_
  refine g_aload_n dX7_single_5 rfl ?_
  refine g_iload_n dX7_single_6 rfl ?_
  refine g_callV [.ref (b + 0), .int (zI l1)] [] dX7_single_7 tG_7_262 tM_136 lM_0 rfl rfl rfl rfl (by decide) rfl ?_
  refine gC.mono h (Nat.le_refl _) ?_
  rintro _ T7 ⟨v7, rfl, h⟩
  obtain ⟨a1, h⟩ := h
  refine g_if_eqZ dX7_single_10 rfl a1  (fun c10 => ?_) (fun c10 => ?_)
  · replace h := h.1 c10
    refine g_bipush (v := zI (-2)) dX7_single_24 (by decide) ?_
    exact g_iret dX7_single_26 rfl rfl h
  · replace h := h.2 c10
    refine g_aload_n dX7_single_13 rfl ?_
    refine g_iload_n dX7_single_14 rfl ?_
    refine g_iconst (v := zI 0) dX7_single_15 (by decide) ?_
    obtain ⟨a2, h⟩ := h
    obtain ⟨a3, h⟩ := h
    refine g_callV [.ref (b + 0), .int (zI l1), .int (zI 0)] [] dX7_single_16 tG_7_219 tM_113 lM_0 rfl rfl rfl rfl (by decide) rfl ?_
    refine gC.mono (c_getZ sa b E d _ (n := vI T7 0 3) (by first | exact (zI_v _ _ _).symm | rfl) a2 a3 (by decide)) (Nat.le_refl _) ?_
    rintro _ _ ⟨rfl, h9⟩
    obtain rfl := h9.symm
    refine g_bipush (v := zI 11) dX7_single_19 (by decide) ?_
    refine g_icmp_eqZ dX7_single_21 rfl ⟨vI_lo _ _ _, vI_hi _ _ _⟩ (by decide) (fun c21 => ?_) (fun c21 => ?_)
    · replace h := h.1 c21
      refine g_aload_n dX7_single_27 rfl ?_
      refine g_iload_n dX7_single_28 rfl ?_
      refine g_callV [.ref (b + 0), .int (zI l1)] [] dX7_single_29 tG_7_247 tM_139 lM_0 rfl rfl rfl rfl (by decide) rfl ?_
      refine gC.mono h (Nat.le_refl _) ?_
      rintro _ T29 ⟨v29, rfl, h⟩
      obtain ⟨a4, h⟩ := h
      refine g_if_eqZ dX7_single_32 rfl a4  (fun c32 => ?_) (fun c32 => ?_)
      · replace h := h.1 c32
        refine g_iconst (v := zI (-1)) dX7_single_43 (by decide) ?_
        exact g_iret dX7_single_44 rfl rfl h
      · replace h := h.2 c32
        refine g_aload_n dX7_single_35 rfl ?_
        refine g_iload_n dX7_single_36 rfl ?_
        refine g_callV [.ref (b + 0), .int (zI l1)] [] dX7_single_37 tG_7_250 tM_140 lM_0 rfl rfl rfl rfl (by decide) rfl ?_
        refine gC.mono h (Nat.le_refl _) ?_
        rintro _ T37 ⟨v37, rfl, h⟩
        refine g_goto dX7_single_40 rfl ?_
        exact g_iret dX7_single_44 rfl rfl h
    · replace h := h.2 c21
      refine g_bipush (v := zI (-2)) dX7_single_24 (by decide) ?_
      exact g_iret dX7_single_26 rfl rfl h
def f_X7_chain (sa : Nat → Nat) (b : Nat) (E : Nat × mH) (d : Nat) (l1 : Int) (l2 : Int) (T : gT) (Q : Option Value → gT → Prop) : Prop := 0 ≤ vI T 0 42 ∧ vI T 0 42 < 4200 ∧ Q (some (.int (zI (((vI T 0 42) + 1) - 1)))) (gI (gI (gI (gJ (gI (gI T 22 (vI T 0 42).toNat (zI l1)) 23 (vI T 0 42).toNat (zI (vI T 0 43))) 24 (vI T 0 42).toNat (T.2.1 0 44)) 25 (vI T 0 42).toNat (zI (vI T 0 45))) 26 (vI T 0 42).toNat (zI l2)) 0 42 (zI ((vI T 0 42) + 1)))
set_option maxRecDepth 4000 in
theorem w_X7_chain {sa : Nat → Nat} {b : Nat} {E : Nat × mH} {d : Nat} {l1 : Int} {l2 : Int} {T : gT} {Q : Option Value → gT → Prop} (h : f_X7_chain sa b E d l1 l2 T Q) : gC (tP sa) lM b E d mX7_chain [.ref (b + 0), .int (zI l1), .int (zI l2)] T Q := by
  unfold f_X7_chain at h
  refine ⟨Nat.le_of_ble_eq_true rfl, ?_⟩
  show gW (tP sa) lM b E d mX7_chain 0 [some (.ref (b + 0)), some (.int (zI l1)), some (.int (zI l2))] [] T Q
  refine g_aload_n dX7_chain_0 rfl ?_
  refine g_getR dX7_chain_1 tF_7_76 lM_0 rfl ?_
  refine g_aload_n dX7_chain_4 rfl ?_
  refine g_getZ (v := vI T 0 42) dX7_chain_5 tF_7_268 lM_0 rfl (zI_v T 0 42) ?_
  refine g_iload_n dX7_chain_8 rfl ?_
  obtain ⟨a1, h⟩ := h
  obtain ⟨a2, h⟩ := h
  refine g_iastZ dX7_chain_9 lM_22 a1 a2 (by decide) ?_
  refine g_aload_n dX7_chain_10 rfl ?_
  refine g_getR dX7_chain_11 tF_7_79 lM_0 rfl ?_
  refine g_aload_n dX7_chain_14 rfl ?_
  refine g_getZ (v := vI T 0 42) dX7_chain_15 tF_7_268 lM_0 rfl (zI_v T 0 42) ?_
  refine g_aload_n dX7_chain_18 rfl ?_
  refine g_getZ (v := vI T 0 43) dX7_chain_19 tF_7_271 lM_0 rfl (zI_v T 0 43) ?_
  refine g_iastZ dX7_chain_22 lM_23 a1 a2 (by decide) ?_
  refine g_aload_n dX7_chain_23 rfl ?_
  refine g_getR dX7_chain_24 tF_7_82 lM_0 rfl ?_
  refine g_aload_n dX7_chain_27 rfl ?_
  refine g_getZ (v := vI T 0 42) dX7_chain_28 tF_7_268 lM_0 rfl (zI_v T 0 42) ?_
  refine g_aload_n dX7_chain_31 rfl ?_
  refine g_getJv (v := T.2.1 0 44) dX7_chain_32 tF_7_274 lM_0 rfl rfl ?_
  refine g_lastZ dX7_chain_35 lM_24 a1 a2 (by decide) ?_
  refine g_aload_n dX7_chain_36 rfl ?_
  refine g_getR dX7_chain_37 tF_7_85 lM_0 rfl ?_
  refine g_aload_n dX7_chain_40 rfl ?_
  refine g_getZ (v := vI T 0 42) dX7_chain_41 tF_7_268 lM_0 rfl (zI_v T 0 42) ?_
  refine g_aload_n dX7_chain_44 rfl ?_
  refine g_getZ (v := vI T 0 45) dX7_chain_45 tF_7_277 lM_0 rfl (zI_v T 0 45) ?_
  refine g_iastZ dX7_chain_48 lM_25 a1 a2 (by decide) ?_
  refine g_aload_n dX7_chain_49 rfl ?_
  refine g_getR dX7_chain_50 tF_7_88 lM_0 rfl ?_
  refine g_aload_n dX7_chain_53 rfl ?_
  refine g_getZ (v := vI T 0 42) dX7_chain_54 tF_7_268 lM_0 rfl (zI_v T 0 42) ?_
  refine g_iload_n dX7_chain_57 rfl ?_
  refine g_iastZ dX7_chain_58 lM_26 a1 a2 (by decide) ?_
  refine g_aload_n dX7_chain_59 rfl ?_
  refine g_dup dX7_chain_60 rfl ?_
  refine g_getZ (v := vI T 0 42) dX7_chain_61 tF_7_268 lM_0 rfl (zI_v T 0 42) ?_
  refine g_iconst (v := zI 1) dX7_chain_64 (by decide) ?_
  refine g_iaddZ dX7_chain_65 ?_
  refine g_putI dX7_chain_66 tF_7_268 lM_0 rfl rfl ⟨rfl, rfl⟩ rfl ?_
  refine g_aload_n dX7_chain_69 rfl ?_
  refine g_getZ (v := (vI T 0 42) + 1) dX7_chain_70 tF_7_268 lM_0 rfl rfl ?_
  refine g_iconst (v := zI 1) dX7_chain_73 (by decide) ?_
  refine g_isubZ dX7_chain_74 ?_
  exact g_iret dX7_chain_75 rfl rfl h
def f_X7_work (sa : Nat → Nat) (b : Nat) (E : Nat × mH) (d : Nat) (T : gT) (Q : Option Value → gT → Prop) : Prop := 0 ≤ (vI T 0 36) - 1 ∧ (vI T 0 36) - 1 < 2100 ∧ (vI T 0 3 = 0 ∨ vI T 0 3 = 1) ∧ (0 ≤ vI T 16 ((vI T 0 36) - 1).toNat ∧ vI T 16 ((vI T 0 36) - 1).toNat < 200) ∧ ((¬ (cV T (vI T 0 3).toNat (vI T 16 ((vI T 0 36) - 1).toNat).toNat 0) = 0 → ((¬ (cV T (vI T 0 3).toNat (vI T 16 ((vI T 0 36) - 1).toNat).toNat 0) = 1 → (((cV T (vI T 0 3).toNat (vI T 16 ((vI T 0 36) - 1).toNat).toNat 0) = 2 → gW (tP sa) lM b E (d + 1 + 1) mX7_work 156 [some (.ref (b + 0)), some (.int (zI (vI T 16 ((vI T 0 36) - 1).toNat))), some (.int (zI (vI T 17 ((vI T 0 36) - 1).toNat))), some (.int (zI (cV T (vI T 0 3).toNat (vI T 16 ((vI T 0 36) - 1).toNat).toNat 0))), none] [] T Q) ∧ (¬ (cV T (vI T 0 3).toNat (vI T 16 ((vI T 0 36) - 1).toNat).toNat 0) = 2 → ((¬ (cV T (vI T 0 3).toNat (vI T 16 ((vI T 0 36) - 1).toNat).toNat 0) = 3 → (0 ≤ vI T 16 ((vI T 0 36) - 1).toNat ∧ vI T 16 ((vI T 0 36) - 1).toNat < 200) ∧ gC (tP sa) lM b E (d + 1) mX7_push [.ref (b + 0), .int (zI (cV T (vI T 0 3).toNat (vI T 16 ((vI T 0 36) - 1).toNat).toNat 3)), .int (zI (vI T 17 ((vI T 0 36) - 1).toNat))] (gI T 18 ((vI T 0 36) - 1).toNat (zI 1)) (fun r T210 => pV r (Q none T210))) ∧ ((cV T (vI T 0 3).toNat (vI T 16 ((vI T 0 36) - 1).toNat).toNat 0) = 3 → gW (tP sa) lM b E (d + 1 + 1) mX7_work 156 [some (.ref (b + 0)), some (.int (zI (vI T 16 ((vI T 0 36) - 1).toNat))), some (.int (zI (vI T 17 ((vI T 0 36) - 1).toNat))), some (.int (zI (cV T (vI T 0 3).toNat (vI T 16 ((vI T 0 36) - 1).toNat).toNat 0))), none] [] T Q))))) ∧ ((cV T (vI T 0 3).toNat (vI T 16 ((vI T 0 36) - 1).toNat).toNat 0) = 1 → (0 ≤ vI T 16 ((vI T 0 36) - 1).toNat ∧ vI T 16 ((vI T 0 36) - 1).toNat < 200) ∧ Q none (gI (gJ (gI T 0 43 (zI 0)) 0 44 ((zI (cV T (vI T 0 3).toNat (vI T 16 ((vI T 0 36) - 1).toNat).toNat 1)).toInt64)) 0 36 (zI ((vI T 0 36) - 1)))))) ∧ ((cV T (vI T 0 3).toNat (vI T 16 ((vI T 0 36) - 1).toNat).toNat 0) = 0 → gW (tP sa) lM b E (d + 1 + 1) mX7_work 38 [some (.ref (b + 0)), some (.int (zI (vI T 16 ((vI T 0 36) - 1).toNat))), some (.int (zI (vI T 17 ((vI T 0 36) - 1).toNat))), some (.int (zI (cV T (vI T 0 3).toNat (vI T 16 ((vI T 0 36) - 1).toNat).toNat 0))), some (.int (zI (vI T 17 ((vI T 0 36) - 1).toNat)))] [] T Q))
set_option maxRecDepth 4000 in
theorem w_X7_work {sa : Nat → Nat} {b : Nat} {E : Nat × mH} {d : Nat} {T : gT} {Q : Option Value → gT → Prop} (h : f_X7_work sa b E d T Q) : gC (tP sa) lM b E (d + 1 + 1) mX7_work [.ref (b + 0)] T Q := by
  unfold f_X7_work at h
  refine ⟨Nat.le_of_ble_eq_true rfl, ?_⟩
  show gW (tP sa) lM b E (d + 1 + 1) mX7_work 0 [some (.ref (b + 0)), none, none, none, none] [] T Q
  refine g_aload_n dX7_work_0 rfl ?_
  refine g_getR dX7_work_1 tF_7_58 lM_0 rfl ?_
  refine g_aload_n dX7_work_4 rfl ?_
  refine g_getZ (v := vI T 0 36) dX7_work_5 tF_7_280 lM_0 rfl (zI_v T 0 36) ?_
  refine g_iconst (v := zI 1) dX7_work_8 (by decide) ?_
  refine g_isubZ dX7_work_9 ?_
  obtain ⟨a1, h⟩ := h
  obtain ⟨a2, h⟩ := h
  refine g_ialdZ (v := vI T 16 ((vI T 0 36) - 1).toNat) dX7_work_10 lM_16 a1 a2 (by decide) (zI_v T 16 ((vI T 0 36) - 1).toNat) ?_
  refine g_istore_n (L' := [some (.ref (b + 0)), some (.int (zI (vI T 16 ((vI T 0 36) - 1).toNat))), none, none, none]) dX7_work_11 rfl ?_
  refine g_aload_n dX7_work_12 rfl ?_
  refine g_getR dX7_work_13 tF_7_61 lM_0 rfl ?_
  refine g_aload_n dX7_work_16 rfl ?_
  refine g_getZ (v := vI T 0 36) dX7_work_17 tF_7_280 lM_0 rfl (zI_v T 0 36) ?_
  refine g_iconst (v := zI 1) dX7_work_20 (by decide) ?_
  refine g_isubZ dX7_work_21 ?_
  refine g_ialdZ (v := vI T 17 ((vI T 0 36) - 1).toNat) dX7_work_22 lM_17 a1 a2 (by decide) (zI_v T 17 ((vI T 0 36) - 1).toNat) ?_
  refine g_istore_n (L' := [some (.ref (b + 0)), some (.int (zI (vI T 16 ((vI T 0 36) - 1).toNat))), some (.int (zI (vI T 17 ((vI T 0 36) - 1).toNat))), none, none]) dX7_work_23 rfl ?_
  refine g_aload_n dX7_work_24 rfl ?_
  refine g_iload_n dX7_work_25 rfl ?_
  refine g_iconst (v := zI 0) dX7_work_26 (by decide) ?_
  obtain ⟨a3, h⟩ := h
  obtain ⟨a4, h⟩ := h
  refine g_callV [.ref (b + 0), .int (zI (vI T 16 ((vI T 0 36) - 1).toNat)), .int (zI 0)] [] dX7_work_27 tG_7_219 tM_113 lM_0 rfl rfl rfl rfl (by decide) rfl ?_
  refine gC.mono (c_getZ sa b E d _ (n := vI T 0 3) (by first | exact (zI_v _ _ _).symm | rfl) a3 a4 (by decide)) (Nat.le_refl _) ?_
  rintro _ _ ⟨rfl, h9⟩
  obtain rfl := h9.symm
  refine g_istore_n (L' := [some (.ref (b + 0)), some (.int (zI (vI T 16 ((vI T 0 36) - 1).toNat))), some (.int (zI (vI T 17 ((vI T 0 36) - 1).toNat))), some (.int (zI (cV T (vI T 0 3).toNat (vI T 16 ((vI T 0 36) - 1).toNat).toNat 0))), none]) dX7_work_30 rfl ?_
  refine g_iload_n dX7_work_31 rfl ?_
  refine g_if_neZ dX7_work_32 rfl ⟨vI_lo _ _ _, vI_hi _ _ _⟩  (fun c32 => ?_) (fun c32 => ?_)
  · replace h := h.1 c32
    refine g_iload_n dX7_work_112 rfl ?_
    refine g_iconst (v := zI 1) dX7_work_113 (by decide) ?_
    refine g_icmp_neZ dX7_work_114 rfl ⟨vI_lo _ _ _, vI_hi _ _ _⟩ (by decide) (fun c114 => ?_) (fun c114 => ?_)
    · replace h := h.1 c114
      refine g_iload_n dX7_work_146 rfl ?_
      refine g_iconst (v := zI 2) dX7_work_147 (by decide) ?_
      refine g_icmp_eqZ dX7_work_148 rfl ⟨vI_lo _ _ _, vI_hi _ _ _⟩ (by decide) (fun c148 => ?_) (fun c148 => ?_)
      · replace h := h.1 c148
        exact h
      · replace h := h.2 c148
        refine g_iload_n dX7_work_151 rfl ?_
        refine g_iconst (v := zI 3) dX7_work_152 (by decide) ?_
        refine g_icmp_neZ dX7_work_153 rfl ⟨vI_lo _ _ _, vI_hi _ _ _⟩ (by decide) (fun c153 => ?_) (fun c153 => ?_)
        · replace h := h.1 c153
          refine g_aload_n dX7_work_190 rfl ?_
          refine g_getR dX7_work_191 tF_7_64 lM_0 rfl ?_
          refine g_aload_n dX7_work_194 rfl ?_
          refine g_getZ (v := vI T 0 36) dX7_work_195 tF_7_280 lM_0 rfl (zI_v T 0 36) ?_
          refine g_iconst (v := zI 1) dX7_work_198 (by decide) ?_
          refine g_isubZ dX7_work_199 ?_
          refine g_iconst (v := zI 1) dX7_work_200 (by decide) ?_
          refine g_iastZ dX7_work_201 lM_18 a1 a2 (by decide) ?_
          refine g_aload_n dX7_work_202 rfl ?_
          refine g_aload_n dX7_work_203 rfl ?_
          refine g_iload_n dX7_work_204 rfl ?_
          refine g_iconst (v := zI 3) dX7_work_205 (by decide) ?_
          obtain ⟨a5, h⟩ := h
          refine g_callV [.ref (b + 0), .int (zI (vI T 16 ((vI T 0 36) - 1).toNat)), .int (zI 3)] [.ref (b + 0)] dX7_work_206 tG_7_219 tM_113 lM_0 rfl rfl rfl rfl (by decide) rfl ?_
          refine gC.mono (c_getZ sa b E d _ (n := vI T 0 3) (by first | exact (zI_v _ _ _).symm | rfl) a3 a5 (by decide)) (Nat.le_refl _) ?_
          rintro _ _ ⟨rfl, h9⟩
          obtain rfl := h9.symm
          refine g_iload_n dX7_work_209 rfl ?_
          refine g_callV [.ref (b + 0), .int (zI (cV T (vI T 0 3).toNat (vI T 16 ((vI T 0 36) - 1).toNat).toNat 3)), .int (zI (vI T 17 ((vI T 0 36) - 1).toNat))] [] dX7_work_210 tG_7_286 tM_153 lM_0 rfl rfl rfl rfl (by decide) rfl ?_
          refine gC.mono h (Nat.le_refl _) ?_
          rintro _ T210 ⟨rfl, h⟩
          exact g_vret dX7_work_213 rfl h
        · replace h := h.2 c153
          exact h
    · replace h := h.2 c114
      refine g_aload_n dX7_work_117 rfl ?_
      refine g_iconst (v := zI 0) dX7_work_118 (by decide) ?_
      refine g_putI dX7_work_119 tF_7_271 lM_0 rfl rfl ⟨rfl, rfl⟩ rfl ?_
      refine g_aload_n dX7_work_122 rfl ?_
      refine g_aload_n dX7_work_123 rfl ?_
      refine g_iload_n dX7_work_124 rfl ?_
      refine g_iconst (v := zI 1) dX7_work_125 (by decide) ?_
      obtain ⟨a6, h⟩ := h
      refine g_callV [.ref (b + 0), .int (zI (vI T 16 ((vI T 0 36) - 1).toNat)), .int (zI 1)] [.ref (b + 0)] dX7_work_126 tG_7_219 tM_113 lM_0 rfl rfl rfl rfl (by decide) rfl ?_
      refine gC.mono (c_getZ sa b E d _ (n := vI T 0 3) (by first | exact (zI_v _ _ _).symm | rfl) a3 a6 (by decide)) (Nat.le_refl _) ?_
      rintro _ _ ⟨rfl, h9⟩
      obtain rfl := h9.symm
      refine g_i2l dX7_work_129 ?_
      refine g_putJ dX7_work_130 tF_7_274 lM_0 rfl rfl rfl ?_
      refine g_aload_n dX7_work_133 rfl ?_
      refine g_dup dX7_work_134 rfl ?_
      refine g_getZ (v := vI T 0 36) dX7_work_135 tF_7_280 lM_0 rfl (zI_v T 0 36) ?_
      refine g_iconst (v := zI 1) dX7_work_138 (by decide) ?_
      refine g_isubZ dX7_work_139 ?_
      refine g_putI dX7_work_140 tF_7_280 lM_0 rfl rfl ⟨rfl, rfl⟩ rfl ?_
      refine g_goto dX7_work_143 rfl ?_
      exact g_vret dX7_work_213 rfl h
  · replace h := h.2 c32
    refine g_iload_n dX7_work_35 rfl ?_
    refine g_istore (L' := [some (.ref (b + 0)), some (.int (zI (vI T 16 ((vI T 0 36) - 1).toNat))), some (.int (zI (vI T 17 ((vI T 0 36) - 1).toNat))), some (.int (zI (cV T (vI T 0 3).toNat (vI T 16 ((vI T 0 36) - 1).toNat).toNat 0))), some (.int (zI (vI T 17 ((vI T 0 36) - 1).toNat)))]) dX7_work_36 rfl ?_
    exact h
def f_X7_work_156 (sa : Nat → Nat) (b : Nat) (E : Nat × mH) (d : Nat) (l1 : Int) (l2 : Int) (l3 : Int) (T : gT) (Q : Option Value → gT → Prop) : Prop := 0 ≤ l1 ∧ l1 < 200 ∧ Q none (gI (gI (gJ (gI T 0 43 (zI 1)) 0 44 ((zI (vI T 5 l1.toNat)).toInt64)) 0 45 (zI l2)) 0 36 (zI ((vI T 0 36) - 1)))
set_option maxRecDepth 4000 in
theorem w_X7_work_156 {sa : Nat → Nat} {b : Nat} {E : Nat × mH} {d : Nat} {l1 : Int} {l2 : Int} {l3 : Int} {T : gT} {Q : Option Value → gT → Prop} (h : f_X7_work_156 sa b E d l1 l2 l3 T Q) : gW (tP sa) lM b E (d + 1 + 1) mX7_work 156 [some (.ref (b + 0)), some (.int (zI l1)), some (.int (zI l2)), some (.int (zI l3)), none] [] T Q := by
  unfold f_X7_work_156 at h
  refine g_aload_n dX7_work_156 rfl ?_
  refine g_iconst (v := zI 1) dX7_work_157 (by decide) ?_
  refine g_putI dX7_work_158 tF_7_271 lM_0 rfl rfl ⟨rfl, rfl⟩ rfl ?_
  refine g_aload_n dX7_work_161 rfl ?_
  refine g_aload_n dX7_work_162 rfl ?_
  refine g_getR dX7_work_163 tF_7_23 lM_0 rfl ?_
  refine g_iload_n dX7_work_166 rfl ?_
  obtain ⟨a1, h⟩ := h
  obtain ⟨a2, h⟩ := h
  refine g_ialdZ (v := vI T 5 l1.toNat) dX7_work_167 lM_5 a1 a2 (by decide) (zI_v T 5 l1.toNat) ?_
  refine g_i2l dX7_work_168 ?_
  refine g_putJ dX7_work_169 tF_7_274 lM_0 rfl rfl rfl ?_
  refine g_aload_n dX7_work_172 rfl ?_
  refine g_iload_n dX7_work_173 rfl ?_
  refine g_putI dX7_work_174 tF_7_277 lM_0 rfl rfl ⟨rfl, rfl⟩ rfl ?_
  refine g_aload_n dX7_work_177 rfl ?_
  refine g_dup dX7_work_178 rfl ?_
  refine g_getZ (v := vI T 0 36) dX7_work_179 tF_7_280 lM_0 rfl (zI_v T 0 36) ?_
  refine g_iconst (v := zI 1) dX7_work_182 (by decide) ?_
  refine g_isubZ dX7_work_183 ?_
  refine g_putI dX7_work_184 tF_7_280 lM_0 rfl rfl ⟨rfl, rfl⟩ rfl ?_
  refine g_goto dX7_work_187 rfl ?_
  exact g_vret dX7_work_213 rfl h
def f_X7_work_38 (sa : Nat → Nat) (b : Nat) (E : Nat × mH) (d : Nat) (l1 : Int) (l2 : Int) (l3 : Int) (l4 : Int) (T : gT) (Q : Option Value → gT → Prop) : Prop := 0 ≤ l4 ∧ l4 < 4200 ∧ (vI T 0 3 = 0 ∨ vI T 0 3 = 1) ∧ (0 ≤ l1 ∧ l1 < 200) ∧ (((vI T 22 l4.toNat) = (cV T (vI T 0 3).toNat l1.toNat 1) → Q none (gI (gI (gJ (gI T 0 43 (zI (vI T 23 l4.toNat))) 0 44 (T.2.1 24 l4.toNat)) 0 45 (zI (vI T 25 l4.toNat))) 0 36 (zI ((vI T 0 36) - 1)))) ∧ (¬ (vI T 22 l4.toNat) = (cV T (vI T 0 3).toNat l1.toNat 1) → gW (tP sa) lM b E (d + 1 + 1) mX7_work 38 [some (.ref (b + 0)), some (.int (zI l1)), some (.int (zI l2)), some (.int (zI l3)), some (.int (zI (vI T 26 l4.toNat)))] [] T Q))
set_option maxRecDepth 4000 in
theorem w_X7_work_38 {sa : Nat → Nat} {b : Nat} {E : Nat × mH} {d : Nat} {l1 : Int} {l2 : Int} {l3 : Int} {l4 : Int} {T : gT} {Q : Option Value → gT → Prop} (h : f_X7_work_38 sa b E d l1 l2 l3 l4 T Q) : gW (tP sa) lM b E (d + 1 + 1) mX7_work 38 [some (.ref (b + 0)), some (.int (zI l1)), some (.int (zI l2)), some (.int (zI l3)), some (.int (zI l4))] [] T Q := by
  unfold f_X7_work_38 at h
  refine g_aload_n dX7_work_38 rfl ?_
  refine g_getR dX7_work_39 tF_7_76 lM_0 rfl ?_
  refine g_iload dX7_work_42 rfl ?_
  obtain ⟨a1, h⟩ := h
  obtain ⟨a2, h⟩ := h
  refine g_ialdZ (v := vI T 22 l4.toNat) dX7_work_44 lM_22 a1 a2 (by decide) (zI_v T 22 l4.toNat) ?_
  refine g_aload_n dX7_work_45 rfl ?_
  refine g_iload_n dX7_work_46 rfl ?_
  refine g_iconst (v := zI 1) dX7_work_47 (by decide) ?_
  obtain ⟨a3, h⟩ := h
  obtain ⟨a4, h⟩ := h
  refine g_callV [.ref (b + 0), .int (zI l1), .int (zI 1)] [.int (zI (vI T 22 l4.toNat))] dX7_work_48 tG_7_219 tM_113 lM_0 rfl rfl rfl rfl (by decide) rfl ?_
  refine gC.mono (c_getZ sa b E d _ (n := vI T 0 3) (by first | exact (zI_v _ _ _).symm | rfl) a3 a4 (by decide)) (Nat.le_refl _) ?_
  rintro _ _ ⟨rfl, h9⟩
  obtain rfl := h9.symm
  refine g_icmp_eqZ dX7_work_51 rfl ⟨vI_lo _ _ _, vI_hi _ _ _⟩ ⟨vI_lo _ _ _, vI_hi _ _ _⟩ (fun c51 => ?_) (fun c51 => ?_)
  · replace h := h.1 c51
    refine g_aload_n dX7_work_66 rfl ?_
    refine g_aload_n dX7_work_67 rfl ?_
    refine g_getR dX7_work_68 tF_7_79 lM_0 rfl ?_
    refine g_iload dX7_work_71 rfl ?_
    refine g_ialdZ (v := vI T 23 l4.toNat) dX7_work_73 lM_23 a1 a2 (by decide) (zI_v T 23 l4.toNat) ?_
    refine g_putI dX7_work_74 tF_7_271 lM_0 rfl rfl ⟨rfl, rfl⟩ rfl ?_
    refine g_aload_n dX7_work_77 rfl ?_
    refine g_aload_n dX7_work_78 rfl ?_
    refine g_getR dX7_work_79 tF_7_82 lM_0 rfl ?_
    refine g_iload dX7_work_82 rfl ?_
    refine g_laldZ (v := T.2.1 24 l4.toNat) dX7_work_84 lM_24 a1 a2 (by decide) rfl ?_
    refine g_putJ dX7_work_85 tF_7_274 lM_0 rfl rfl rfl ?_
    refine g_aload_n dX7_work_88 rfl ?_
    refine g_aload_n dX7_work_89 rfl ?_
    refine g_getR dX7_work_90 tF_7_85 lM_0 rfl ?_
    refine g_iload dX7_work_93 rfl ?_
    refine g_ialdZ (v := vI T 25 l4.toNat) dX7_work_95 lM_25 a1 a2 (by decide) (zI_v T 25 l4.toNat) ?_
    refine g_putI dX7_work_96 tF_7_277 lM_0 rfl rfl ⟨rfl, rfl⟩ rfl ?_
    refine g_aload_n dX7_work_99 rfl ?_
    refine g_dup dX7_work_100 rfl ?_
    refine g_getZ (v := vI T 0 36) dX7_work_101 tF_7_280 lM_0 rfl (zI_v T 0 36) ?_
    refine g_iconst (v := zI 1) dX7_work_104 (by decide) ?_
    refine g_isubZ dX7_work_105 ?_
    refine g_putI dX7_work_106 tF_7_280 lM_0 rfl rfl ⟨rfl, rfl⟩ rfl ?_
    refine g_goto dX7_work_109 rfl ?_
    exact g_vret dX7_work_213 rfl h
  · replace h := h.2 c51
    refine g_aload_n dX7_work_54 rfl ?_
    refine g_getR dX7_work_55 tF_7_88 lM_0 rfl ?_
    refine g_iload dX7_work_58 rfl ?_
    refine g_ialdZ (v := vI T 26 l4.toNat) dX7_work_60 lM_26 a1 a2 (by decide) (zI_v T 26 l4.toNat) ?_
    refine g_istore (L' := [some (.ref (b + 0)), some (.int (zI l1)), some (.int (zI l2)), some (.int (zI l3)), some (.int (zI (vI T 26 l4.toNat)))]) dX7_work_61 rfl ?_
    refine g_goto dX7_work_63 rfl ?_
    exact h
def f_X7_reckon (sa : Nat → Nat) (b : Nat) (E : Nat × mH) (d : Nat) (l1 : Int) (l2 : Int) (l3 : Int) (T : gT) (Q : Option Value → gT → Prop) : Prop := (((vI T 0 43) = 1 → gC (tP sa) lM b E d mX7_stuck [.ref (b + 0), .int (zI l1)] T (fun r T20 => pV r (Q none T20))) ∧ (¬ (vI T 0 43) = 1 → 0 ≤ l3 ∧ l3 < 2100 ∧ ((¬ (vI T 19 l3.toNat) = 1 → (-2147483648 ≤ l2 ∧ l2 < 2147483648) ∧ ((¬ l2 = 6 → ((¬ l2 = 7 → ((¬ l2 = 8 → ((¬ l2 = 9 → ((¬ (T.2.1 20 l3.toNat) < (T.2.1 0 44) → Q none (gI (gI (gJ T 0 44 0) 0 43 (zI 0)) 0 36 (zI ((vI T 0 36) - 1)))) ∧ ((T.2.1 20 l3.toNat) < (T.2.1 0 44) → Q none (gI (gI (gJ T 0 44 1) 0 43 (zI 0)) 0 36 (zI ((vI T 0 36) - 1)))))) ∧ (l2 = 9 → ((¬ (T.2.1 20 l3.toNat) = (T.2.1 0 44) → Q none (gI (gI (gJ T 0 44 0) 0 43 (zI 0)) 0 36 (zI ((vI T 0 36) - 1)))) ∧ ((T.2.1 20 l3.toNat) = (T.2.1 0 44) → Q none (gI (gI (gJ T 0 44 1) 0 43 (zI 0)) 0 36 (zI ((vI T 0 36) - 1)))))))) ∧ (l2 = 8 → Q none (gI (gI (gJ T 0 44 ((T.2.1 20 l3.toNat) * (T.2.1 0 44))) 0 43 (zI 0)) 0 36 (zI ((vI T 0 36) - 1)))))) ∧ (l2 = 7 → Q none (gI (gI (gJ T 0 44 ((T.2.1 20 l3.toNat) - (T.2.1 0 44))) 0 43 (zI 0)) 0 36 (zI ((vI T 0 36) - 1)))))) ∧ (l2 = 6 → Q none (gI (gI (gJ T 0 44 ((T.2.1 20 l3.toNat) + (T.2.1 0 44))) 0 43 (zI 0)) 0 36 (zI ((vI T 0 36) - 1)))))) ∧ ((vI T 19 l3.toNat) = 1 → gC (tP sa) lM b E d mX7_stuck [.ref (b + 0), .int (zI l1)] T (fun r T20 => pV r (Q none T20))))))
set_option maxRecDepth 4000 in
theorem w_X7_reckon {sa : Nat → Nat} {b : Nat} {E : Nat × mH} {d : Nat} {l1 : Int} {l2 : Int} {l3 : Int} {T : gT} {Q : Option Value → gT → Prop} (h : f_X7_reckon sa b E d l1 l2 l3 T Q) : gC (tP sa) lM b E (d + 1) mX7_reckon [.ref (b + 0), .int (zI l1), .int (zI l2), .int (zI l3)] T Q := by
  unfold f_X7_reckon at h
  refine ⟨Nat.le_of_ble_eq_true rfl, ?_⟩
  show gW (tP sa) lM b E (d + 1) mX7_reckon 0 [some (.ref (b + 0)), some (.int (zI l1)), some (.int (zI l2)), some (.int (zI l3)), none, none] [] T Q
  refine g_aload_n dX7_reckon_0 rfl ?_
  refine g_getZ (v := vI T 0 43) dX7_reckon_1 tF_7_271 lM_0 rfl (zI_v T 0 43) ?_
  refine g_iconst (v := zI 1) dX7_reckon_4 (by decide) ?_
  refine g_icmp_eqZ dX7_reckon_5 rfl ⟨vI_lo _ _ _, vI_hi _ _ _⟩ (by decide) (fun c5 => ?_) (fun c5 => ?_)
  · replace h := h.1 c5
    refine g_aload_n dX7_reckon_18 rfl ?_
    refine g_iload_n dX7_reckon_19 rfl ?_
    refine g_callV [.ref (b + 0), .int (zI l1)] [] dX7_reckon_20 tG_7_296 tM_157 lM_0 rfl rfl rfl rfl (by decide) rfl ?_
    refine gC.mono h (Nat.le_refl _) ?_
    rintro _ T20 ⟨rfl, h⟩
    exact g_vret dX7_reckon_23 rfl h
  · replace h := h.2 c5
    refine g_aload_n dX7_reckon_8 rfl ?_
    refine g_getR dX7_reckon_9 tF_7_67 lM_0 rfl ?_
    refine g_iload_n dX7_reckon_12 rfl ?_
    obtain ⟨a1, h⟩ := h
    obtain ⟨a2, h⟩ := h
    refine g_ialdZ (v := vI T 19 l3.toNat) dX7_reckon_13 lM_19 a1 a2 (by decide) (zI_v T 19 l3.toNat) ?_
    refine g_iconst (v := zI 1) dX7_reckon_14 (by decide) ?_
    refine g_icmp_neZ dX7_reckon_15 rfl ⟨vI_lo _ _ _, vI_hi _ _ _⟩ (by decide) (fun c15 => ?_) (fun c15 => ?_)
    · replace h := h.1 c15
      refine g_aload_n dX7_reckon_24 rfl ?_
      refine g_getR dX7_reckon_25 tF_7_70 lM_0 rfl ?_
      refine g_iload_n dX7_reckon_28 rfl ?_
      refine g_laldZ (v := T.2.1 20 l3.toNat) dX7_reckon_29 lM_20 a1 a2 (by decide) rfl ?_
      refine g_lstore (L' := [some (.ref (b + 0)), some (.int (zI l1)), some (.int (zI l2)), some (.int (zI l3)), some (.long (T.2.1 20 l3.toNat)), none]) dX7_reckon_30 rfl ?_
      refine g_aload_n dX7_reckon_32 rfl ?_
      refine g_iload_n dX7_reckon_33 rfl ?_
      refine g_bipush (v := zI 6) dX7_reckon_34 (by decide) ?_
      obtain ⟨a3, h⟩ := h
      refine g_icmp_neZ dX7_reckon_36 rfl a3 (by decide) (fun c36 => ?_) (fun c36 => ?_)
      · replace h := h.1 c36
        refine g_iload_n dX7_reckon_49 rfl ?_
        refine g_bipush (v := zI 7) dX7_reckon_50 (by decide) ?_
        refine g_icmp_neZ dX7_reckon_52 rfl a3 (by decide) (fun c52 => ?_) (fun c52 => ?_)
        · replace h := h.1 c52
          refine g_iload_n dX7_reckon_65 rfl ?_
          refine g_bipush (v := zI 8) dX7_reckon_66 (by decide) ?_
          refine g_icmp_neZ dX7_reckon_68 rfl a3 (by decide) (fun c68 => ?_) (fun c68 => ?_)
          · replace h := h.1 c68
            refine g_iload_n dX7_reckon_81 rfl ?_
            refine g_bipush (v := zI 9) dX7_reckon_82 (by decide) ?_
            refine g_icmp_neZ dX7_reckon_84 rfl a3 (by decide) (fun c84 => ?_) (fun c84 => ?_)
            · replace h := h.1 c84
              refine g_lload dX7_reckon_105 rfl ?_
              refine g_aload_n dX7_reckon_107 rfl ?_
              refine g_getJv (v := T.2.1 0 44) dX7_reckon_108 tF_7_274 lM_0 rfl rfl ?_
              refine g_lcmp dX7_reckon_111 ?_
              refine g_if_geL dX7_reckon_112 rfl (fun c112 => ?_) (fun c112 => ?_)
              · replace h := h.1 c112
                refine g_lconst (v := 0) dX7_reckon_119 (by decide) ?_
                refine g_putJ dX7_reckon_120 tF_7_274 lM_0 rfl rfl rfl ?_
                refine g_aload_n dX7_reckon_123 rfl ?_
                refine g_iconst (v := zI 0) dX7_reckon_124 (by decide) ?_
                refine g_putI dX7_reckon_125 tF_7_271 lM_0 rfl rfl ⟨rfl, rfl⟩ rfl ?_
                refine g_aload_n dX7_reckon_128 rfl ?_
                refine g_dup dX7_reckon_129 rfl ?_
                refine g_getZ (v := vI T 0 36) dX7_reckon_130 tF_7_280 lM_0 rfl (zI_v T 0 36) ?_
                refine g_iconst (v := zI 1) dX7_reckon_133 (by decide) ?_
                refine g_isubZ dX7_reckon_134 ?_
                refine g_putI dX7_reckon_135 tF_7_280 lM_0 rfl rfl ⟨rfl, rfl⟩ rfl ?_
                exact g_vret dX7_reckon_138 rfl h
              · replace h := h.2 c112
                refine g_lconst (v := 1) dX7_reckon_115 (by decide) ?_
                refine g_goto dX7_reckon_116 rfl ?_
                refine g_putJ dX7_reckon_120 tF_7_274 lM_0 rfl rfl rfl ?_
                refine g_aload_n dX7_reckon_123 rfl ?_
                refine g_iconst (v := zI 0) dX7_reckon_124 (by decide) ?_
                refine g_putI dX7_reckon_125 tF_7_271 lM_0 rfl rfl ⟨rfl, rfl⟩ rfl ?_
                refine g_aload_n dX7_reckon_128 rfl ?_
                refine g_dup dX7_reckon_129 rfl ?_
                refine g_getZ (v := vI T 0 36) dX7_reckon_130 tF_7_280 lM_0 rfl (zI_v T 0 36) ?_
                refine g_iconst (v := zI 1) dX7_reckon_133 (by decide) ?_
                refine g_isubZ dX7_reckon_134 ?_
                refine g_putI dX7_reckon_135 tF_7_280 lM_0 rfl rfl ⟨rfl, rfl⟩ rfl ?_
                exact g_vret dX7_reckon_138 rfl h
            · replace h := h.2 c84
              refine g_lload dX7_reckon_87 rfl ?_
              refine g_aload_n dX7_reckon_89 rfl ?_
              refine g_getJv (v := T.2.1 0 44) dX7_reckon_90 tF_7_274 lM_0 rfl rfl ?_
              refine g_lcmp dX7_reckon_93 ?_
              refine g_if_neL dX7_reckon_94 rfl (fun c94 => ?_) (fun c94 => ?_)
              · replace h := h.1 c94
                refine g_lconst (v := 0) dX7_reckon_101 (by decide) ?_
                refine g_goto dX7_reckon_102 rfl ?_
                refine g_putJ dX7_reckon_120 tF_7_274 lM_0 rfl rfl rfl ?_
                refine g_aload_n dX7_reckon_123 rfl ?_
                refine g_iconst (v := zI 0) dX7_reckon_124 (by decide) ?_
                refine g_putI dX7_reckon_125 tF_7_271 lM_0 rfl rfl ⟨rfl, rfl⟩ rfl ?_
                refine g_aload_n dX7_reckon_128 rfl ?_
                refine g_dup dX7_reckon_129 rfl ?_
                refine g_getZ (v := vI T 0 36) dX7_reckon_130 tF_7_280 lM_0 rfl (zI_v T 0 36) ?_
                refine g_iconst (v := zI 1) dX7_reckon_133 (by decide) ?_
                refine g_isubZ dX7_reckon_134 ?_
                refine g_putI dX7_reckon_135 tF_7_280 lM_0 rfl rfl ⟨rfl, rfl⟩ rfl ?_
                exact g_vret dX7_reckon_138 rfl h
              · replace h := h.2 c94
                refine g_lconst (v := 1) dX7_reckon_97 (by decide) ?_
                refine g_goto dX7_reckon_98 rfl ?_
                refine g_putJ dX7_reckon_120 tF_7_274 lM_0 rfl rfl rfl ?_
                refine g_aload_n dX7_reckon_123 rfl ?_
                refine g_iconst (v := zI 0) dX7_reckon_124 (by decide) ?_
                refine g_putI dX7_reckon_125 tF_7_271 lM_0 rfl rfl ⟨rfl, rfl⟩ rfl ?_
                refine g_aload_n dX7_reckon_128 rfl ?_
                refine g_dup dX7_reckon_129 rfl ?_
                refine g_getZ (v := vI T 0 36) dX7_reckon_130 tF_7_280 lM_0 rfl (zI_v T 0 36) ?_
                refine g_iconst (v := zI 1) dX7_reckon_133 (by decide) ?_
                refine g_isubZ dX7_reckon_134 ?_
                refine g_putI dX7_reckon_135 tF_7_280 lM_0 rfl rfl ⟨rfl, rfl⟩ rfl ?_
                exact g_vret dX7_reckon_138 rfl h
          · replace h := h.2 c68
            refine g_lload dX7_reckon_71 rfl ?_
            refine g_aload_n dX7_reckon_73 rfl ?_
            refine g_getJv (v := T.2.1 0 44) dX7_reckon_74 tF_7_274 lM_0 rfl rfl ?_
            refine g_lmul dX7_reckon_77 ?_
            refine g_goto dX7_reckon_78 rfl ?_
            refine g_putJ dX7_reckon_120 tF_7_274 lM_0 rfl rfl rfl ?_
            refine g_aload_n dX7_reckon_123 rfl ?_
            refine g_iconst (v := zI 0) dX7_reckon_124 (by decide) ?_
            refine g_putI dX7_reckon_125 tF_7_271 lM_0 rfl rfl ⟨rfl, rfl⟩ rfl ?_
            refine g_aload_n dX7_reckon_128 rfl ?_
            refine g_dup dX7_reckon_129 rfl ?_
            refine g_getZ (v := vI T 0 36) dX7_reckon_130 tF_7_280 lM_0 rfl (zI_v T 0 36) ?_
            refine g_iconst (v := zI 1) dX7_reckon_133 (by decide) ?_
            refine g_isubZ dX7_reckon_134 ?_
            refine g_putI dX7_reckon_135 tF_7_280 lM_0 rfl rfl ⟨rfl, rfl⟩ rfl ?_
            exact g_vret dX7_reckon_138 rfl h
        · replace h := h.2 c52
          refine g_lload dX7_reckon_55 rfl ?_
          refine g_aload_n dX7_reckon_57 rfl ?_
          refine g_getJv (v := T.2.1 0 44) dX7_reckon_58 tF_7_274 lM_0 rfl rfl ?_
          refine g_lsub dX7_reckon_61 ?_
          refine g_goto dX7_reckon_62 rfl ?_
          refine g_putJ dX7_reckon_120 tF_7_274 lM_0 rfl rfl rfl ?_
          refine g_aload_n dX7_reckon_123 rfl ?_
          refine g_iconst (v := zI 0) dX7_reckon_124 (by decide) ?_
          refine g_putI dX7_reckon_125 tF_7_271 lM_0 rfl rfl ⟨rfl, rfl⟩ rfl ?_
          refine g_aload_n dX7_reckon_128 rfl ?_
          refine g_dup dX7_reckon_129 rfl ?_
          refine g_getZ (v := vI T 0 36) dX7_reckon_130 tF_7_280 lM_0 rfl (zI_v T 0 36) ?_
          refine g_iconst (v := zI 1) dX7_reckon_133 (by decide) ?_
          refine g_isubZ dX7_reckon_134 ?_
          refine g_putI dX7_reckon_135 tF_7_280 lM_0 rfl rfl ⟨rfl, rfl⟩ rfl ?_
          exact g_vret dX7_reckon_138 rfl h
      · replace h := h.2 c36
        refine g_lload dX7_reckon_39 rfl ?_
        refine g_aload_n dX7_reckon_41 rfl ?_
        refine g_getJv (v := T.2.1 0 44) dX7_reckon_42 tF_7_274 lM_0 rfl rfl ?_
        refine g_ladd dX7_reckon_45 ?_
        refine g_goto dX7_reckon_46 rfl ?_
        refine g_putJ dX7_reckon_120 tF_7_274 lM_0 rfl rfl rfl ?_
        refine g_aload_n dX7_reckon_123 rfl ?_
        refine g_iconst (v := zI 0) dX7_reckon_124 (by decide) ?_
        refine g_putI dX7_reckon_125 tF_7_271 lM_0 rfl rfl ⟨rfl, rfl⟩ rfl ?_
        refine g_aload_n dX7_reckon_128 rfl ?_
        refine g_dup dX7_reckon_129 rfl ?_
        refine g_getZ (v := vI T 0 36) dX7_reckon_130 tF_7_280 lM_0 rfl (zI_v T 0 36) ?_
        refine g_iconst (v := zI 1) dX7_reckon_133 (by decide) ?_
        refine g_isubZ dX7_reckon_134 ?_
        refine g_putI dX7_reckon_135 tF_7_280 lM_0 rfl rfl ⟨rfl, rfl⟩ rfl ?_
        exact g_vret dX7_reckon_138 rfl h
    · replace h := h.2 c15
      refine g_aload_n dX7_reckon_18 rfl ?_
      refine g_iload_n dX7_reckon_19 rfl ?_
      refine g_callV [.ref (b + 0), .int (zI l1)] [] dX7_reckon_20 tG_7_296 tM_157 lM_0 rfl rfl rfl rfl (by decide) rfl ?_
      refine gC.mono h (Nat.le_refl _) ?_
      rintro _ T20 ⟨rfl, h⟩
      exact g_vret dX7_reckon_23 rfl h
def f_X7_changed (sa : Nat → Nat) (b : Nat) (E : Nat × mH) (d : Nat) (l1 : Int) (T : gT) (Q : Option Value → gT → Prop) : Prop := 0 ≤ 1 - (vI T 0 3) ∧ 1 - (vI T 0 3) < 2 ∧ gC (tP sa) lM b E d mX7_copy [.ref (b + 0), .int (zI 0), .int (zI (-1)), .int (zI l1)] (gI (gI (gI (gI T 2 (1 - (vI T 0 3)).toNat (zI 0)) 3 (1 - (vI T 0 3)).toNat (zI 0)) 0 48 (zI 0)) 0 49 (zI 0)) (fun r T35 => pI r (fun v35 => (((vI T35 0 49) = 0 → gC (tP sa) lM b E d mX7_change [.ref (b + 0)] T35 (fun r T49 => pV r (0 ≤ vI T49 0 3 ∧ vI T49 0 3 < 2 ∧ Q (some (.int (zI (vI T49 2 (vI T49 0 3).toNat)))) T49))) ∧ (¬ (vI T35 0 49) = 0 → Q (some (.int (zI (-1)))) T35))))
set_option maxRecDepth 4000 in
theorem w_X7_changed {sa : Nat → Nat} {b : Nat} {E : Nat × mH} {d : Nat} {l1 : Int} {T : gT} {Q : Option Value → gT → Prop} (h : f_X7_changed sa b E d l1 T Q) : gC (tP sa) lM b E (d + 1) mX7_changed [.ref (b + 0), .int (zI l1)] T Q := by
  unfold f_X7_changed at h
  refine ⟨Nat.le_of_ble_eq_true rfl, ?_⟩
  show gW (tP sa) lM b E (d + 1) mX7_changed 0 [some (.ref (b + 0)), some (.int (zI l1)), none, none] [] T Q
  refine g_iconst (v := zI 1) dX7_changed_0 (by decide) ?_
  refine g_aload_n dX7_changed_1 rfl ?_
  refine g_getZ (v := vI T 0 3) dX7_changed_2 tF_7_101 lM_0 rfl (zI_v T 0 3) ?_
  refine g_isubZ dX7_changed_5 ?_
  refine g_istore_n (L' := [some (.ref (b + 0)), some (.int (zI l1)), some (.int (zI (1 - (vI T 0 3)))), none]) dX7_changed_6 rfl ?_
  refine g_aload_n dX7_changed_7 rfl ?_
  refine g_getR dX7_changed_8 tF_7_13 lM_0 rfl ?_
  refine g_iload_n dX7_changed_11 rfl ?_
  refine g_iconst (v := zI 0) dX7_changed_12 (by decide) ?_
  obtain ⟨a1, h⟩ := h
  obtain ⟨a2, h⟩ := h
  refine g_iastZ dX7_changed_13 lM_2 a1 a2 (by decide) ?_
  refine g_aload_n dX7_changed_14 rfl ?_
  refine g_getR dX7_changed_15 tF_7_17 lM_0 rfl ?_
  refine g_iload_n dX7_changed_18 rfl ?_
  refine g_iconst (v := zI 0) dX7_changed_19 (by decide) ?_
  refine g_iastZ dX7_changed_20 lM_3 a1 a2 (by decide) ?_
  refine g_aload_n dX7_changed_21 rfl ?_
  refine g_iconst (v := zI 0) dX7_changed_22 (by decide) ?_
  refine g_putI dX7_changed_23 tF_7_317 lM_0 rfl rfl ⟨rfl, rfl⟩ rfl ?_
  refine g_aload_n dX7_changed_26 rfl ?_
  refine g_iconst (v := zI 0) dX7_changed_27 (by decide) ?_
  refine g_putI dX7_changed_28 tF_7_309 lM_0 rfl rfl ⟨rfl, rfl⟩ rfl ?_
  refine g_aload_n dX7_changed_31 rfl ?_
  refine g_iconst (v := zI 0) dX7_changed_32 (by decide) ?_
  refine g_iconst (v := zI (-1)) dX7_changed_33 (by decide) ?_
  refine g_iload_n dX7_changed_34 rfl ?_
  refine g_callV [.ref (b + 0), .int (zI 0), .int (zI (-1)), .int (zI l1)] [] dX7_changed_35 tG_7_312 tM_162 lM_0 rfl rfl rfl rfl (by decide) rfl ?_
  refine gC.mono h (Nat.le_refl _) ?_
  rintro _ T35 ⟨v35, rfl, h⟩
  refine g_istore_n (L' := [some (.ref (b + 0)), some (.int (zI l1)), some (.int (zI (1 - (vI T 0 3)))), some (.int (zI v35))]) dX7_changed_38 rfl ?_
  refine g_aload_n dX7_changed_39 rfl ?_
  refine g_getZ (v := vI T35 0 49) dX7_changed_40 tF_7_309 lM_0 rfl (zI_v T35 0 49) ?_
  refine g_if_eqZ dX7_changed_43 rfl ⟨vI_lo _ _ _, vI_hi _ _ _⟩  (fun c43 => ?_) (fun c43 => ?_)
  · replace h := h.1 c43
    refine g_aload_n dX7_changed_48 rfl ?_
    refine g_callV [.ref (b + 0)] [] dX7_changed_49 tG_7_200 tM_131 lM_0 rfl rfl rfl rfl (by decide) rfl ?_
    refine gC.mono h (Nat.le_refl _) ?_
    rintro _ T49 ⟨rfl, h⟩
    refine g_aload_n dX7_changed_52 rfl ?_
    refine g_getR dX7_changed_53 tF_7_13 lM_0 rfl ?_
    refine g_aload_n dX7_changed_56 rfl ?_
    refine g_getZ (v := vI T49 0 3) dX7_changed_57 tF_7_101 lM_0 rfl (zI_v T49 0 3) ?_
    obtain ⟨a3, h⟩ := h
    obtain ⟨a4, h⟩ := h
    refine g_ialdZ (v := vI T49 2 (vI T49 0 3).toNat) dX7_changed_60 lM_2 a3 a4 (by decide) (zI_v T49 2 (vI T49 0 3).toNat) ?_
    exact g_iret dX7_changed_61 rfl rfl h
  · replace h := h.2 c43
    refine g_iconst (v := zI (-1)) dX7_changed_46 (by decide) ?_
    exact g_iret dX7_changed_47 rfl rfl h
def f_X7_inline (sa : Nat → Nat) (b : Nat) (E : Nat × mH) (d : Nat) (l1 : Int) (T : gT) (Q : Option Value → gT → Prop) : Prop := gC (tP sa) lM b E (d + 1) mX7_isLabel [.ref (b + 0), .int (zI l1)] (gI T 0 0 (zI 0)) (fun r T7 => pI r (fun v7 => (-2147483648 ≤ v7 ∧ v7 < 2147483648) ∧ ((v7 = 0 → Q (some (.int (zI (-2)))) T7) ∧ (¬ v7 = 0 → (vI T7 0 3 = 0 ∨ vI T7 0 3 = 1) ∧ (0 ≤ l1 ∧ l1 < 200) ∧ (((cV T7 (vI T7 0 3).toNat l1.toNat 0) = 11 → gC (tP sa) lM b E (d + 1) mX7_canInline [.ref (b + 0), .int (zI l1)] T7 (fun r T29 => pI r (fun v29 => (-2147483648 ≤ v29 ∧ v29 < 2147483648) ∧ ((v29 = 0 → Q (some (.int (zI (-1)))) T29) ∧ (¬ v29 = 0 → gC (tP sa) lM b E (d + 1) mX7_changed [.ref (b + 0), .int (zI l1)] T29 (fun r T37 => pI r (fun v37 => Q (some (.int (zI v37))) T37))))))) ∧ (¬ (cV T7 (vI T7 0 3).toNat l1.toNat 0) = 11 → Q (some (.int (zI (-2)))) T7))))))
set_option maxRecDepth 4000 in
theorem w_X7_inline {sa : Nat → Nat} {b : Nat} {E : Nat × mH} {d : Nat} {l1 : Int} {T : gT} {Q : Option Value → gT → Prop} (h : f_X7_inline sa b E d l1 T Q) : gC (tP sa) lM b E (d + 1 + 1) mX7_inline [.ref (b + 0), .int (zI l1)] T Q := by
  unfold f_X7_inline at h
  refine ⟨Nat.le_of_ble_eq_true rfl, ?_⟩
  show gW (tP sa) lM b E (d + 1 + 1) mX7_inline 0 [some (.ref (b + 0)), some (.int (zI l1))] [] T Q
  refine g_aload_n dX7_inline_0 rfl ?_
  refine g_iconst (v := zI 0) dX7_inline_1 (by decide) ?_
  refine g_putI dX7_inline_2 tF_7_97 lM_0 rfl rfl ⟨rfl, rfl⟩ rfl ?_
  refine g_aload_n dX7_inline_5 rfl ?_
  refine g_iload_n dX7_inline_6 rfl ?_
  refine g_callV [.ref (b + 0), .int (zI l1)] [] dX7_inline_7 tG_7_262 tM_136 lM_0 rfl rfl rfl rfl (by decide) rfl ?_
  refine gC.mono h (Nat.le_refl _) ?_
  rintro _ T7 ⟨v7, rfl, h⟩
  obtain ⟨a1, h⟩ := h
  refine g_if_eqZ dX7_inline_10 rfl a1  (fun c10 => ?_) (fun c10 => ?_)
  · replace h := h.1 c10
    refine g_bipush (v := zI (-2)) dX7_inline_24 (by decide) ?_
    exact g_iret dX7_inline_26 rfl rfl h
  · replace h := h.2 c10
    refine g_aload_n dX7_inline_13 rfl ?_
    refine g_iload_n dX7_inline_14 rfl ?_
    refine g_iconst (v := zI 0) dX7_inline_15 (by decide) ?_
    obtain ⟨a2, h⟩ := h
    obtain ⟨a3, h⟩ := h
    refine g_callV [.ref (b + 0), .int (zI l1), .int (zI 0)] [] dX7_inline_16 tG_7_219 tM_113 lM_0 rfl rfl rfl rfl (by decide) rfl ?_
    refine gC.mono (c_getZ sa b E d _ (n := vI T7 0 3) (by first | exact (zI_v _ _ _).symm | rfl) a2 a3 (by decide)) (Nat.le_refl _) ?_
    rintro _ _ ⟨rfl, h9⟩
    obtain rfl := h9.symm
    refine g_bipush (v := zI 11) dX7_inline_19 (by decide) ?_
    refine g_icmp_eqZ dX7_inline_21 rfl ⟨vI_lo _ _ _, vI_hi _ _ _⟩ (by decide) (fun c21 => ?_) (fun c21 => ?_)
    · replace h := h.1 c21
      refine g_aload_n dX7_inline_27 rfl ?_
      refine g_iload_n dX7_inline_28 rfl ?_
      refine g_callV [.ref (b + 0), .int (zI l1)] [] dX7_inline_29 tG_7_256 tM_143 lM_0 rfl rfl rfl rfl (by decide) rfl ?_
      refine gC.mono h (Nat.le_refl _) ?_
      rintro _ T29 ⟨v29, rfl, h⟩
      obtain ⟨a4, h⟩ := h
      refine g_if_eqZ dX7_inline_32 rfl a4  (fun c32 => ?_) (fun c32 => ?_)
      · replace h := h.1 c32
        refine g_iconst (v := zI (-1)) dX7_inline_43 (by decide) ?_
        exact g_iret dX7_inline_44 rfl rfl h
      · replace h := h.2 c32
        refine g_aload_n dX7_inline_35 rfl ?_
        refine g_iload_n dX7_inline_36 rfl ?_
        refine g_callV [.ref (b + 0), .int (zI l1)] [] dX7_inline_37 tG_7_326 tM_166 lM_0 rfl rfl rfl rfl (by decide) rfl ?_
        refine gC.mono h (Nat.le_refl _) ?_
        rintro _ T37 ⟨v37, rfl, h⟩
        refine g_goto dX7_inline_40 rfl ?_
        exact g_iret dX7_inline_44 rfl rfl h
    · replace h := h.2 c21
      refine g_bipush (v := zI (-2)) dX7_inline_24 (by decide) ?_
      exact g_iret dX7_inline_26 rfl rfl h
def f_X7_drop (sa : Nat → Nat) (b : Nat) (E : Nat × mH) (d : Nat) (l1 : Int) (T : gT) (Q : Option Value → gT → Prop) : Prop := gC (tP sa) lM b E (d + 1) mX7_isLabel [.ref (b + 0), .int (zI l1)] (gI T 0 0 (zI 0)) (fun r T7 => pI r (fun v7 => (-2147483648 ≤ v7 ∧ v7 < 2147483648) ∧ ((v7 = 0 → Q (some (.int (zI (-2)))) T7) ∧ (¬ v7 = 0 → (vI T7 0 3 = 0 ∨ vI T7 0 3 = 1) ∧ (0 ≤ l1 ∧ l1 < 200) ∧ (((cV T7 (vI T7 0 3).toNat l1.toNat 0) = 5 → gC (tP sa) lM b E (d + 1) mX7_canDrop [.ref (b + 0), .int (zI l1)] T7 (fun r T28 => pI r (fun v28 => (-2147483648 ≤ v28 ∧ v28 < 2147483648) ∧ ((v28 = 0 → Q (some (.int (zI (-1)))) T28) ∧ (¬ v28 = 0 → gC (tP sa) lM b E (d + 1) mX7_changed [.ref (b + 0), .int (zI l1)] T28 (fun r T36 => pI r (fun v36 => Q (some (.int (zI v36))) T36))))))) ∧ (¬ (cV T7 (vI T7 0 3).toNat l1.toNat 0) = 5 → Q (some (.int (zI (-2)))) T7))))))
set_option maxRecDepth 4000 in
theorem w_X7_drop {sa : Nat → Nat} {b : Nat} {E : Nat × mH} {d : Nat} {l1 : Int} {T : gT} {Q : Option Value → gT → Prop} (h : f_X7_drop sa b E d l1 T Q) : gC (tP sa) lM b E (d + 1 + 1) mX7_drop [.ref (b + 0), .int (zI l1)] T Q := by
  unfold f_X7_drop at h
  refine ⟨Nat.le_of_ble_eq_true rfl, ?_⟩
  show gW (tP sa) lM b E (d + 1 + 1) mX7_drop 0 [some (.ref (b + 0)), some (.int (zI l1))] [] T Q
  refine g_aload_n dX7_drop_0 rfl ?_
  refine g_iconst (v := zI 0) dX7_drop_1 (by decide) ?_
  refine g_putI dX7_drop_2 tF_7_97 lM_0 rfl rfl ⟨rfl, rfl⟩ rfl ?_
  refine g_aload_n dX7_drop_5 rfl ?_
  refine g_iload_n dX7_drop_6 rfl ?_
  refine g_callV [.ref (b + 0), .int (zI l1)] [] dX7_drop_7 tG_7_262 tM_136 lM_0 rfl rfl rfl rfl (by decide) rfl ?_
  refine gC.mono h (Nat.le_refl _) ?_
  rintro _ T7 ⟨v7, rfl, h⟩
  obtain ⟨a1, h⟩ := h
  refine g_if_eqZ dX7_drop_10 rfl a1  (fun c10 => ?_) (fun c10 => ?_)
  · replace h := h.1 c10
    refine g_bipush (v := zI (-2)) dX7_drop_23 (by decide) ?_
    exact g_iret dX7_drop_25 rfl rfl h
  · replace h := h.2 c10
    refine g_aload_n dX7_drop_13 rfl ?_
    refine g_iload_n dX7_drop_14 rfl ?_
    refine g_iconst (v := zI 0) dX7_drop_15 (by decide) ?_
    obtain ⟨a2, h⟩ := h
    obtain ⟨a3, h⟩ := h
    refine g_callV [.ref (b + 0), .int (zI l1), .int (zI 0)] [] dX7_drop_16 tG_7_219 tM_113 lM_0 rfl rfl rfl rfl (by decide) rfl ?_
    refine gC.mono (c_getZ sa b E d _ (n := vI T7 0 3) (by first | exact (zI_v _ _ _).symm | rfl) a2 a3 (by decide)) (Nat.le_refl _) ?_
    rintro _ _ ⟨rfl, h9⟩
    obtain rfl := h9.symm
    refine g_iconst (v := zI 5) dX7_drop_19 (by decide) ?_
    refine g_icmp_eqZ dX7_drop_20 rfl ⟨vI_lo _ _ _, vI_hi _ _ _⟩ (by decide) (fun c20 => ?_) (fun c20 => ?_)
    · replace h := h.1 c20
      refine g_aload_n dX7_drop_26 rfl ?_
      refine g_iload_n dX7_drop_27 rfl ?_
      refine g_callV [.ref (b + 0), .int (zI l1)] [] dX7_drop_28 tG_7_259 tM_144 lM_0 rfl rfl rfl rfl (by decide) rfl ?_
      refine gC.mono h (Nat.le_refl _) ?_
      rintro _ T28 ⟨v28, rfl, h⟩
      obtain ⟨a4, h⟩ := h
      refine g_if_eqZ dX7_drop_31 rfl a4  (fun c31 => ?_) (fun c31 => ?_)
      · replace h := h.1 c31
        refine g_iconst (v := zI (-1)) dX7_drop_42 (by decide) ?_
        exact g_iret dX7_drop_43 rfl rfl h
      · replace h := h.2 c31
        refine g_aload_n dX7_drop_34 rfl ?_
        refine g_iload_n dX7_drop_35 rfl ?_
        refine g_callV [.ref (b + 0), .int (zI l1)] [] dX7_drop_36 tG_7_326 tM_166 lM_0 rfl rfl rfl rfl (by decide) rfl ?_
        refine gC.mono h (Nat.le_refl _) ?_
        rintro _ T36 ⟨v36, rfl, h⟩
        refine g_goto dX7_drop_39 rfl ?_
        exact g_iret dX7_drop_43 rfl rfl h
    · replace h := h.2 c20
      refine g_bipush (v := zI (-2)) dX7_drop_23 (by decide) ?_
      exact g_iret dX7_drop_25 rfl rfl h
def f_X7_type (sa : Nat → Nat) (b : Nat) (E : Nat × mH) (d : Nat) (l1 : Int64) (l3 : Int) (T : gT) (Q : Option Value → gT → Prop) : Prop := (-2147483648 ≤ l3 ∧ l3 < 2147483648) ∧ ((l3 < 0 → Q (some (.int (zI 0))) (gI T 0 0 (zI 1))) ∧ (¬ l3 < 0 → ((l3 ≤ 8 → (-2147483648 ≤ (vI T 0 2) + l3 ∧ (vI T 0 2) + l3 < 2147483648) ∧ ((((vI T 0 2) + l3) ≤ 400 → gW (tP sa) lM b E d mX7_type 47 [some (.ref (b + 0)), some (.long l1), none, some (.int (zI l3)), some (.int (zI 0))] [] (gI T 0 0 (zI 0)) Q) ∧ (¬ ((vI T 0 2) + l3) ≤ 400 → Q (some (.int (zI 0))) (gI T 0 0 (zI 2))))) ∧ (¬ l3 ≤ 8 → Q (some (.int (zI 0))) (gI T 0 0 (zI 1))))))
set_option maxRecDepth 4000 in
theorem w_X7_type {sa : Nat → Nat} {b : Nat} {E : Nat × mH} {d : Nat} {l1 : Int64} {l3 : Int} {T : gT} {Q : Option Value → gT → Prop} (h : f_X7_type sa b E d l1 l3 T Q) : gC (tP sa) lM b E d mX7_type [.ref (b + 0), .long l1, .int (zI l3)] T Q := by
  unfold f_X7_type at h
  refine ⟨Nat.le_of_ble_eq_true rfl, ?_⟩
  show gW (tP sa) lM b E d mX7_type 0 [some (.ref (b + 0)), some (.long l1), none, some (.int (zI l3)), none] [] T Q
  refine g_aload_n dX7_type_0 rfl ?_
  refine g_iload_n dX7_type_1 rfl ?_
  obtain ⟨a1, h⟩ := h
  refine g_if_ltZ dX7_type_2 rfl a1  (fun c2 => ?_) (fun c2 => ?_)
  · replace h := h.1 c2
    refine g_iconst (v := zI 1) dX7_type_11 (by decide) ?_
    refine g_goto dX7_type_12 rfl ?_
    refine g_putI dX7_type_32 tF_7_97 lM_0 rfl rfl ⟨rfl, rfl⟩ rfl ?_
    refine g_aload_n dX7_type_35 rfl ?_
    refine g_getZ (v := 1) dX7_type_36 tF_7_97 lM_0 rfl rfl ?_
    refine g_if_no dX7_type_39 rfl (by decide) ?_
    refine g_iconst (v := zI 0) dX7_type_42 (by decide) ?_
    exact g_iret dX7_type_43 rfl rfl h
  · replace h := h.2 c2
    refine g_iload_n dX7_type_5 rfl ?_
    refine g_bipush (v := zI 8) dX7_type_6 (by decide) ?_
    refine g_icmp_leZ dX7_type_8 rfl a1 (by decide) (fun c8 => ?_) (fun c8 => ?_)
    · replace h := h.1 c8
      refine g_aload_n dX7_type_15 rfl ?_
      refine g_getZ (v := vI T 0 2) dX7_type_16 tF_7_115 lM_0 rfl (zI_v T 0 2) ?_
      refine g_iload_n dX7_type_19 rfl ?_
      refine g_iaddZ dX7_type_20 ?_
      refine g_sipush (v := zI 400) dX7_type_21 (by decide) ?_
      obtain ⟨a2, h⟩ := h
      refine g_icmp_leZ dX7_type_24 rfl a2 (by decide) (fun c24 => ?_) (fun c24 => ?_)
      · replace h := h.1 c24
        refine g_iconst (v := zI 0) dX7_type_31 (by decide) ?_
        refine g_putI dX7_type_32 tF_7_97 lM_0 rfl rfl ⟨rfl, rfl⟩ rfl ?_
        refine g_aload_n dX7_type_35 rfl ?_
        refine g_getZ (v := 0) dX7_type_36 tF_7_97 lM_0 rfl rfl ?_
        refine g_if_y dX7_type_39 rfl (by decide) ?_
        refine g_iconst (v := zI 0) dX7_type_44 (by decide) ?_
        refine g_istore (L' := [some (.ref (b + 0)), some (.long l1), none, some (.int (zI l3)), some (.int (zI 0))]) dX7_type_45 rfl ?_
        exact h
      · replace h := h.2 c24
        refine g_iconst (v := zI 2) dX7_type_27 (by decide) ?_
        refine g_goto dX7_type_28 rfl ?_
        refine g_putI dX7_type_32 tF_7_97 lM_0 rfl rfl ⟨rfl, rfl⟩ rfl ?_
        refine g_aload_n dX7_type_35 rfl ?_
        refine g_getZ (v := 2) dX7_type_36 tF_7_97 lM_0 rfl rfl ?_
        refine g_if_no dX7_type_39 rfl (by decide) ?_
        refine g_iconst (v := zI 0) dX7_type_42 (by decide) ?_
        exact g_iret dX7_type_43 rfl rfl h
    · replace h := h.2 c8
      refine g_iconst (v := zI 1) dX7_type_11 (by decide) ?_
      refine g_goto dX7_type_12 rfl ?_
      refine g_putI dX7_type_32 tF_7_97 lM_0 rfl rfl ⟨rfl, rfl⟩ rfl ?_
      refine g_aload_n dX7_type_35 rfl ?_
      refine g_getZ (v := 1) dX7_type_36 tF_7_97 lM_0 rfl rfl ?_
      refine g_if_no dX7_type_39 rfl (by decide) ?_
      refine g_iconst (v := zI 0) dX7_type_42 (by decide) ?_
      exact g_iret dX7_type_43 rfl rfl h
def f_X7_type_47 (sa : Nat → Nat) (b : Nat) (E : Nat × mH) (d : Nat) (l1 : Int64) (l3 : Int) (l4 : Int) (T : gT) (Q : Option Value → gT → Prop) : Prop := (-2147483648 ≤ l4 ∧ l4 < 2147483648) ∧ (-2147483648 ≤ l3 ∧ l3 < 2147483648) ∧ ((l3 ≤ l4 → Q (some (.int (zI (vI T 0 2)))) T) ∧ (¬ l3 ≤ l4 → 0 ≤ vI T 0 2 ∧ vI T 0 2 < 400 ∧ gW (tP sa) lM b E d mX7_type 47 [some (.ref (b + 0)), some (.long l1), none, some (.int (zI l3)), some (.int (zI (l4 + 1)))] [] (gI (gI T 1 (vI T 0 2).toNat (vp_nar .byte (zI ((zI ((l1 >>> ((zI (8 * l4)).toInt64 &&& 63)).toInt32.toInt)).toInt8.toInt32.toInt)))) 0 2 (zI ((vI T 0 2) + 1))) Q))
set_option maxRecDepth 4000 in
theorem w_X7_type_47 {sa : Nat → Nat} {b : Nat} {E : Nat × mH} {d : Nat} {l1 : Int64} {l3 : Int} {l4 : Int} {T : gT} {Q : Option Value → gT → Prop} (h : f_X7_type_47 sa b E d l1 l3 l4 T Q) : gW (tP sa) lM b E d mX7_type 47 [some (.ref (b + 0)), some (.long l1), none, some (.int (zI l3)), some (.int (zI l4))] [] T Q := by
  unfold f_X7_type_47 at h
  refine g_iload dX7_type_47 rfl ?_
  refine g_iload_n dX7_type_49 rfl ?_
  obtain ⟨a1, h⟩ := h
  obtain ⟨a2, h⟩ := h
  refine g_icmp_geZ dX7_type_50 rfl a1 a2 (fun c50 => ?_) (fun c50 => ?_)
  · replace h := h.1 c50
    refine g_aload_n dX7_type_87 rfl ?_
    refine g_getZ (v := vI T 0 2) dX7_type_88 tF_7_115 lM_0 rfl (zI_v T 0 2) ?_
    exact g_iret dX7_type_91 rfl rfl h
  · replace h := h.2 c50
    refine g_aload_n dX7_type_53 rfl ?_
    refine g_getR dX7_type_54 tF_7_7 lM_0 rfl ?_
    refine g_aload_n dX7_type_57 rfl ?_
    refine g_getZ (v := vI T 0 2) dX7_type_58 tF_7_115 lM_0 rfl (zI_v T 0 2) ?_
    refine g_lload_n dX7_type_61 rfl ?_
    refine g_bipush (v := zI 8) dX7_type_62 (by decide) ?_
    refine g_iload dX7_type_64 rfl ?_
    refine g_imulZ dX7_type_66 ?_
    refine g_lshr dX7_type_67 ?_
    refine g_l2iZ dX7_type_68 ?_
    refine g_i2bZ dX7_type_69 ?_
    obtain ⟨a3, h⟩ := h
    obtain ⟨a4, h⟩ := h
    refine g_bastZ dX7_type_70 lM_1 a3 a4 (by decide) ?_
    refine g_aload_n dX7_type_71 rfl ?_
    refine g_dup dX7_type_72 rfl ?_
    refine g_getZ (v := vI T 0 2) dX7_type_73 tF_7_115 lM_0 rfl (zI_v T 0 2) ?_
    refine g_iconst (v := zI 1) dX7_type_76 (by decide) ?_
    refine g_iaddZ dX7_type_77 ?_
    refine g_putI dX7_type_78 tF_7_115 lM_0 rfl rfl ⟨rfl, rfl⟩ rfl ?_
    refine g_iinc (x := zI l4) (v := zI (l4 + 1)) (L' := [some (.ref (b + 0)), some (.long l1), none, some (.int (zI l3)), some (.int (zI (l4 + 1)))]) dX7_type_81 rfl (zI_add _ _) rfl ?_
    refine g_goto dX7_type_84 rfl ?_
    exact h
def f_X7_sayVariable (sa : Nat → Nat) (b : Nat) (E : Nat × mH) (d : Nat) (l1 : Int) (T : gT) (Q : Option Value → gT → Prop) : Prop := gC (tP sa) lM b E d mX7_say [.ref (b + 0), .int (zI 118)] T (fun r T3 => pV r (gC (tP sa) lM b E d mX7_sayNumber [.ref (b + 0), .int (zI l1)] T3 (fun r T8 => pV r (Q none T8))))
set_option maxRecDepth 4000 in
theorem w_X7_sayVariable {sa : Nat → Nat} {b : Nat} {E : Nat × mH} {d : Nat} {l1 : Int} {T : gT} {Q : Option Value → gT → Prop} (h : f_X7_sayVariable sa b E d l1 T Q) : gC (tP sa) lM b E (d + 1) mX7_sayVariable [.ref (b + 0), .int (zI l1)] T Q := by
  unfold f_X7_sayVariable at h
  refine ⟨Nat.le_of_ble_eq_true rfl, ?_⟩
  show gW (tP sa) lM b E (d + 1) mX7_sayVariable 0 [some (.ref (b + 0)), some (.int (zI l1))] [] T Q
  refine g_aload_n dX7_sayVariable_0 rfl ?_
  refine g_bipush (v := zI 118) dX7_sayVariable_1 (by decide) ?_
  refine g_callV [.ref (b + 0), .int (zI 118)] [] dX7_sayVariable_3 tG_7_332 tM_171 lM_0 rfl rfl rfl rfl (by decide) rfl ?_
  refine gC.mono h (Nat.le_refl _) ?_
  rintro _ T3 ⟨rfl, h⟩
  refine g_aload_n dX7_sayVariable_6 rfl ?_
  refine g_iload_n dX7_sayVariable_7 rfl ?_
  refine g_callV [.ref (b + 0), .int (zI l1)] [] dX7_sayVariable_8 tG_7_335 tM_172 lM_0 rfl rfl rfl rfl (by decide) rfl ?_
  refine gC.mono h (Nat.le_refl _) ?_
  rintro _ T8 ⟨rfl, h⟩
  exact g_vret dX7_sayVariable_11 rfl h
def f_X7_sayWord (sa : Nat → Nat) (b : Nat) (E : Nat × mH) (d : Nat) (l1 : Nat) (l1w : List Nat) (T : gT) (Q : Option Value → gT → Prop) : Prop := gW (tP sa) lM b E (d + 3 + 1) mX7_sayWord 2 [some (.ref (b + 0)), some (.ref (l1)), some (.int (zI 0))] [] T Q
set_option maxRecDepth 4000 in
theorem w_X7_sayWord {sa : Nat → Nat} {b : Nat} {E : Nat × mH} {d : Nat} {l1 : Nat} {l1w : List Nat} {T : gT} {Q : Option Value → gT → Prop} (hs_l1 : mStr E b l1 l1w) (h : f_X7_sayWord sa b E d l1 l1w T Q) : gC (tP sa) lM b E (d + 3 + 1) mX7_sayWord [.ref (b + 0), .ref (l1)] T Q := by
  unfold f_X7_sayWord at h
  obtain ⟨va_hs_l1, f_hs_l1, fs_hs_l1, ha_hs_l1, _, hk_hs_l1, _⟩ := id hs_l1
  refine ⟨Nat.le_of_ble_eq_true rfl, ?_⟩
  show gW (tP sa) lM b E (d + 3 + 1) mX7_sayWord 0 [some (.ref (b + 0)), some (.ref (l1)), none] [] T Q
  refine g_iconst (v := zI 0) dX7_sayWord_0 (by decide) ?_
  refine g_istore_n (L' := [some (.ref (b + 0)), some (.ref (l1)), some (.int (zI 0))]) dX7_sayWord_1 rfl ?_
  exact h
def f_X7_sayWord_2 (sa : Nat → Nat) (b : Nat) (E : Nat × mH) (d : Nat) (l1 : Nat) (l1w : List Nat) (l2 : Int) (T : gT) (Q : Option Value → gT → Prop) : Prop := (-2147483648 ≤ l2 ∧ l2 < 2147483648) ∧ (-2147483648 ≤ (l1w.length : Int) ∧ (l1w.length : Int) < 2147483648) ∧ (((l1w.length : Int) ≤ l2 → Q none T) ∧ (¬ (l1w.length : Int) ≤ l2 → 0 ≤ l2 ∧ l2 < (l1w.length : Int) ∧ gC (tP sa) lM b E (d + 3) mX7_say [.ref (b + 0), .int (zI ((l1w.getD l2.toNat 0 : Nat) : Int))] T (fun r T16 => pV r (gW (tP sa) lM b E (d + 3 + 1) mX7_sayWord 2 [some (.ref (b + 0)), some (.ref (l1)), some (.int (zI (l2 + 1)))] [] T16 Q))))
set_option maxRecDepth 4000 in
theorem w_X7_sayWord_2 {sa : Nat → Nat} {b : Nat} {E : Nat × mH} {d : Nat} {l1 : Nat} {l1w : List Nat} {l2 : Int} {T : gT} {Q : Option Value → gT → Prop} (hs_l1 : mStr E b l1 l1w) (h : f_X7_sayWord_2 sa b E d l1 l1w l2 T Q) : gW (tP sa) lM b E (d + 3 + 1) mX7_sayWord 2 [some (.ref (b + 0)), some (.ref (l1)), some (.int (zI l2))] [] T Q := by
  unfold f_X7_sayWord_2 at h
  obtain ⟨va_hs_l1, f_hs_l1, fs_hs_l1, ha_hs_l1, _, hk_hs_l1, _⟩ := id hs_l1
  refine g_iload_n dX7_sayWord_2 rfl ?_
  refine g_aload_n dX7_sayWord_3 rfl ?_
  refine g_callC [.ref (l1)] [.int (zI l2)] dX7_sayWord_4 tG_7_136 tM_179 ha_hs_l1 hk_hs_l1 rfl rfl rfl rfl (by decide) rfl ?_
  refine gC.mono (c_length sa _ _ hs_l1) (Nat.add_le_add_left (by decide) _) ?_
  rintro _ _ ⟨rfl, h9⟩
  obtain rfl := h9.symm
  rw [zI_nat]
  obtain ⟨a1, h⟩ := h
  obtain ⟨a2, h⟩ := h
  refine g_icmp_geZ dX7_sayWord_7 rfl a1 a2 (fun c7 => ?_) (fun c7 => ?_)
  · replace h := h.1 c7
    exact g_vret dX7_sayWord_25 rfl h
  · replace h := h.2 c7
    refine g_aload_n dX7_sayWord_10 rfl ?_
    refine g_aload_n dX7_sayWord_11 rfl ?_
    refine g_iload_n dX7_sayWord_12 rfl ?_
    obtain ⟨a3, h⟩ := h
    obtain ⟨a4, h⟩ := h
    refine g_callC [.ref (l1), .int (zI l2)] [.ref (b + 0)] dX7_sayWord_13 tG_7_144 tM_180 ha_hs_l1 hk_hs_l1 rfl rfl rfl rfl (by decide) rfl ?_
    refine gC.mono (c_charZ sa _ _ hs_l1 a3 a4) (Nat.le_refl _) ?_
    rintro _ _ ⟨rfl, h9⟩
    obtain rfl := h9.symm
    rw [zI_nat]
    refine g_callV [.ref (b + 0), .int (zI ((l1w.getD l2.toNat 0 : Nat) : Int))] [] dX7_sayWord_16 tG_7_332 tM_171 lM_0 rfl rfl rfl rfl (by decide) rfl ?_
    refine gC.mono h (Nat.le_refl _) ?_
    rintro _ T16 ⟨rfl, h⟩
    refine g_iinc (x := zI l2) (v := zI (l2 + 1)) (L' := [some (.ref (b + 0)), some (.ref (l1)), some (.int (zI (l2 + 1)))]) dX7_sayWord_19 rfl (zI_add _ _) rfl ?_
    refine g_goto dX7_sayWord_22 rfl ?_
    exact h
def f_X7_write (sa : Nat → Nat) (b : Nat) (E : Nat × mH) (d : Nat) (T : gT) (Q : Option Value → gT → Prop) : Prop := ((¬ (vI T 0 4) = 0 → gC (tP sa) lM b E d mX7_sayExpr [.ref (b + 0), .int (zI 0)] (gI (gI T 0 0 (zI 0)) 0 51 (zI 0)) (fun r T22 => pV r ((((vI T22 0 51) ≤ 400 → gW (tP sa) lM b E (d + 1) mX7_write 39 [some (.ref (b + 0)), some (.int (zI 0))] [] T22 Q) ∧ (¬ (vI T22 0 51) ≤ 400 → Q (some (.int (zI (-1)))) T22))))) ∧ ((vI T 0 4) = 0 → Q (some (.int (zI (-2)))) (gI T 0 0 (zI 0))))
set_option maxRecDepth 4000 in
theorem w_X7_write {sa : Nat → Nat} {b : Nat} {E : Nat × mH} {d : Nat} {T : gT} {Q : Option Value → gT → Prop} (h : f_X7_write sa b E d T Q) : gC (tP sa) lM b E (d + 1) mX7_write [.ref (b + 0)] T Q := by
  unfold f_X7_write at h
  refine ⟨Nat.le_of_ble_eq_true rfl, ?_⟩
  show gW (tP sa) lM b E (d + 1) mX7_write 0 [some (.ref (b + 0)), none] [] T Q
  refine g_aload_n dX7_write_0 rfl ?_
  refine g_iconst (v := zI 0) dX7_write_1 (by decide) ?_
  refine g_putI dX7_write_2 tF_7_97 lM_0 rfl rfl ⟨rfl, rfl⟩ rfl ?_
  refine g_aload_n dX7_write_5 rfl ?_
  refine g_getZ (v := vI T 0 4) dX7_write_6 tF_7_203 lM_0 rfl (zI_v T 0 4) ?_
  refine g_if_neZ dX7_write_9 rfl ⟨vI_lo _ _ _, vI_hi _ _ _⟩  (fun c9 => ?_) (fun c9 => ?_)
  · replace h := h.1 c9
    refine g_aload_n dX7_write_15 rfl ?_
    refine g_iconst (v := zI 0) dX7_write_16 (by decide) ?_
    refine g_putI dX7_write_17 tF_7_329 lM_0 rfl rfl ⟨rfl, rfl⟩ rfl ?_
    refine g_aload_n dX7_write_20 rfl ?_
    refine g_iconst (v := zI 0) dX7_write_21 (by decide) ?_
    refine g_callV [.ref (b + 0), .int (zI 0)] [] dX7_write_22 tG_7_341 tM_174 lM_0 rfl rfl rfl rfl (by decide) rfl ?_
    refine gC.mono h (Nat.le_refl _) ?_
    rintro _ T22 ⟨rfl, h⟩
    refine g_aload_n dX7_write_25 rfl ?_
    refine g_getZ (v := vI T22 0 51) dX7_write_26 tF_7_329 lM_0 rfl (zI_v T22 0 51) ?_
    refine g_sipush (v := zI 400) dX7_write_29 (by decide) ?_
    refine g_icmp_leZ dX7_write_32 rfl ⟨vI_lo _ _ _, vI_hi _ _ _⟩ (by decide) (fun c32 => ?_) (fun c32 => ?_)
    · replace h := h.1 c32
      refine g_iconst (v := zI 0) dX7_write_37 (by decide) ?_
      refine g_istore_n (L' := [some (.ref (b + 0)), some (.int (zI 0))]) dX7_write_38 rfl ?_
      exact h
    · replace h := h.2 c32
      refine g_iconst (v := zI (-1)) dX7_write_35 (by decide) ?_
      exact g_iret dX7_write_36 rfl rfl h
  · replace h := h.2 c9
    refine g_bipush (v := zI (-2)) dX7_write_12 (by decide) ?_
    exact g_iret dX7_write_14 rfl rfl h
def f_X7_write_39 (sa : Nat → Nat) (b : Nat) (E : Nat × mH) (d : Nat) (l1 : Int) (T : gT) (Q : Option Value → gT → Prop) : Prop := (-2147483648 ≤ l1 ∧ l1 < 2147483648) ∧ (((vI T 0 51) ≤ l1 → Q (some (.int (zI (vI T 0 51)))) (gI T 0 2 (zI (vI T 0 51)))) ∧ (¬ (vI T 0 51) ≤ l1 → 0 ≤ l1 ∧ l1 < 400 ∧ gW (tP sa) lM b E (d + 1) mX7_write 39 [some (.ref (b + 0)), some (.int (zI (l1 + 1)))] [] (gI T 1 l1.toNat (vp_nar .byte (zI (vI T 28 l1.toNat)))) Q))
set_option maxRecDepth 4000 in
theorem w_X7_write_39 {sa : Nat → Nat} {b : Nat} {E : Nat × mH} {d : Nat} {l1 : Int} {T : gT} {Q : Option Value → gT → Prop} (h : f_X7_write_39 sa b E d l1 T Q) : gW (tP sa) lM b E (d + 1) mX7_write 39 [some (.ref (b + 0)), some (.int (zI l1))] [] T Q := by
  unfold f_X7_write_39 at h
  refine g_iload_n dX7_write_39 rfl ?_
  refine g_aload_n dX7_write_40 rfl ?_
  refine g_getZ (v := vI T 0 51) dX7_write_41 tF_7_329 lM_0 rfl (zI_v T 0 51) ?_
  obtain ⟨a1, h⟩ := h
  refine g_icmp_geZ dX7_write_44 rfl a1 ⟨vI_lo _ _ _, vI_hi _ _ _⟩ (fun c44 => ?_) (fun c44 => ?_)
  · replace h := h.1 c44
    refine g_aload_n dX7_write_65 rfl ?_
    refine g_aload_n dX7_write_66 rfl ?_
    refine g_getZ (v := vI T 0 51) dX7_write_67 tF_7_329 lM_0 rfl (zI_v T 0 51) ?_
    refine g_putI dX7_write_70 tF_7_115 lM_0 rfl rfl ⟨rfl, rfl⟩ rfl ?_
    refine g_aload_n dX7_write_73 rfl ?_
    refine g_getZ (v := vI T 0 51) dX7_write_74 tF_7_115 lM_0 rfl rfl ?_
    exact g_iret dX7_write_77 rfl rfl h
  · replace h := h.2 c44
    refine g_aload_n dX7_write_47 rfl ?_
    refine g_getR dX7_write_48 tF_7_7 lM_0 rfl ?_
    refine g_iload_n dX7_write_51 rfl ?_
    refine g_aload_n dX7_write_52 rfl ?_
    refine g_getR dX7_write_53 tF_7_94 lM_0 rfl ?_
    refine g_iload_n dX7_write_56 rfl ?_
    obtain ⟨a2, h⟩ := h
    obtain ⟨a3, h⟩ := h
    refine g_baldZ (v := vI T 28 l1.toNat) dX7_write_57 lM_28 a2 a3 (by decide) (zI_v T 28 l1.toNat) ?_
    refine g_bastZ dX7_write_58 lM_1 a2 a3 (by decide) ?_
    refine g_iinc (x := zI l1) (v := zI (l1 + 1)) (L' := [some (.ref (b + 0)), some (.int (zI (l1 + 1)))]) dX7_write_59 rfl (zI_add _ _) rfl ?_
    refine g_goto dX7_write_62 rfl ?_
    exact h
