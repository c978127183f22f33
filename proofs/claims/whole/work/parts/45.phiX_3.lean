/-! THE CLASS: its blocks, 3 (printed by wip/whole/phi6.py) -/
def f_X0_functionAt (sa : Nat → Nat) (b : Nat) (E : Nat × mH) (d : Nat) (l1 : Int) (T : gT) (Q : Option Value → gT → Prop) : Prop := (-2147483648 ≤ l1 ∧ l1 < 2147483648) ∧ Q (some (.int (zI (aI T 55 1000 l1)))) T
set_option maxRecDepth 4000 in
theorem w_X0_functionAt {sa : Nat → Nat} {b : Nat} {E : Nat × mH} {d : Nat} {l1 : Int} {T : gT} {Q : Option Value → gT → Prop} (h : f_X0_functionAt sa b E d l1 T Q) : gC (tP sa) lD b E (d + 1) mX0_functionAt [.ref (b + 53), .int (zI l1)] T Q := by
  unfold f_X0_functionAt at h
  refine ⟨Nat.le_of_ble_eq_true rfl, ?_⟩
  show gW (tP sa) lD b E (d + 1) mX0_functionAt 0 [some (.ref (b + 53)), some (.int (zI l1))] [] T Q
  refine g_aload_n dX0_functionAt_0 rfl ?_
  refine g_getR dX0_functionAt_1 tF_0_15 lD_53 rfl ?_
  refine g_iload_n dX0_functionAt_4 rfl ?_
  obtain ⟨a1, h⟩ := h
  refine g_callS [.ref (b + 55), .int (zI l1)] [] dX0_functionAt_5 tG_0_29 tM_96 rfl rfl rfl rfl (by decide) ?_
  refine gC.mono (c_aI sa b E _ _ lD_55 (by decide) a1) (Nat.le_refl _) ?_
  rintro _ _ ⟨rfl, h9⟩
  obtain rfl := h9.symm
  exact g_iret dX0_functionAt_8 rfl rfl h
def f_X0_roundOf (sa : Nat → Nat) (b : Nat) (E : Nat × mH) (d : Nat) (l1 : Int) (T : gT) (Q : Option Value → gT → Prop) : Prop := (-2147483648 ≤ l1 ∧ l1 < 2147483648) ∧ Q (some (.int (zI (aI T 57 1000 l1)))) T
set_option maxRecDepth 4000 in
theorem w_X0_roundOf {sa : Nat → Nat} {b : Nat} {E : Nat × mH} {d : Nat} {l1 : Int} {T : gT} {Q : Option Value → gT → Prop} (h : f_X0_roundOf sa b E d l1 T Q) : gC (tP sa) lD b E (d + 1) mX0_roundOf [.ref (b + 53), .int (zI l1)] T Q := by
  unfold f_X0_roundOf at h
  refine ⟨Nat.le_of_ble_eq_true rfl, ?_⟩
  show gW (tP sa) lD b E (d + 1) mX0_roundOf 0 [some (.ref (b + 53)), some (.int (zI l1))] [] T Q
  refine g_aload_n dX0_roundOf_0 rfl ?_
  refine g_getR dX0_roundOf_1 tF_0_22 lD_53 rfl ?_
  refine g_iload_n dX0_roundOf_4 rfl ?_
  obtain ⟨a1, h⟩ := h
  refine g_callS [.ref (b + 57), .int (zI l1)] [] dX0_roundOf_5 tG_0_29 tM_96 rfl rfl rfl rfl (by decide) ?_
  refine gC.mono (c_aI sa b E _ _ lD_57 (by decide) a1) (Nat.le_refl _) ?_
  rintro _ _ ⟨rfl, h9⟩
  obtain rfl := h9.symm
  exact g_iret dX0_roundOf_8 rfl rfl h
def f_X1_reachesBit (sa : Nat → Nat) (b : Nat) (E : Nat × mH) (d : Nat) (l1 : Int) (l2 : Int) (T : gT) (Q : Option Value → gT → Prop) : Prop := (-2147483648 ≤ l2 ∧ l2 < 2147483648) ∧ ((l2 < 0 → Q (some (.int (zI 0))) T) ∧ (¬ l2 < 0 → ((50 ≤ l2 → Q (some (.int (zI 0))) T) ∧ (¬ 50 ≤ l2 → (-2147483648 ≤ l1 ∧ l1 < 2147483648) ∧ Q (some (.int (zI (((((aJ T 50 50 l1).toUInt64 >>> ((zI l2).toInt64.toUInt64 &&& Int64.toUInt64 63)).toInt64) &&& 1).toInt32.toInt)))) T))))
set_option maxRecDepth 4000 in
theorem w_X1_reachesBit {sa : Nat → Nat} {b : Nat} {E : Nat × mH} {d : Nat} {l1 : Int} {l2 : Int} {T : gT} {Q : Option Value → gT → Prop} (h : f_X1_reachesBit sa b E d l1 l2 T Q) : gC (tP sa) lD b E (d + 1) mX1_reachesBit [.ref (b + 47), .int (zI l1), .int (zI l2)] T Q := by
  unfold f_X1_reachesBit at h
  refine ⟨Nat.le_of_ble_eq_true rfl, ?_⟩
  show gW (tP sa) lD b E (d + 1) mX1_reachesBit 0 [some (.ref (b + 47)), some (.int (zI l1)), some (.int (zI l2))] [] T Q
  refine g_iload_n dX1_reachesBit_0 rfl ?_
  obtain ⟨a1, h⟩ := h
  refine g_if_ltZ dX1_reachesBit_1 rfl a1  (fun c1 => ?_) (fun c1 => ?_)
  · replace h := h.1 c1
    refine g_iconst (v := zI 0) dX1_reachesBit_26 (by decide) ?_
    exact g_iret dX1_reachesBit_27 rfl rfl h
  · replace h := h.2 c1
    refine g_iload_n dX1_reachesBit_4 rfl ?_
    refine g_bipush (v := zI 50) dX1_reachesBit_5 (by decide) ?_
    refine g_icmp_geZ dX1_reachesBit_7 rfl a1 (by decide) (fun c7 => ?_) (fun c7 => ?_)
    · replace h := h.1 c7
      refine g_iconst (v := zI 0) dX1_reachesBit_26 (by decide) ?_
      exact g_iret dX1_reachesBit_27 rfl rfl h
    · replace h := h.2 c7
      refine g_aload_n dX1_reachesBit_10 rfl ?_
      refine g_getR dX1_reachesBit_11 tF_1_18 lD_47 rfl ?_
      refine g_iload_n dX1_reachesBit_14 rfl ?_
      obtain ⟨a2, h⟩ := h
      refine g_callS [.ref (b + 50), .int (zI l1)] [] dX1_reachesBit_15 tG_1_39 tM_97 rfl rfl rfl rfl (by decide) ?_
      refine gC.mono (c_aJ sa b E _ _ lD_50 (by decide) a2) (Nat.le_refl _) ?_
      rintro _ _ ⟨rfl, h9⟩
      obtain rfl := h9.symm
      refine g_iload_n dX1_reachesBit_18 rfl ?_
      refine g_lushr dX1_reachesBit_19 ?_
      refine g_lconst (v := 1) dX1_reachesBit_20 (by decide) ?_
      refine g_land dX1_reachesBit_21 ?_
      refine g_l2iZ dX1_reachesBit_22 ?_
      refine g_goto dX1_reachesBit_23 rfl ?_
      exact g_iret dX1_reachesBit_27 rfl rfl h
def f_X1_pourCall (sa : Nat → Nat) (b : Nat) (E : Nat × mH) (d : Nat) (l1 : Nat) (l2 : Int) (T : gT) (Q : Option Value → gT → Prop) : Prop := gC (tP sa) lD b E d mX1_ofPart [.ref (b + 47), .ref (b + l1), .int (zI l2), .int (zI 0)] T (fun r T4 => pJ r (fun v4 => gW (tP sa) lD b E (d + 1) mX1_pourCall 11 [some (.ref (b + 47)), some (.ref (b + l1)), some (.int (zI l2)), some (.long v4), none, some (.int (zI 0)), none] [] T4 Q))
set_option maxRecDepth 4000 in
theorem w_X1_pourCall {sa : Nat → Nat} {b : Nat} {E : Nat × mH} {d : Nat} {l1 : Nat} {l2 : Int} {T : gT} {Q : Option Value → gT → Prop} (hq_l1 : l1 = 2 ∨ l1 = 21) (h : f_X1_pourCall sa b E d l1 l2 T Q) : gC (tP sa) lD b E (d + 1) mX1_pourCall [.ref (b + 47), .ref (b + l1), .int (zI l2)] T Q := by
  unfold f_X1_pourCall at h
  refine ⟨Nat.le_of_ble_eq_true rfl, ?_⟩
  show gW (tP sa) lD b E (d + 1) mX1_pourCall 0 [some (.ref (b + 47)), some (.ref (b + l1)), some (.int (zI l2)), none, none, none, none] [] T Q
  refine g_aload_n dX1_pourCall_0 rfl ?_
  refine g_aload_n dX1_pourCall_1 rfl ?_
  refine g_iload_n dX1_pourCall_2 rfl ?_
  refine g_iconst (v := zI 0) dX1_pourCall_3 (by decide) ?_
  refine g_callV [.ref (b + 47), .ref (b + l1), .int (zI l2), .int (zI 0)] [] dX1_pourCall_4 tG_1_67 tM_12 lD_47 rfl rfl rfl rfl (by decide) rfl ?_
  refine gC.mono h (Nat.le_refl _) ?_
  rintro _ T4 ⟨v4, rfl, h⟩
  refine g_lstore_n (L' := [some (.ref (b + 47)), some (.ref (b + l1)), some (.int (zI l2)), some (.long v4), none, none, none]) dX1_pourCall_7 rfl ?_
  refine g_iconst (v := zI 0) dX1_pourCall_8 (by decide) ?_
  refine g_istore (L' := [some (.ref (b + 47)), some (.ref (b + l1)), some (.int (zI l2)), some (.long v4), none, some (.int (zI 0)), none]) dX1_pourCall_9 rfl ?_
  exact h
def f_X1_pourCall_11 (sa : Nat → Nat) (b : Nat) (E : Nat × mH) (d : Nat) (l1 : Nat) (l2 : Int) (l3 : Int64) (l5 : Int) (T : gT) (Q : Option Value → gT → Prop) : Prop := (-2147483648 ≤ l5 ∧ l5 < 2147483648) ∧ (((vI T l1 1) ≤ l5 → Q none T) ∧ (¬ (vI T l1 1) ≤ l5 → ((¬ (((l3.toUInt64 >>> ((zI l5).toInt64.toUInt64 &&& Int64.toUInt64 63)).toInt64) &&& 1) = 1 → gW (tP sa) lD b E (d + 1) mX1_pourCall 11 [some (.ref (b + 47)), some (.ref (b + l1)), some (.int (zI l2)), some (.long l3), none, some (.int (zI (l5 + 1))), none] [] T Q) ∧ ((((l3.toUInt64 >>> ((zI l5).toInt64.toUInt64 &&& Int64.toUInt64 63)).toInt64) &&& 1) = 1 → gC (tP sa) lD b E d mX1_ofPart [.ref (b + 47), .ref (b + l1), .int (zI l2), .int (zI 1)] T (fun r T56 => pJ r (fun v56 => gC (tP sa) lD b E d mX1_intoVariable [.ref (b + 47), .int (zI (aI T (l1 + 2) 200 (aI T (l1 + 7) 50 l5))), .long v56] T56 (fun r T59 => pV r (gC (tP sa) lD b E d mX1_ofPart [.ref (b + 47), .ref (b + l1), .int (zI (aI T (l1 + 7) 50 l5)), .int (zI 0)] T59 (fun r T69 => pJ r (fun v69 => gC (tP sa) lD b E d mX1_intoExpr [.ref (b + 47), .int (zI l2), .long v69] T69 (fun r T72 => pV r (gW (tP sa) lD b E (d + 1) mX1_pourCall 11 [some (.ref (b + 47)), some (.ref (b + l1)), some (.int (zI l2)), some (.long l3), none, some (.int (zI (l5 + 1))), some (.int (zI (aI T (l1 + 7) 50 l5)))] [] T72 Q))))))))))))
set_option maxRecDepth 4000 in
theorem w_X1_pourCall_11 {sa : Nat → Nat} {b : Nat} {E : Nat × mH} {d : Nat} {l1 : Nat} {l2 : Int} {l3 : Int64} {l5 : Int} {T : gT} {Q : Option Value → gT → Prop} (hq_l1 : l1 = 2 ∨ l1 = 21) (h : f_X1_pourCall_11 sa b E d l1 l2 l3 l5 T Q) : gW (tP sa) lD b E (d + 1) mX1_pourCall 11 [some (.ref (b + 47)), some (.ref (b + l1)), some (.int (zI l2)), some (.long l3), none, some (.int (zI l5)), none] [] T Q := by
  unfold f_X1_pourCall_11 at h
  refine g_iload dX1_pourCall_11 rfl ?_
  refine g_aload_n dX1_pourCall_13 rfl ?_
  refine g_getZ (v := vI T l1 1) dX1_pourCall_14 tF_1_74 (lP_0 hq_l1) rfl (zI_v _ _ _) ?_
  obtain ⟨a1, h⟩ := h
  refine g_icmp_geZ dX1_pourCall_17 rfl a1 ⟨vI_lo _ _ _, vI_hi _ _ _⟩ (fun c17 => ?_) (fun c17 => ?_)
  · replace h := h.1 c17
    exact g_vret dX1_pourCall_81 rfl h
  · replace h := h.2 c17
    refine g_lload_n dX1_pourCall_20 rfl ?_
    refine g_iload dX1_pourCall_21 rfl ?_
    refine g_lushr dX1_pourCall_23 ?_
    refine g_lconst (v := 1) dX1_pourCall_24 (by decide) ?_
    refine g_land dX1_pourCall_25 ?_
    refine g_lconst (v := 1) dX1_pourCall_26 (by decide) ?_
    refine g_lcmp dX1_pourCall_27 ?_
    refine g_if_neL dX1_pourCall_28 rfl (fun c28 => ?_) (fun c28 => ?_)
    · replace h := h.1 c28
      refine g_iinc (x := zI l5) (v := zI (l5 + 1)) (L' := [some (.ref (b + 47)), some (.ref (b + l1)), some (.int (zI l2)), some (.long l3), none, some (.int (zI (l5 + 1))), none]) dX1_pourCall_75 rfl (zI_add _ _) rfl ?_
      refine g_goto dX1_pourCall_78 rfl ?_
      exact h
    · replace h := h.2 c28
      refine g_aload_n dX1_pourCall_31 rfl ?_
      refine g_getR dX1_pourCall_32 tF_1_77 (lP_0 hq_l1) rfl ?_
      refine g_iload dX1_pourCall_35 rfl ?_
      refine g_callS [.ref (b + (l1 + 7)), .int (zI l5)] [] dX1_pourCall_37 tG_1_47 tM_96 rfl rfl rfl rfl (by decide) ?_
      refine gC.mono (c_aI sa b E _ _ (lP_7 hq_l1) (by decide) a1) (Nat.le_refl _) ?_
      rintro _ _ ⟨rfl, h9⟩
      obtain rfl := h9.symm
      refine g_istore (L' := [some (.ref (b + 47)), some (.ref (b + l1)), some (.int (zI l2)), some (.long l3), none, some (.int (zI l5)), some (.int (zI (aI T (l1 + 7) 50 l5)))]) dX1_pourCall_40 rfl ?_
      refine g_aload_n dX1_pourCall_42 rfl ?_
      refine g_aload_n dX1_pourCall_43 rfl ?_
      refine g_getR dX1_pourCall_44 tF_1_43 (lP_0 hq_l1) rfl ?_
      refine g_iload dX1_pourCall_47 rfl ?_
      refine g_callS [.ref (b + (l1 + 2)), .int (zI (aI T (l1 + 7) 50 l5))] [.ref (b + 47)] dX1_pourCall_49 tG_1_47 tM_96 rfl rfl rfl rfl (by decide) ?_
      refine gC.mono (c_aI sa b E _ _ (lP_2 hq_l1) (by decide) (aI_rg _ _ _ _)) (Nat.le_refl _) ?_
      rintro _ _ ⟨rfl, h9⟩
      obtain rfl := h9.symm
      refine g_aload_n dX1_pourCall_52 rfl ?_
      refine g_aload_n dX1_pourCall_53 rfl ?_
      refine g_iload_n dX1_pourCall_54 rfl ?_
      refine g_iconst (v := zI 1) dX1_pourCall_55 (by decide) ?_
      refine g_callV [.ref (b + 47), .ref (b + l1), .int (zI l2), .int (zI 1)] [.int (zI (aI T (l1 + 2) 200 (aI T (l1 + 7) 50 l5))), .ref (b + 47)] dX1_pourCall_56 tG_1_67 tM_12 lD_47 rfl rfl rfl rfl (by decide) rfl ?_
      refine gC.mono h (Nat.le_refl _) ?_
      rintro _ T56 ⟨v56, rfl, h⟩
      refine g_callV [.ref (b + 47), .int (zI (aI T (l1 + 2) 200 (aI T (l1 + 7) 50 l5))), .long v56] [] dX1_pourCall_59 tG_1_64 tM_14 lD_47 rfl rfl rfl rfl (by decide) rfl ?_
      refine gC.mono h (Nat.le_refl _) ?_
      rintro _ T59 ⟨rfl, h⟩
      refine g_aload_n dX1_pourCall_62 rfl ?_
      refine g_iload_n dX1_pourCall_63 rfl ?_
      refine g_aload_n dX1_pourCall_64 rfl ?_
      refine g_aload_n dX1_pourCall_65 rfl ?_
      refine g_iload dX1_pourCall_66 rfl ?_
      refine g_iconst (v := zI 0) dX1_pourCall_68 (by decide) ?_
      refine g_callV [.ref (b + 47), .ref (b + l1), .int (zI (aI T (l1 + 7) 50 l5)), .int (zI 0)] [.int (zI l2), .ref (b + 47)] dX1_pourCall_69 tG_1_67 tM_12 lD_47 rfl rfl rfl rfl (by decide) rfl ?_
      refine gC.mono h (Nat.le_refl _) ?_
      rintro _ T69 ⟨v69, rfl, h⟩
      refine g_callV [.ref (b + 47), .int (zI l2), .long v69] [] dX1_pourCall_72 tG_1_54 tM_13 lD_47 rfl rfl rfl rfl (by decide) rfl ?_
      refine gC.mono h (Nat.le_refl _) ?_
      rintro _ T72 ⟨rfl, h⟩
      refine g_iinc (x := zI l5) (v := zI (l5 + 1)) (L' := [some (.ref (b + 47)), some (.ref (b + l1)), some (.int (zI l2)), some (.long l3), none, some (.int (zI (l5 + 1))), some (.int (zI (aI T (l1 + 7) 50 l5)))]) dX1_pourCall_75 rfl (zI_add _ _) rfl ?_
      refine g_goto dX1_pourCall_78 rfl ?_
      exact h
def f_X1_pourCall_11b (sa : Nat → Nat) (b : Nat) (E : Nat × mH) (d : Nat) (l1 : Nat) (l2 : Int) (l3 : Int64) (l5 : Int) (l6 : Int) (T : gT) (Q : Option Value → gT → Prop) : Prop := (-2147483648 ≤ l5 ∧ l5 < 2147483648) ∧ (((vI T l1 1) ≤ l5 → Q none T) ∧ (¬ (vI T l1 1) ≤ l5 → ((¬ (((l3.toUInt64 >>> ((zI l5).toInt64.toUInt64 &&& Int64.toUInt64 63)).toInt64) &&& 1) = 1 → gW (tP sa) lD b E (d + 1) mX1_pourCall 11 [some (.ref (b + 47)), some (.ref (b + l1)), some (.int (zI l2)), some (.long l3), none, some (.int (zI (l5 + 1))), some (.int (zI l6))] [] T Q) ∧ ((((l3.toUInt64 >>> ((zI l5).toInt64.toUInt64 &&& Int64.toUInt64 63)).toInt64) &&& 1) = 1 → gC (tP sa) lD b E d mX1_ofPart [.ref (b + 47), .ref (b + l1), .int (zI l2), .int (zI 1)] T (fun r T56 => pJ r (fun v56 => gC (tP sa) lD b E d mX1_intoVariable [.ref (b + 47), .int (zI (aI T (l1 + 2) 200 (aI T (l1 + 7) 50 l5))), .long v56] T56 (fun r T59 => pV r (gC (tP sa) lD b E d mX1_ofPart [.ref (b + 47), .ref (b + l1), .int (zI (aI T (l1 + 7) 50 l5)), .int (zI 0)] T59 (fun r T69 => pJ r (fun v69 => gC (tP sa) lD b E d mX1_intoExpr [.ref (b + 47), .int (zI l2), .long v69] T69 (fun r T72 => pV r (gW (tP sa) lD b E (d + 1) mX1_pourCall 11 [some (.ref (b + 47)), some (.ref (b + l1)), some (.int (zI l2)), some (.long l3), none, some (.int (zI (l5 + 1))), some (.int (zI (aI T (l1 + 7) 50 l5)))] [] T72 Q))))))))))))
set_option maxRecDepth 4000 in
theorem w_X1_pourCall_11b {sa : Nat → Nat} {b : Nat} {E : Nat × mH} {d : Nat} {l1 : Nat} {l2 : Int} {l3 : Int64} {l5 : Int} {l6 : Int} {T : gT} {Q : Option Value → gT → Prop} (hq_l1 : l1 = 2 ∨ l1 = 21) (h : f_X1_pourCall_11b sa b E d l1 l2 l3 l5 l6 T Q) : gW (tP sa) lD b E (d + 1) mX1_pourCall 11 [some (.ref (b + 47)), some (.ref (b + l1)), some (.int (zI l2)), some (.long l3), none, some (.int (zI l5)), some (.int (zI l6))] [] T Q := by
  unfold f_X1_pourCall_11b at h
  refine g_iload dX1_pourCall_11 rfl ?_
  refine g_aload_n dX1_pourCall_13 rfl ?_
  refine g_getZ (v := vI T l1 1) dX1_pourCall_14 tF_1_74 (lP_0 hq_l1) rfl (zI_v _ _ _) ?_
  obtain ⟨a1, h⟩ := h
  refine g_icmp_geZ dX1_pourCall_17 rfl a1 ⟨vI_lo _ _ _, vI_hi _ _ _⟩ (fun c17 => ?_) (fun c17 => ?_)
  · replace h := h.1 c17
    exact g_vret dX1_pourCall_81 rfl h
  · replace h := h.2 c17
    refine g_lload_n dX1_pourCall_20 rfl ?_
    refine g_iload dX1_pourCall_21 rfl ?_
    refine g_lushr dX1_pourCall_23 ?_
    refine g_lconst (v := 1) dX1_pourCall_24 (by decide) ?_
    refine g_land dX1_pourCall_25 ?_
    refine g_lconst (v := 1) dX1_pourCall_26 (by decide) ?_
    refine g_lcmp dX1_pourCall_27 ?_
    refine g_if_neL dX1_pourCall_28 rfl (fun c28 => ?_) (fun c28 => ?_)
    · replace h := h.1 c28
      refine g_iinc (x := zI l5) (v := zI (l5 + 1)) (L' := [some (.ref (b + 47)), some (.ref (b + l1)), some (.int (zI l2)), some (.long l3), none, some (.int (zI (l5 + 1))), some (.int (zI l6))]) dX1_pourCall_75 rfl (zI_add _ _) rfl ?_
      refine g_goto dX1_pourCall_78 rfl ?_
      exact h
    · replace h := h.2 c28
      refine g_aload_n dX1_pourCall_31 rfl ?_
      refine g_getR dX1_pourCall_32 tF_1_77 (lP_0 hq_l1) rfl ?_
      refine g_iload dX1_pourCall_35 rfl ?_
      refine g_callS [.ref (b + (l1 + 7)), .int (zI l5)] [] dX1_pourCall_37 tG_1_47 tM_96 rfl rfl rfl rfl (by decide) ?_
      refine gC.mono (c_aI sa b E _ _ (lP_7 hq_l1) (by decide) a1) (Nat.le_refl _) ?_
      rintro _ _ ⟨rfl, h9⟩
      obtain rfl := h9.symm
      refine g_istore (L' := [some (.ref (b + 47)), some (.ref (b + l1)), some (.int (zI l2)), some (.long l3), none, some (.int (zI l5)), some (.int (zI (aI T (l1 + 7) 50 l5)))]) dX1_pourCall_40 rfl ?_
      refine g_aload_n dX1_pourCall_42 rfl ?_
      refine g_aload_n dX1_pourCall_43 rfl ?_
      refine g_getR dX1_pourCall_44 tF_1_43 (lP_0 hq_l1) rfl ?_
      refine g_iload dX1_pourCall_47 rfl ?_
      refine g_callS [.ref (b + (l1 + 2)), .int (zI (aI T (l1 + 7) 50 l5))] [.ref (b + 47)] dX1_pourCall_49 tG_1_47 tM_96 rfl rfl rfl rfl (by decide) ?_
      refine gC.mono (c_aI sa b E _ _ (lP_2 hq_l1) (by decide) (aI_rg _ _ _ _)) (Nat.le_refl _) ?_
      rintro _ _ ⟨rfl, h9⟩
      obtain rfl := h9.symm
      refine g_aload_n dX1_pourCall_52 rfl ?_
      refine g_aload_n dX1_pourCall_53 rfl ?_
      refine g_iload_n dX1_pourCall_54 rfl ?_
      refine g_iconst (v := zI 1) dX1_pourCall_55 (by decide) ?_
      refine g_callV [.ref (b + 47), .ref (b + l1), .int (zI l2), .int (zI 1)] [.int (zI (aI T (l1 + 2) 200 (aI T (l1 + 7) 50 l5))), .ref (b + 47)] dX1_pourCall_56 tG_1_67 tM_12 lD_47 rfl rfl rfl rfl (by decide) rfl ?_
      refine gC.mono h (Nat.le_refl _) ?_
      rintro _ T56 ⟨v56, rfl, h⟩
      refine g_callV [.ref (b + 47), .int (zI (aI T (l1 + 2) 200 (aI T (l1 + 7) 50 l5))), .long v56] [] dX1_pourCall_59 tG_1_64 tM_14 lD_47 rfl rfl rfl rfl (by decide) rfl ?_
      refine gC.mono h (Nat.le_refl _) ?_
      rintro _ T59 ⟨rfl, h⟩
      refine g_aload_n dX1_pourCall_62 rfl ?_
      refine g_iload_n dX1_pourCall_63 rfl ?_
      refine g_aload_n dX1_pourCall_64 rfl ?_
      refine g_aload_n dX1_pourCall_65 rfl ?_
      refine g_iload dX1_pourCall_66 rfl ?_
      refine g_iconst (v := zI 0) dX1_pourCall_68 (by decide) ?_
      refine g_callV [.ref (b + 47), .ref (b + l1), .int (zI (aI T (l1 + 7) 50 l5)), .int (zI 0)] [.int (zI l2), .ref (b + 47)] dX1_pourCall_69 tG_1_67 tM_12 lD_47 rfl rfl rfl rfl (by decide) rfl ?_
      refine gC.mono h (Nat.le_refl _) ?_
      rintro _ T69 ⟨v69, rfl, h⟩
      refine g_callV [.ref (b + 47), .int (zI l2), .long v69] [] dX1_pourCall_72 tG_1_54 tM_13 lD_47 rfl rfl rfl rfl (by decide) rfl ?_
      refine gC.mono h (Nat.le_refl _) ?_
      rintro _ T72 ⟨rfl, h⟩
      refine g_iinc (x := zI l5) (v := zI (l5 + 1)) (L' := [some (.ref (b + 47)), some (.ref (b + l1)), some (.int (zI l2)), some (.long l3), none, some (.int (zI (l5 + 1))), some (.int (zI (aI T (l1 + 7) 50 l5)))]) dX1_pourCall_75 rfl (zI_add _ _) rfl ?_
      refine g_goto dX1_pourCall_78 rfl ?_
      exact h
def f_X2_end (sa : Nat → Nat) (b : Nat) (E : Nat × mH) (d : Nat) (l1 : Int) (l2 : Int64) (T : gT) (Q : Option Value → gT → Prop) : Prop := Q none (gJ (gI T 51 1 (zI l1)) 51 2 l2)
set_option maxRecDepth 4000 in
theorem w_X2_end {sa : Nat → Nat} {b : Nat} {E : Nat × mH} {d : Nat} {l1 : Int} {l2 : Int64} {T : gT} {Q : Option Value → gT → Prop} (h : f_X2_end sa b E d l1 l2 T Q) : gC (tP sa) lD b E d mX2_end [.ref (b + 51), .int (zI l1), .long l2] T Q := by
  unfold f_X2_end at h
  refine ⟨Nat.le_of_ble_eq_true rfl, ?_⟩
  show gW (tP sa) lD b E d mX2_end 0 [some (.ref (b + 51)), some (.int (zI l1)), some (.long l2), none] [] T Q
  refine g_aload_n dX2_end_0 rfl ?_
  refine g_iload_n dX2_end_1 rfl ?_
  refine g_putI dX2_end_2 tF_2_63 lD_51 rfl rfl ⟨rfl, rfl⟩ rfl ?_
  refine g_aload_n dX2_end_5 rfl ?_
  refine g_lload_n dX2_end_6 rfl ?_
  refine g_putJ dX2_end_7 tF_2_43 lD_51 rfl rfl rfl ?_
  exact g_vret dX2_end_10 rfl h
def f_X2_come (sa : Nat → Nat) (b : Nat) (E : Nat × mH) (d : Nat) (l1 : Int) (l2 : Int64) (T : gT) (Q : Option Value → gT → Prop) : Prop := Q none (gI (gJ (gI T 51 15 (zI l1)) 51 16 l2) 51 13 (zI (-1)))
set_option maxRecDepth 4000 in
theorem w_X2_come {sa : Nat → Nat} {b : Nat} {E : Nat × mH} {d : Nat} {l1 : Int} {l2 : Int64} {T : gT} {Q : Option Value → gT → Prop} (h : f_X2_come sa b E d l1 l2 T Q) : gC (tP sa) lD b E d mX2_come [.ref (b + 51), .int (zI l1), .long l2] T Q := by
  unfold f_X2_come at h
  refine ⟨Nat.le_of_ble_eq_true rfl, ?_⟩
  show gW (tP sa) lD b E d mX2_come 0 [some (.ref (b + 51)), some (.int (zI l1)), some (.long l2), none] [] T Q
  refine g_aload_n dX2_come_0 rfl ?_
  refine g_iload_n dX2_come_1 rfl ?_
  refine g_putI dX2_come_2 tF_2_85 lD_51 rfl rfl ⟨rfl, rfl⟩ rfl ?_
  refine g_aload_n dX2_come_5 rfl ?_
  refine g_lload_n dX2_come_6 rfl ?_
  refine g_putJ dX2_come_7 tF_2_88 lD_51 rfl rfl rfl ?_
  refine g_aload_n dX2_come_10 rfl ?_
  refine g_iconst (v := zI (-1)) dX2_come_11 (by decide) ?_
  refine g_putI dX2_come_12 tF_2_72 lD_51 rfl rfl ⟨rfl, rfl⟩ rfl ?_
  exact g_vret dX2_come_15 rfl h
def f_X2_recall (sa : Nat → Nat) (b : Nat) (E : Nat × mH) (d : Nat) (l1 : Int) (T : gT) (Q : Option Value → gT → Prop) : Prop := (∃ r1 : Nat, (r1 = 2 ∨ r1 = 21) ∧ vI T 51 4 = (r1 : Int) ∧ (-2147483648 ≤ l1 ∧ l1 < 2147483648) ∧ (∃ r13 : Nat, (r13 = 2 ∨ r13 = 21) ∧ vI T 51 4 = (r13 : Int) ∧ ((¬ (aI T (r13 + 3) 200 (aI T (r1 + 8) 100 l1)) = l1 → gC (tP sa) lD b E d mX0_find [.ref (b + 53), .int (zI l1), .int (zI (vI T 51 14))] T (fun r T86 => pI r (fun v86 => gC (tP sa) lD b E d mX0_functionAt [.ref (b + 53), .int (zI v86)] T86 (fun r T96 => pI r (fun v96 => gC (tP sa) lD b E d mX0_numberAt [.ref (b + 53), .int (zI v86)] T96 (fun r T104 => pJ r (fun v104 => gC (tP sa) lD b E d mX2_come [.ref (b + 51), .int (zI v96), .long v104] T104 (fun r T107 => pV r (Q none T107))))))))) ∧ ((aI T (r13 + 3) 200 (aI T (r1 + 8) 100 l1)) = l1 → (∃ r32 : Nat, (r32 = 2 ∨ r32 = 21) ∧ vI T 51 4 = (r32 : Int) ∧ gC (tP sa) lD b E d mX0_find [.ref (b + 53), .int (zI (aI T (r32 + 2) 200 (aI T (r1 + 8) 100 l1))), .int (zI (vI T 51 14))] T (fun r T46 => pI r (fun v46 => (∃ r52 : Nat, (r52 = 2 ∨ r52 = 21) ∧ vI T46 51 4 = (r52 : Int) ∧ gC (tP sa) lD b E d mX0_roundOf [.ref (b + 53), .int (zI v46)] T46 (fun r T67 => pI r (fun v67 => gC (tP sa) lD b E d mX2_come [.ref (b + 51), .int (zI (aI T46 (r52 + 5) 200 (aI T (r1 + 8) 100 l1))), .long ((zI v67).toInt64)] T67 (fun r T71 => pV r (Q none T71))))))))))))
set_option maxRecDepth 4000 in
theorem w_X2_recall {sa : Nat → Nat} {b : Nat} {E : Nat × mH} {d : Nat} {l1 : Int} {T : gT} {Q : Option Value → gT → Prop} (h : f_X2_recall sa b E d l1 T Q) : gC (tP sa) lD b E (d + 1) mX2_recall [.ref (b + 51), .int (zI l1)] T Q := by
  unfold f_X2_recall at h
  refine ⟨Nat.le_of_ble_eq_true rfl, ?_⟩
  show gW (tP sa) lD b E (d + 1) mX2_recall 0 [some (.ref (b + 51)), some (.int (zI l1)), none, none] [] T Q
  refine g_aload_n dX2_recall_0 rfl ?_
  obtain ⟨r1, hq_r1, e_r1, h⟩ := h
  refine g_getVZ (o := r1) dX2_recall_1 tF_2_50 lD_51 rfl e_r1 (q_lt hq_r1) ?_
  refine g_getR dX2_recall_4 tF_2_118 (lP_0 hq_r1) rfl ?_
  refine g_iload_n dX2_recall_7 rfl ?_
  obtain ⟨a1, h⟩ := h
  refine g_callS [.ref (b + (r1 + 8)), .int (zI l1)] [] dX2_recall_8 tG_2_100 tM_96 rfl rfl rfl rfl (by decide) ?_
  refine gC.mono (c_aI sa b E _ _ (lP_8 hq_r1) (by decide) a1) (Nat.le_refl _) ?_
  rintro _ _ ⟨rfl, h9⟩
  obtain rfl := h9.symm
  refine g_istore_n (L' := [some (.ref (b + 51)), some (.int (zI l1)), some (.int (zI (aI T (r1 + 8) 100 l1))), none]) dX2_recall_11 rfl ?_
  refine g_aload_n dX2_recall_12 rfl ?_
  obtain ⟨r13, hq_r13, e_r13, h⟩ := h
  refine g_getVZ (o := r13) dX2_recall_13 tF_2_50 lD_51 rfl e_r13 (q_lt hq_r13) ?_
  refine g_getR dX2_recall_16 tF_2_121 (lP_0 hq_r13) rfl ?_
  refine g_iload_n dX2_recall_19 rfl ?_
  refine g_callS [.ref (b + (r13 + 3)), .int (zI (aI T (r1 + 8) 100 l1))] [] dX2_recall_20 tG_2_100 tM_96 rfl rfl rfl rfl (by decide) ?_
  refine gC.mono (c_aI sa b E _ _ (lP_3 hq_r13) (by decide) (aI_rg _ _ _ _)) (Nat.le_refl _) ?_
  rintro _ _ ⟨rfl, h9⟩
  obtain rfl := h9.symm
  refine g_iload_n dX2_recall_23 rfl ?_
  refine g_icmp_neZ dX2_recall_24 rfl (aI_rg _ _ _ _) a1 (fun c24 => ?_) (fun c24 => ?_)
  · replace h := h.1 c24
    refine g_aload_n dX2_recall_77 rfl ?_
    refine g_getR dX2_recall_78 tF_2_18 lD_51 rfl ?_
    refine g_iload_n dX2_recall_81 rfl ?_
    refine g_aload_n dX2_recall_82 rfl ?_
    refine g_getZ (v := vI T 51 14) dX2_recall_83 tF_2_75 lD_51 rfl (zI_v T 51 14) ?_
    refine g_callV [.ref (b + 53), .int (zI l1), .int (zI (vI T 51 14))] [] dX2_recall_86 tG_2_124 tM_3 lD_53 rfl rfl rfl rfl (by decide) rfl ?_
    refine gC.mono h (Nat.le_refl _) ?_
    rintro _ T86 ⟨v86, rfl, h⟩
    refine g_istore_n (L' := [some (.ref (b + 51)), some (.int (zI l1)), some (.int (zI (aI T (r1 + 8) 100 l1))), some (.int (zI v86))]) dX2_recall_89 rfl ?_
    refine g_aload_n dX2_recall_90 rfl ?_
    refine g_aload_n dX2_recall_91 rfl ?_
    refine g_getR dX2_recall_92 tF_2_18 lD_51 rfl ?_
    refine g_iload_n dX2_recall_95 rfl ?_
    refine g_callV [.ref (b + 53), .int (zI v86)] [.ref (b + 51)] dX2_recall_96 tG_2_131 tM_4 lD_53 rfl rfl rfl rfl (by decide) rfl ?_
    refine gC.mono h (Nat.le_refl _) ?_
    rintro _ T96 ⟨v96, rfl, h⟩
    refine g_aload_n dX2_recall_99 rfl ?_
    refine g_getR dX2_recall_100 tF_2_18 lD_51 rfl ?_
    refine g_iload_n dX2_recall_103 rfl ?_
    refine g_callV [.ref (b + 53), .int (zI v86)] [.int (zI v96), .ref (b + 51)] dX2_recall_104 tG_2_134 tM_5 lD_53 rfl rfl rfl rfl (by decide) rfl ?_
    refine gC.mono h (Nat.le_refl _) ?_
    rintro _ T104 ⟨v104, rfl, h⟩
    refine g_callV [.ref (b + 51), .int (zI v96), .long v104] [] dX2_recall_107 tG_2_110 tM_21 lD_51 rfl rfl rfl rfl (by decide) rfl ?_
    refine gC.mono h (Nat.le_refl _) ?_
    rintro _ T107 ⟨rfl, h⟩
    exact g_vret dX2_recall_110 rfl h
  · replace h := h.2 c24
    refine g_aload_n dX2_recall_27 rfl ?_
    refine g_getR dX2_recall_28 tF_2_18 lD_51 rfl ?_
    refine g_aload_n dX2_recall_31 rfl ?_
    obtain ⟨r32, hq_r32, e_r32, h⟩ := h
    refine g_getVZ (o := r32) dX2_recall_32 tF_2_50 lD_51 rfl e_r32 (q_lt hq_r32) ?_
    refine g_getR dX2_recall_35 tF_2_104 (lP_0 hq_r32) rfl ?_
    refine g_iload_n dX2_recall_38 rfl ?_
    refine g_callS [.ref (b + (r32 + 2)), .int (zI (aI T (r1 + 8) 100 l1))] [.ref (b + 53)] dX2_recall_39 tG_2_100 tM_96 rfl rfl rfl rfl (by decide) ?_
    refine gC.mono (c_aI sa b E _ _ (lP_2 hq_r32) (by decide) (aI_rg _ _ _ _)) (Nat.le_refl _) ?_
    rintro _ _ ⟨rfl, h9⟩
    obtain rfl := h9.symm
    refine g_aload_n dX2_recall_42 rfl ?_
    refine g_getZ (v := vI T 51 14) dX2_recall_43 tF_2_75 lD_51 rfl (zI_v T 51 14) ?_
    refine g_callV [.ref (b + 53), .int (zI (aI T (r32 + 2) 200 (aI T (r1 + 8) 100 l1))), .int (zI (vI T 51 14))] [] dX2_recall_46 tG_2_124 tM_3 lD_53 rfl rfl rfl rfl (by decide) rfl ?_
    refine gC.mono h (Nat.le_refl _) ?_
    rintro _ T46 ⟨v46, rfl, h⟩
    refine g_istore_n (L' := [some (.ref (b + 51)), some (.int (zI l1)), some (.int (zI (aI T (r1 + 8) 100 l1))), some (.int (zI v46))]) dX2_recall_49 rfl ?_
    refine g_aload_n dX2_recall_50 rfl ?_
    refine g_aload_n dX2_recall_51 rfl ?_
    obtain ⟨r52, hq_r52, e_r52, h⟩ := h
    refine g_getVZ (o := r52) dX2_recall_52 tF_2_50 lD_51 rfl e_r52 (q_lt hq_r52) ?_
    refine g_getR dX2_recall_55 tF_2_113 (lP_0 hq_r52) rfl ?_
    refine g_iload_n dX2_recall_58 rfl ?_
    refine g_callS [.ref (b + (r52 + 5)), .int (zI (aI T (r1 + 8) 100 l1))] [.ref (b + 51)] dX2_recall_59 tG_2_100 tM_96 rfl rfl rfl rfl (by decide) ?_
    refine gC.mono (c_aI sa b E _ _ (lP_5 hq_r52) (by decide) (aI_rg _ _ _ _)) (Nat.le_refl _) ?_
    rintro _ _ ⟨rfl, h9⟩
    obtain rfl := h9.symm
    refine g_aload_n dX2_recall_62 rfl ?_
    refine g_getR dX2_recall_63 tF_2_18 lD_51 rfl ?_
    refine g_iload_n dX2_recall_66 rfl ?_
    refine g_callV [.ref (b + 53), .int (zI v46)] [.int (zI (aI T46 (r52 + 5) 200 (aI T (r1 + 8) 100 l1))), .ref (b + 51)] dX2_recall_67 tG_2_127 tM_6 lD_53 rfl rfl rfl rfl (by decide) rfl ?_
    refine gC.mono h (Nat.le_refl _) ?_
    rintro _ T67 ⟨v67, rfl, h⟩
    refine g_i2l dX2_recall_70 ?_
    refine g_callV [.ref (b + 51), .int (zI (aI T46 (r52 + 5) 200 (aI T (r1 + 8) 100 l1))), .long ((zI v67).toInt64)] [] dX2_recall_71 tG_2_110 tM_21 lD_51 rfl rfl rfl rfl (by decide) rfl ?_
    refine gC.mono h (Nat.le_refl _) ?_
    rintro _ T71 ⟨rfl, h⟩
    refine g_goto dX2_recall_74 rfl ?_
    exact g_vret dX2_recall_110 rfl h
def f_X2_hand (sa : Nat → Nat) (b : Nat) (E : Nat × mH) (d : Nat) (l1 : Int) (T : gT) (Q : Option Value → gT → Prop) : Prop := 0 ≤ l1 ∧ l1 < 2000 ∧ (∃ r8 : Nat, (r8 = 2 ∨ r8 = 21) ∧ vI T 51 4 = (r8 : Int) ∧ ((¬ (aI T (r8 + 1) 200 (vI T 58 l1.toNat)) = 4 → ((¬ (aI T (r8 + 1) 200 (vI T 58 l1.toNat)) = 5 → ((¬ (vI T 60 l1.toNat) = 0 → ((¬ (aI T (r8 + 1) 200 (vI T 58 l1.toNat)) = 11 → gC (tP sa) lD b E d mX2_reckon [.ref (b + 51), .int (zI (vI T 58 l1.toNat)), .int (zI (aI T (r8 + 1) 200 (vI T 58 l1.toNat))), .int (zI (vI T 61 l1.toNat)), .long (T.2.1 62 l1.toNat)] (gI T 51 14 (zI (vI T 59 l1.toNat))) (fun r T195 => pV r (Q none T195))) ∧ ((aI T (r8 + 1) 200 (vI T 58 l1.toNat)) = 11 → gC (tP sa) lD b E d mX2_enter [.ref (b + 51), .int (zI (vI T 58 l1.toNat)), .int (zI (vI T 61 l1.toNat)), .long (T.2.1 62 l1.toNat)] (gI T 51 14 (zI (vI T 59 l1.toNat))) (fun r T174 => pV r (Q none T174))))) ∧ ((vI T 60 l1.toNat) = 0 → (∃ r140 : Nat, (r140 = 2 ∨ r140 = 21) ∧ vI T 51 4 = (r140 : Int) ∧ Q none (gI (gJ (gI (gI (gI T 51 14 (zI (vI T 59 l1.toNat))) 60 l1.toNat (zI 1)) 61 l1.toNat (zI (vI T 51 15))) 62 l1.toNat (T.2.1 51 16)) 51 13 (zI (aP (gJ (gI (gI (gI T 51 14 (zI (vI T 59 l1.toNat))) 60 l1.toNat (zI 1)) 61 l1.toNat (zI (vI T 51 15))) 62 l1.toNat (T.2.1 51 16)) r140 (vI T 58 l1.toNat) 1))))))) ∧ ((aI T (r8 + 1) 200 (vI T 58 l1.toNat)) = 5 → (∃ r58 : Nat, (r58 = 2 ∨ r58 = 21) ∧ vI T 51 4 = (r58 : Int) ∧ gC (tP sa) lD b E d mX0_bind [.ref (b + 53), .int (zI (aI (gI (gI T 51 14 (zI (vI T 59 l1.toNat))) 51 12 (zI l1)) (r58 + 2) 200 (vI T 58 l1.toNat))), .int (zI (vI T 51 15)), .long (T.2.1 51 16), .int (zI (vI T 59 l1.toNat))] (gI (gI T 51 14 (zI (vI T 59 l1.toNat))) 51 12 (zI l1)) (fun r T80 => pI r (fun v80 => (∃ r88 : Nat, (r88 = 2 ∨ r88 = 21) ∧ vI T80 51 4 = (r88 : Int) ∧ Q none (gI (gI T80 51 14 (zI v80)) 51 13 (zI (aP (gI T80 51 14 (zI v80)) r88 (vI T 58 l1.toNat) 1)))))))))) ∧ ((aI T (r8 + 1) 200 (vI T 58 l1.toNat)) = 4 → gC (tP sa) lD b E d mX2_choose [.ref (b + 51), .int (zI (vI T 58 l1.toNat))] (gI T 51 14 (zI (vI T 59 l1.toNat))) (fun r T36 => pV r (Q none T36)))))
set_option maxRecDepth 4000 in
theorem w_X2_hand {sa : Nat → Nat} {b : Nat} {E : Nat × mH} {d : Nat} {l1 : Int} {T : gT} {Q : Option Value → gT → Prop} (h : f_X2_hand sa b E d l1 T Q) : gC (tP sa) lD b E (d + 1) mX2_hand [.ref (b + 51), .int (zI l1)] T Q := by
  unfold f_X2_hand at h
  refine ⟨Nat.le_of_ble_eq_true rfl, ?_⟩
  show gW (tP sa) lD b E (d + 1) mX2_hand 0 [some (.ref (b + 51)), some (.int (zI l1)), none, none] [] T Q
  refine g_aload_n dX2_hand_0 rfl ?_
  refine g_getR dX2_hand_1 tF_2_22 lD_51 rfl ?_
  refine g_iload_n dX2_hand_4 rfl ?_
  obtain ⟨a1, h⟩ := h
  obtain ⟨a2, h⟩ := h
  refine g_ialdZ (v := vI T 58 l1.toNat) dX2_hand_5 lD_58 a1 a2 (by decide) (zI_v T 58 l1.toNat) ?_
  refine g_istore_n (L' := [some (.ref (b + 51)), some (.int (zI l1)), some (.int (zI (vI T 58 l1.toNat))), none]) dX2_hand_6 rfl ?_
  refine g_aload_n dX2_hand_7 rfl ?_
  obtain ⟨r8, hq_r8, e_r8, h⟩ := h
  refine g_getVZ (o := r8) dX2_hand_8 tF_2_50 lD_51 rfl e_r8 (q_lt hq_r8) ?_
  refine g_getR dX2_hand_11 tF_2_95 (lP_0 hq_r8) rfl ?_
  refine g_iload_n dX2_hand_14 rfl ?_
  refine g_callS [.ref (b + (r8 + 1)), .int (zI (vI T 58 l1.toNat))] [] dX2_hand_15 tG_2_100 tM_96 rfl rfl rfl rfl (by decide) ?_
  refine gC.mono (c_aI sa b E _ _ (lP_1 hq_r8) (by decide) ⟨vI_lo _ _ _, vI_hi _ _ _⟩) (Nat.le_refl _) ?_
  rintro _ _ ⟨rfl, h9⟩
  obtain rfl := h9.symm
  refine g_istore_n (L' := [some (.ref (b + 51)), some (.int (zI l1)), some (.int (zI (vI T 58 l1.toNat))), some (.int (zI (aI T (r8 + 1) 200 (vI T 58 l1.toNat))))]) dX2_hand_18 rfl ?_
  refine g_aload_n dX2_hand_19 rfl ?_
  refine g_aload_n dX2_hand_20 rfl ?_
  refine g_getR dX2_hand_21 tF_2_26 lD_51 rfl ?_
  refine g_iload_n dX2_hand_24 rfl ?_
  refine g_ialdZ (v := vI T 59 l1.toNat) dX2_hand_25 lD_59 a1 a2 (by decide) (zI_v T 59 l1.toNat) ?_
  refine g_putI dX2_hand_26 tF_2_75 lD_51 rfl rfl ⟨rfl, rfl⟩ rfl ?_
  refine g_iload_n dX2_hand_29 rfl ?_
  refine g_iconst (v := zI 4) dX2_hand_30 (by decide) ?_
  refine g_icmp_neZ dX2_hand_31 rfl (aI_rg _ _ _ _) (by decide) (fun c31 => ?_) (fun c31 => ?_)
  · replace h := h.1 c31
    refine g_iload_n dX2_hand_42 rfl ?_
    refine g_iconst (v := zI 5) dX2_hand_43 (by decide) ?_
    refine g_icmp_neZ dX2_hand_44 rfl (aI_rg _ _ _ _) (by decide) (fun c44 => ?_) (fun c44 => ?_)
    · replace h := h.1 c44
      refine g_aload_n dX2_hand_102 rfl ?_
      refine g_getR dX2_hand_103 tF_2_29 lD_51 rfl ?_
      refine g_iload_n dX2_hand_106 rfl ?_
      refine g_zaldZ (v := vI T 60 l1.toNat) dX2_hand_107 lD_60 a1 a2 (by decide) (zI_v T 60 l1.toNat) ?_
      refine g_if_neZ dX2_hand_108 rfl ⟨vI_lo _ _ _, vI_hi _ _ _⟩  (fun c108 => ?_) (fun c108 => ?_)
      · replace h := h.1 c108
        refine g_iload_n dX2_hand_154 rfl ?_
        refine g_bipush (v := zI 11) dX2_hand_155 (by decide) ?_
        refine g_icmp_neZ dX2_hand_157 rfl (aI_rg _ _ _ _) (by decide) (fun c157 => ?_) (fun c157 => ?_)
        · replace h := h.1 c157
          refine g_aload_n dX2_hand_180 rfl ?_
          refine g_iload_n dX2_hand_181 rfl ?_
          refine g_iload_n dX2_hand_182 rfl ?_
          refine g_aload_n dX2_hand_183 rfl ?_
          refine g_getR dX2_hand_184 tF_2_33 lD_51 rfl ?_
          refine g_iload_n dX2_hand_187 rfl ?_
          refine g_ialdZ (v := vI T 61 l1.toNat) dX2_hand_188 lD_61 a1 a2 (by decide) (zI_v T 61 l1.toNat) ?_
          refine g_aload_n dX2_hand_189 rfl ?_
          refine g_getR dX2_hand_190 tF_2_36 lD_51 rfl ?_
          refine g_iload_n dX2_hand_193 rfl ?_
          refine g_laldZ (v := T.2.1 62 l1.toNat) dX2_hand_194 lD_62 a1 a2 (by decide) rfl ?_
          refine g_callV [.ref (b + 51), .int (zI (vI T 58 l1.toNat)), .int (zI (aI T (r8 + 1) 200 (vI T 58 l1.toNat))), .int (zI (vI T 61 l1.toNat)), .long (T.2.1 62 l1.toNat)] [] dX2_hand_195 tG_2_152 tM_27 lD_51 rfl rfl rfl rfl (by decide) rfl ?_
          refine gC.mono h (Nat.le_refl _) ?_
          rintro _ T195 ⟨rfl, h⟩
          exact g_vret dX2_hand_198 rfl h
        · replace h := h.2 c157
          refine g_aload_n dX2_hand_160 rfl ?_
          refine g_iload_n dX2_hand_161 rfl ?_
          refine g_aload_n dX2_hand_162 rfl ?_
          refine g_getR dX2_hand_163 tF_2_33 lD_51 rfl ?_
          refine g_iload_n dX2_hand_166 rfl ?_
          refine g_ialdZ (v := vI T 61 l1.toNat) dX2_hand_167 lD_61 a1 a2 (by decide) (zI_v T 61 l1.toNat) ?_
          refine g_aload_n dX2_hand_168 rfl ?_
          refine g_getR dX2_hand_169 tF_2_36 lD_51 rfl ?_
          refine g_iload_n dX2_hand_172 rfl ?_
          refine g_laldZ (v := T.2.1 62 l1.toNat) dX2_hand_173 lD_62 a1 a2 (by decide) rfl ?_
          refine g_callV [.ref (b + 51), .int (zI (vI T 58 l1.toNat)), .int (zI (vI T 61 l1.toNat)), .long (T.2.1 62 l1.toNat)] [] dX2_hand_174 tG_2_148 tM_26 lD_51 rfl rfl rfl rfl (by decide) rfl ?_
          refine gC.mono h (Nat.le_refl _) ?_
          rintro _ T174 ⟨rfl, h⟩
          refine g_goto dX2_hand_177 rfl ?_
          exact g_vret dX2_hand_198 rfl h
      · replace h := h.2 c108
        refine g_aload_n dX2_hand_111 rfl ?_
        refine g_getR dX2_hand_112 tF_2_29 lD_51 rfl ?_
        refine g_iload_n dX2_hand_115 rfl ?_
        refine g_iconst (v := zI 1) dX2_hand_116 (by decide) ?_
        refine g_zastZ dX2_hand_117 lD_60 a1 a2 (by decide) (by decide) ?_
        refine g_aload_n dX2_hand_118 rfl ?_
        refine g_getR dX2_hand_119 tF_2_33 lD_51 rfl ?_
        refine g_iload_n dX2_hand_122 rfl ?_
        refine g_aload_n dX2_hand_123 rfl ?_
        refine g_getZ (v := vI T 51 15) dX2_hand_124 tF_2_85 lD_51 rfl (zI_v T 51 15) ?_
        refine g_iastZ dX2_hand_127 lD_61 a1 a2 (by decide) ?_
        refine g_aload_n dX2_hand_128 rfl ?_
        refine g_getR dX2_hand_129 tF_2_36 lD_51 rfl ?_
        refine g_iload_n dX2_hand_132 rfl ?_
        refine g_aload_n dX2_hand_133 rfl ?_
        refine g_getJv (v := T.2.1 51 16) dX2_hand_134 tF_2_88 lD_51 rfl rfl ?_
        refine g_lastZ dX2_hand_137 lD_62 a1 a2 (by decide) ?_
        refine g_aload_n dX2_hand_138 rfl ?_
        refine g_aload_n dX2_hand_139 rfl ?_
        obtain ⟨r140, hq_r140, e_r140, h⟩ := h
        refine g_getVZ (o := r140) dX2_hand_140 tF_2_50 lD_51 rfl e_r140 (q_lt hq_r140) ?_
        refine g_iload_n dX2_hand_143 rfl ?_
        refine g_iconst (v := zI 1) dX2_hand_144 (by decide) ?_
        refine g_callV [.ref (b + r140), .int (zI (vI T 58 l1.toNat)), .int (zI 1)] [.ref (b + 51)] dX2_hand_145 tG_2_138 tM_39 (lP_0 hq_r140) rfl rfl rfl rfl (by decide) rfl ?_
        refine gC.mono (c_part sa b E _ _ hq_r140 ⟨vI_lo _ _ _, vI_hi _ _ _⟩ (by decide)) (Nat.le_refl _) ?_
        rintro _ _ ⟨rfl, h9⟩
        obtain rfl := h9.symm
        refine g_putI dX2_hand_148 tF_2_72 lD_51 rfl rfl ⟨rfl, rfl⟩ rfl ?_
        refine g_goto dX2_hand_151 rfl ?_
        exact g_vret dX2_hand_198 rfl h
    · replace h := h.2 c44
      refine g_aload_n dX2_hand_47 rfl ?_
      refine g_iload_n dX2_hand_48 rfl ?_
      refine g_putI dX2_hand_49 tF_2_69 lD_51 rfl rfl ⟨rfl, rfl⟩ rfl ?_
      refine g_aload_n dX2_hand_52 rfl ?_
      refine g_aload_n dX2_hand_53 rfl ?_
      refine g_getR dX2_hand_54 tF_2_18 lD_51 rfl ?_
      refine g_aload_n dX2_hand_57 rfl ?_
      obtain ⟨r58, hq_r58, e_r58, h⟩ := h
      refine g_getVZ (o := r58) dX2_hand_58 tF_2_50 lD_51 rfl e_r58 (q_lt hq_r58) ?_
      refine g_getR dX2_hand_61 tF_2_104 (lP_0 hq_r58) rfl ?_
      refine g_iload_n dX2_hand_64 rfl ?_
      refine g_callS [.ref (b + (r58 + 2)), .int (zI (vI T 58 l1.toNat))] [.ref (b + 53), .ref (b + 51)] dX2_hand_65 tG_2_100 tM_96 rfl rfl rfl rfl (by decide) ?_
      refine gC.mono (c_aI sa b E _ _ (lP_2 hq_r58) (by decide) ⟨vI_lo _ _ _, vI_hi _ _ _⟩) (Nat.le_refl _) ?_
      rintro _ _ ⟨rfl, h9⟩
      obtain rfl := h9.symm
      refine g_aload_n dX2_hand_68 rfl ?_
      refine g_getZ (v := vI T 51 15) dX2_hand_69 tF_2_85 lD_51 rfl (zI_v T 51 15) ?_
      refine g_aload_n dX2_hand_72 rfl ?_
      refine g_getJv (v := T.2.1 51 16) dX2_hand_73 tF_2_88 lD_51 rfl rfl ?_
      refine g_aload_n dX2_hand_76 rfl ?_
      refine g_getZ (v := vI T 59 l1.toNat) dX2_hand_77 tF_2_75 lD_51 rfl rfl ?_
      refine g_callV [.ref (b + 53), .int (zI (aI (gI (gI T 51 14 (zI (vI T 59 l1.toNat))) 51 12 (zI l1)) (r58 + 2) 200 (vI T 58 l1.toNat))), .int (zI (vI T 51 15)), .long (T.2.1 51 16), .int (zI (vI T 59 l1.toNat))] [.ref (b + 51)] dX2_hand_80 tG_2_144 tM_2 lD_53 rfl rfl rfl rfl (by decide) rfl ?_
      refine gC.mono h (Nat.le_refl _) ?_
      rintro _ T80 ⟨v80, rfl, h⟩
      refine g_putI dX2_hand_83 tF_2_75 lD_51 rfl rfl ⟨rfl, rfl⟩ rfl ?_
      refine g_aload_n dX2_hand_86 rfl ?_
      refine g_aload_n dX2_hand_87 rfl ?_
      obtain ⟨r88, hq_r88, e_r88, h⟩ := h
      refine g_getVZ (o := r88) dX2_hand_88 tF_2_50 lD_51 rfl e_r88 (q_lt hq_r88) ?_
      refine g_iload_n dX2_hand_91 rfl ?_
      refine g_iconst (v := zI 1) dX2_hand_92 (by decide) ?_
      refine g_callV [.ref (b + r88), .int (zI (vI T 58 l1.toNat)), .int (zI 1)] [.ref (b + 51)] dX2_hand_93 tG_2_138 tM_39 (lP_0 hq_r88) rfl rfl rfl rfl (by decide) rfl ?_
      refine gC.mono (c_part sa b E _ _ hq_r88 ⟨vI_lo _ _ _, vI_hi _ _ _⟩ (by decide)) (Nat.le_refl _) ?_
      rintro _ _ ⟨rfl, h9⟩
      obtain rfl := h9.symm
      refine g_putI dX2_hand_96 tF_2_72 lD_51 rfl rfl ⟨rfl, rfl⟩ rfl ?_
      refine g_goto dX2_hand_99 rfl ?_
      exact g_vret dX2_hand_198 rfl h
  · replace h := h.2 c31
    refine g_aload_n dX2_hand_34 rfl ?_
    refine g_iload_n dX2_hand_35 rfl ?_
    refine g_callV [.ref (b + 51), .int (zI (vI T 58 l1.toNat))] [] dX2_hand_36 tG_2_141 tM_25 lD_51 rfl rfl rfl rfl (by decide) rfl ?_
    refine gC.mono h (Nat.le_refl _) ?_
    rintro _ T36 ⟨rfl, h⟩
    refine g_goto dX2_hand_39 rfl ?_
    exact g_vret dX2_hand_198 rfl h
def f_X3_settle (sa : Nat → Nat) (b : Nat) (E : Nat × mH) (d : Nat) (l0 : Nat) (T : gT) (Q : Option Value → gT → Prop) : Prop := gW (tP sa) lD b E (d + 1) mX3_settle 14 [some (.ref (b + l0)), some (.int (zI (-1))), some (.int (zI 0))] [] (gI (gI T l0 1 (zI 0)) l0 2 (zI 0)) Q
set_option maxRecDepth 4000 in
theorem w_X3_settle {sa : Nat → Nat} {b : Nat} {E : Nat × mH} {d : Nat} {l0 : Nat} {T : gT} {Q : Option Value → gT → Prop} (hq_l0 : l0 = 2 ∨ l0 = 21) (h : f_X3_settle sa b E d l0 T Q) : gC (tP sa) lD b E (d + 1) mX3_settle [.ref (b + l0)] T Q := by
  unfold f_X3_settle at h
  refine ⟨Nat.le_of_ble_eq_true rfl, ?_⟩
  show gW (tP sa) lD b E (d + 1) mX3_settle 0 [some (.ref (b + l0)), none, none] [] T Q
  refine g_aload_n dX3_settle_0 rfl ?_
  refine g_iconst (v := zI 0) dX3_settle_1 (by decide) ?_
  refine g_putI dX3_settle_2 tF_3_77 (lP_0 hq_l0) rfl rfl ⟨rfl, rfl⟩ rfl ?_
  refine g_aload_n dX3_settle_5 rfl ?_
  refine g_iconst (v := zI 0) dX3_settle_6 (by decide) ?_
  refine g_putI dX3_settle_7 tF_3_80 (lP_0 hq_l0) rfl rfl ⟨rfl, rfl⟩ rfl ?_
  refine g_iconst (v := zI (-1)) dX3_settle_10 (by decide) ?_
  refine g_istore_n (L' := [some (.ref (b + l0)), some (.int (zI (-1))), none]) dX3_settle_11 rfl ?_
  refine g_iconst (v := zI 0) dX3_settle_12 (by decide) ?_
  refine g_istore_n (L' := [some (.ref (b + l0)), some (.int (zI (-1))), some (.int (zI 0))]) dX3_settle_13 rfl ?_
  exact h
def f_X3_settle_14 (sa : Nat → Nat) (b : Nat) (E : Nat × mH) (d : Nat) (l0 : Nat) (l1 : Int) (l2 : Int) (T : gT) (Q : Option Value → gT → Prop) : Prop := (-2147483648 ≤ l2 ∧ l2 < 2147483648) ∧ (((vI T l0 0) ≤ l2 → gW (tP sa) lD b E (d + 1) mX3_settle 79 [some (.ref (b + l0)), some (.int (zI l1)), some (.int (zI 0))] [] T Q) ∧ (¬ (vI T l0 0) ≤ l2 → gC (tP sa) lD b E d mX3_numberVariables [.ref (b + l0), .int (zI l2)] T (fun r T24 => pV r (gC (tP sa) lD b E d mX3_join [.ref (b + l0), .int (zI l2), .int (zI l1)] T24 (fun r T30 => pV r (0 ≤ l2 ∧ l2 < 200 ∧ (((vI (gI T30 (l0 + 5) l2.toNat (zI (-1))) (l0 + 1) l2.toNat) = 2 → gC (tP sa) lD b E d mX3_numberFunction [.ref (b + l0), .int (zI l2)] (gI T30 (l0 + 5) l2.toNat (zI (-1))) (fun r T62 => pV r (gC (tP sa) lD b E d mX3_openBehind [.ref (b + l0), .int (zI l2)] T62 (fun r T67 => pI r (fun v67 => gW (tP sa) lD b E (d + 1) mX3_settle 14 [some (.ref (b + l0)), some (.int (zI v67)), some (.int (zI (l2 + 1)))] [] T67 Q))))) ∧ (¬ (vI (gI T30 (l0 + 5) l2.toNat (zI (-1))) (l0 + 1) l2.toNat) = 2 → ((¬ (vI (gI T30 (l0 + 5) l2.toNat (zI (-1))) (l0 + 1) l2.toNat) = 3 → gC (tP sa) lD b E d mX3_openBehind [.ref (b + l0), .int (zI l2)] (gI T30 (l0 + 5) l2.toNat (zI (-1))) (fun r T67 => pI r (fun v67 => gW (tP sa) lD b E (d + 1) mX3_settle 14 [some (.ref (b + l0)), some (.int (zI v67)), some (.int (zI (l2 + 1)))] [] T67 Q))) ∧ ((vI (gI T30 (l0 + 5) l2.toNat (zI (-1))) (l0 + 1) l2.toNat) = 3 → gC (tP sa) lD b E d mX3_numberFunction [.ref (b + l0), .int (zI l2)] (gI T30 (l0 + 5) l2.toNat (zI (-1))) (fun r T62 => pV r (gC (tP sa) lD b E d mX3_openBehind [.ref (b + l0), .int (zI l2)] T62 (fun r T67 => pI r (fun v67 => gW (tP sa) lD b E (d + 1) mX3_settle 14 [some (.ref (b + l0)), some (.int (zI v67)), some (.int (zI (l2 + 1)))] [] T67 Q))))))))))))))
set_option maxRecDepth 4000 in
theorem w_X3_settle_14 {sa : Nat → Nat} {b : Nat} {E : Nat × mH} {d : Nat} {l0 : Nat} {l1 : Int} {l2 : Int} {T : gT} {Q : Option Value → gT → Prop} (hq_l0 : l0 = 2 ∨ l0 = 21) (h : f_X3_settle_14 sa b E d l0 l1 l2 T Q) : gW (tP sa) lD b E (d + 1) mX3_settle 14 [some (.ref (b + l0)), some (.int (zI l1)), some (.int (zI l2))] [] T Q := by
  unfold f_X3_settle_14 at h
  refine g_iload_n dX3_settle_14 rfl ?_
  refine g_aload_n dX3_settle_15 rfl ?_
  refine g_getZ (v := vI T l0 0) dX3_settle_16 tF_3_59 (lP_0 hq_l0) rfl (zI_v _ _ _) ?_
  obtain ⟨a1, h⟩ := h
  refine g_icmp_geZ dX3_settle_19 rfl a1 ⟨vI_lo _ _ _, vI_hi _ _ _⟩ (fun c19 => ?_) (fun c19 => ?_)
  · replace h := h.1 c19
    refine g_iconst (v := zI 0) dX3_settle_77 (by decide) ?_
    refine g_istore_n (L' := [some (.ref (b + l0)), some (.int (zI l1)), some (.int (zI 0))]) dX3_settle_78 rfl ?_
    exact h
  · replace h := h.2 c19
    refine g_aload_n dX3_settle_22 rfl ?_
    refine g_iload_n dX3_settle_23 rfl ?_
    refine g_callV [.ref (b + l0), .int (zI l2)] [] dX3_settle_24 tG_3_83 tM_32 (lP_0 hq_l0) rfl rfl rfl rfl (by decide) rfl ?_
    refine gC.mono h (Nat.le_refl _) ?_
    rintro _ T24 ⟨rfl, h⟩
    refine g_aload_n dX3_settle_27 rfl ?_
    refine g_iload_n dX3_settle_28 rfl ?_
    refine g_iload_n dX3_settle_29 rfl ?_
    refine g_callV [.ref (b + l0), .int (zI l2), .int (zI l1)] [] dX3_settle_30 tG_3_87 tM_37 (lP_0 hq_l0) rfl rfl rfl rfl (by decide) rfl ?_
    refine gC.mono h (Nat.le_refl _) ?_
    rintro _ T30 ⟨rfl, h⟩
    refine g_aload_n dX3_settle_33 rfl ?_
    refine g_getR dX3_settle_34 tF_3_24 (lP_0 hq_l0) rfl ?_
    refine g_iload_n dX3_settle_37 rfl ?_
    refine g_iconst (v := zI (-1)) dX3_settle_38 (by decide) ?_
    obtain ⟨a2, h⟩ := h
    obtain ⟨a3, h⟩ := h
    refine g_iastZ dX3_settle_39 (lP_5 hq_l0) a2 a3 (by decide) ?_
    refine g_aload_n dX3_settle_40 rfl ?_
    refine g_getR dX3_settle_41 tF_3_9 (lP_0 hq_l0) rfl ?_
    refine g_iload_n dX3_settle_44 rfl ?_
    refine g_ialdZ (v := vI (gI T30 (l0 + 5) l2.toNat (zI (-1))) (l0 + 1) l2.toNat) dX3_settle_45 (lP_1 hq_l0) a2 a3 (by decide) (zI_v (gI T30 (l0 + 5) l2.toNat (zI (-1))) (l0 + 1) l2.toNat) ?_
    refine g_iconst (v := zI 2) dX3_settle_46 (by decide) ?_
    refine g_icmp_eqZ dX3_settle_47 rfl ⟨vI_lo _ _ _, vI_hi _ _ _⟩ (by decide) (fun c47 => ?_) (fun c47 => ?_)
    · replace h := h.1 c47
      refine g_aload_n dX3_settle_60 rfl ?_
      refine g_iload_n dX3_settle_61 rfl ?_
      refine g_callV [.ref (b + l0), .int (zI l2)] [] dX3_settle_62 tG_3_91 tM_36 (lP_0 hq_l0) rfl rfl rfl rfl (by decide) rfl ?_
      refine gC.mono h (Nat.le_refl _) ?_
      rintro _ T62 ⟨rfl, h⟩
      refine g_aload_n dX3_settle_65 rfl ?_
      refine g_iload_n dX3_settle_66 rfl ?_
      refine g_callV [.ref (b + l0), .int (zI l2)] [] dX3_settle_67 tG_3_94 tM_38 (lP_0 hq_l0) rfl rfl rfl rfl (by decide) rfl ?_
      refine gC.mono h (Nat.le_refl _) ?_
      rintro _ T67 ⟨v67, rfl, h⟩
      refine g_istore_n (L' := [some (.ref (b + l0)), some (.int (zI v67)), some (.int (zI l2))]) dX3_settle_70 rfl ?_
      refine g_iinc (x := zI l2) (v := zI (l2 + 1)) (L' := [some (.ref (b + l0)), some (.int (zI v67)), some (.int (zI (l2 + 1)))]) dX3_settle_71 rfl (zI_add _ _) rfl ?_
      refine g_goto dX3_settle_74 rfl ?_
      exact h
    · replace h := h.2 c47
      refine g_aload_n dX3_settle_50 rfl ?_
      refine g_getR dX3_settle_51 tF_3_9 (lP_0 hq_l0) rfl ?_
      refine g_iload_n dX3_settle_54 rfl ?_
      refine g_ialdZ (v := vI (gI T30 (l0 + 5) l2.toNat (zI (-1))) (l0 + 1) l2.toNat) dX3_settle_55 (lP_1 hq_l0) a2 a3 (by decide) (zI_v (gI T30 (l0 + 5) l2.toNat (zI (-1))) (l0 + 1) l2.toNat) ?_
      refine g_iconst (v := zI 3) dX3_settle_56 (by decide) ?_
      refine g_icmp_neZ dX3_settle_57 rfl ⟨vI_lo _ _ _, vI_hi _ _ _⟩ (by decide) (fun c57 => ?_) (fun c57 => ?_)
      · replace h := h.1 c57
        refine g_aload_n dX3_settle_65 rfl ?_
        refine g_iload_n dX3_settle_66 rfl ?_
        refine g_callV [.ref (b + l0), .int (zI l2)] [] dX3_settle_67 tG_3_94 tM_38 (lP_0 hq_l0) rfl rfl rfl rfl (by decide) rfl ?_
        refine gC.mono h (Nat.le_refl _) ?_
        rintro _ T67 ⟨v67, rfl, h⟩
        refine g_istore_n (L' := [some (.ref (b + l0)), some (.int (zI v67)), some (.int (zI l2))]) dX3_settle_70 rfl ?_
        refine g_iinc (x := zI l2) (v := zI (l2 + 1)) (L' := [some (.ref (b + l0)), some (.int (zI v67)), some (.int (zI (l2 + 1)))]) dX3_settle_71 rfl (zI_add _ _) rfl ?_
        refine g_goto dX3_settle_74 rfl ?_
        exact h
      · replace h := h.2 c57
        refine g_aload_n dX3_settle_60 rfl ?_
        refine g_iload_n dX3_settle_61 rfl ?_
        refine g_callV [.ref (b + l0), .int (zI l2)] [] dX3_settle_62 tG_3_91 tM_36 (lP_0 hq_l0) rfl rfl rfl rfl (by decide) rfl ?_
        refine gC.mono h (Nat.le_refl _) ?_
        rintro _ T62 ⟨rfl, h⟩
        refine g_aload_n dX3_settle_65 rfl ?_
        refine g_iload_n dX3_settle_66 rfl ?_
        refine g_callV [.ref (b + l0), .int (zI l2)] [] dX3_settle_67 tG_3_94 tM_38 (lP_0 hq_l0) rfl rfl rfl rfl (by decide) rfl ?_
        refine gC.mono h (Nat.le_refl _) ?_
        rintro _ T67 ⟨v67, rfl, h⟩
        refine g_istore_n (L' := [some (.ref (b + l0)), some (.int (zI v67)), some (.int (zI l2))]) dX3_settle_70 rfl ?_
        refine g_iinc (x := zI l2) (v := zI (l2 + 1)) (L' := [some (.ref (b + l0)), some (.int (zI v67)), some (.int (zI (l2 + 1)))]) dX3_settle_71 rfl (zI_add _ _) rfl ?_
        refine g_goto dX3_settle_74 rfl ?_
        exact h
def f_X3_settle_79 (sa : Nat → Nat) (b : Nat) (E : Nat × mH) (d : Nat) (l0 : Nat) (l1 : Int) (l2 : Int) (T : gT) (Q : Option Value → gT → Prop) : Prop := (-2147483648 ≤ l2 ∧ l2 < 2147483648) ∧ (((vI T l0 1) ≤ l2 → Q none T) ∧ (¬ (vI T l0 1) ≤ l2 → gC (tP sa) lD b E d mX3_countFree [.ref (b + l0), .int (zI l2)] T (fun r T94 => pI r (fun v94 => 0 ≤ l2 ∧ l2 < 50 ∧ gW (tP sa) lD b E (d + 1) mX3_settle 79 [some (.ref (b + l0)), some (.int (zI l1)), some (.int (zI (l2 + 1)))] [] (gI T94 (l0 + 10) l2.toNat (zI v94)) Q))))
set_option maxRecDepth 4000 in
theorem w_X3_settle_79 {sa : Nat → Nat} {b : Nat} {E : Nat × mH} {d : Nat} {l0 : Nat} {l1 : Int} {l2 : Int} {T : gT} {Q : Option Value → gT → Prop} (hq_l0 : l0 = 2 ∨ l0 = 21) (h : f_X3_settle_79 sa b E d l0 l1 l2 T Q) : gW (tP sa) lD b E (d + 1) mX3_settle 79 [some (.ref (b + l0)), some (.int (zI l1)), some (.int (zI l2))] [] T Q := by
  unfold f_X3_settle_79 at h
  refine g_iload_n dX3_settle_79 rfl ?_
  refine g_aload_n dX3_settle_80 rfl ?_
  refine g_getZ (v := vI T l0 1) dX3_settle_81 tF_3_77 (lP_0 hq_l0) rfl (zI_v _ _ _) ?_
  obtain ⟨a1, h⟩ := h
  refine g_icmp_geZ dX3_settle_84 rfl a1 ⟨vI_lo _ _ _, vI_hi _ _ _⟩ (fun c84 => ?_) (fun c84 => ?_)
  · replace h := h.1 c84
    exact g_vret dX3_settle_104 rfl h
  · replace h := h.2 c84
    refine g_aload_n dX3_settle_87 rfl ?_
    refine g_getR dX3_settle_88 tF_3_39 (lP_0 hq_l0) rfl ?_
    refine g_iload_n dX3_settle_91 rfl ?_
    refine g_aload_n dX3_settle_92 rfl ?_
    refine g_iload_n dX3_settle_93 rfl ?_
    refine g_callV [.ref (b + l0), .int (zI l2)] [.int (zI l2), .ref (b + (l0 + 10))] dX3_settle_94 tG_3_97 tM_35 (lP_0 hq_l0) rfl rfl rfl rfl (by decide) rfl ?_
    refine gC.mono h (Nat.le_refl _) ?_
    rintro _ T94 ⟨v94, rfl, h⟩
    obtain ⟨a2, h⟩ := h
    obtain ⟨a3, h⟩ := h
    refine g_iastZ dX3_settle_97 (lP_10 hq_l0) a2 a3 (by decide) ?_
    refine g_iinc (x := zI l2) (v := zI (l2 + 1)) (L' := [some (.ref (b + l0)), some (.int (zI l1)), some (.int (zI (l2 + 1)))]) dX3_settle_98 rfl (zI_add _ _) rfl ?_
    refine g_goto dX3_settle_101 rfl ?_
    exact h
def f_X3_countMeeting (sa : Nat → Nat) (b : Nat) (E : Nat × mH) (d : Nat) (l0 : Nat) (l1 : Int) (T : gT) (Q : Option Value → gT → Prop) : Prop := (-2147483648 ≤ l1 ∧ l1 < 2147483648) ∧ ((l1 < 0 → Q none T) ∧ (¬ l1 < 0 → ((100 ≤ l1 → Q none T) ∧ (¬ 100 ≤ l1 → 0 ≤ l1 ∧ l1 < 100 ∧ Q none (gI T (l0 + 9) l1.toNat (zI ((vI T (l0 + 9) l1.toNat) + 1)))))))
set_option maxRecDepth 4000 in
theorem w_X3_countMeeting {sa : Nat → Nat} {b : Nat} {E : Nat × mH} {d : Nat} {l0 : Nat} {l1 : Int} {T : gT} {Q : Option Value → gT → Prop} (hq_l0 : l0 = 2 ∨ l0 = 21) (h : f_X3_countMeeting sa b E d l0 l1 T Q) : gC (tP sa) lD b E d mX3_countMeeting [.ref (b + l0), .int (zI l1)] T Q := by
  unfold f_X3_countMeeting at h
  refine ⟨Nat.le_of_ble_eq_true rfl, ?_⟩
  show gW (tP sa) lD b E d mX3_countMeeting 0 [some (.ref (b + l0)), some (.int (zI l1))] [] T Q
  refine g_iload_n dX3_countMeeting_0 rfl ?_
  obtain ⟨a1, h⟩ := h
  refine g_if_ltZ dX3_countMeeting_1 rfl a1  (fun c1 => ?_) (fun c1 => ?_)
  · replace h := h.1 c1
    exact g_vret dX3_countMeeting_20 rfl h
  · replace h := h.2 c1
    refine g_iload_n dX3_countMeeting_4 rfl ?_
    refine g_bipush (v := zI 100) dX3_countMeeting_5 (by decide) ?_
    refine g_icmp_geZ dX3_countMeeting_7 rfl a1 (by decide) (fun c7 => ?_) (fun c7 => ?_)
    · replace h := h.1 c7
      exact g_vret dX3_countMeeting_20 rfl h
    · replace h := h.2 c7
      refine g_aload_n dX3_countMeeting_10 rfl ?_
      refine g_getR dX3_countMeeting_11 tF_3_36 (lP_0 hq_l0) rfl ?_
      refine g_iload_n dX3_countMeeting_14 rfl ?_
      refine g_dup2 dX3_countMeeting_15 rfl rfl ?_
      obtain ⟨a2, h⟩ := h
      obtain ⟨a3, h⟩ := h
      refine g_ialdZ (v := vI T (l0 + 9) l1.toNat) dX3_countMeeting_16 (lP_9 hq_l0) a2 a3 (by decide) (zI_v T (l0 + 9) l1.toNat) ?_
      refine g_iconst (v := zI 1) dX3_countMeeting_17 (by decide) ?_
      refine g_iaddZ dX3_countMeeting_18 ?_
      refine g_iastZ dX3_countMeeting_19 (lP_9 hq_l0) a2 a3 (by decide) ?_
      exact g_vret dX3_countMeeting_20 rfl h
def f_X3_numberFunction (sa : Nat → Nat) (b : Nat) (E : Nat × mH) (d : Nat) (l0 : Nat) (l1 : Int) (T : gT) (Q : Option Value → gT → Prop) : Prop := ((50 ≤ (vI T l0 1) → Q none T) ∧ (¬ 50 ≤ (vI T l0 1) → 0 ≤ l1 ∧ l1 < 200 ∧ 0 ≤ vI (gI T (l0 + 5) l1.toNat (zI (vI T l0 1))) l0 1 ∧ vI (gI T (l0 + 5) l1.toNat (zI (vI T l0 1))) l0 1 < 50 ∧ Q none (gI (gI (gI T (l0 + 5) l1.toNat (zI (vI T l0 1))) (l0 + 7) (vI (gI T (l0 + 5) l1.toNat (zI (vI T l0 1))) l0 1).toNat (zI l1)) l0 1 (zI ((vI (gI (gI T (l0 + 5) l1.toNat (zI (vI T l0 1))) (l0 + 7) (vI (gI T (l0 + 5) l1.toNat (zI (vI T l0 1))) l0 1).toNat (zI l1)) l0 1) + 1)))))
set_option maxRecDepth 4000 in
theorem w_X3_numberFunction {sa : Nat → Nat} {b : Nat} {E : Nat × mH} {d : Nat} {l0 : Nat} {l1 : Int} {T : gT} {Q : Option Value → gT → Prop} (hq_l0 : l0 = 2 ∨ l0 = 21) (h : f_X3_numberFunction sa b E d l0 l1 T Q) : gC (tP sa) lD b E d mX3_numberFunction [.ref (b + l0), .int (zI l1)] T Q := by
  unfold f_X3_numberFunction at h
  refine ⟨Nat.le_of_ble_eq_true rfl, ?_⟩
  show gW (tP sa) lD b E d mX3_numberFunction 0 [some (.ref (b + l0)), some (.int (zI l1))] [] T Q
  refine g_aload_n dX3_numberFunction_0 rfl ?_
  refine g_getZ (v := vI T l0 1) dX3_numberFunction_1 tF_3_77 (lP_0 hq_l0) rfl (zI_v _ _ _) ?_
  refine g_bipush (v := zI 50) dX3_numberFunction_4 (by decide) ?_
  refine g_icmp_geZ dX3_numberFunction_6 rfl ⟨vI_lo _ _ _, vI_hi _ _ _⟩ (by decide) (fun c6 => ?_) (fun c6 => ?_)
  · replace h := h.1 c6
    exact g_vret dX3_numberFunction_39 rfl h
  · replace h := h.2 c6
    refine g_aload_n dX3_numberFunction_9 rfl ?_
    refine g_getR dX3_numberFunction_10 tF_3_24 (lP_0 hq_l0) rfl ?_
    refine g_iload_n dX3_numberFunction_13 rfl ?_
    refine g_aload_n dX3_numberFunction_14 rfl ?_
    refine g_getZ (v := vI T l0 1) dX3_numberFunction_15 tF_3_77 (lP_0 hq_l0) rfl (zI_v _ _ _) ?_
    obtain ⟨a1, h⟩ := h
    obtain ⟨a2, h⟩ := h
    refine g_iastZ dX3_numberFunction_18 (lP_5 hq_l0) a1 a2 (by decide) ?_
    refine g_aload_n dX3_numberFunction_19 rfl ?_
    refine g_getR dX3_numberFunction_20 tF_3_30 (lP_0 hq_l0) rfl ?_
    refine g_aload_n dX3_numberFunction_23 rfl ?_
    refine g_getZ (v := vI (gI T (l0 + 5) l1.toNat (zI (vI T l0 1))) l0 1) dX3_numberFunction_24 tF_3_77 (lP_0 hq_l0) rfl (zI_v _ _ _) ?_
    refine g_iload_n dX3_numberFunction_27 rfl ?_
    obtain ⟨a3, h⟩ := h
    obtain ⟨a4, h⟩ := h
    refine g_iastZ dX3_numberFunction_28 (lP_7 hq_l0) a3 a4 (by decide) ?_
    refine g_aload_n dX3_numberFunction_29 rfl ?_
    refine g_dup dX3_numberFunction_30 rfl ?_
    refine g_getZ (v := vI (gI (gI T (l0 + 5) l1.toNat (zI (vI T l0 1))) (l0 + 7) (vI (gI T (l0 + 5) l1.toNat (zI (vI T l0 1))) l0 1).toNat (zI l1)) l0 1) dX3_numberFunction_31 tF_3_77 (lP_0 hq_l0) rfl (zI_v _ _ _) ?_
    refine g_iconst (v := zI 1) dX3_numberFunction_34 (by decide) ?_
    refine g_iaddZ dX3_numberFunction_35 ?_
    refine g_putI dX3_numberFunction_36 tF_3_77 (lP_0 hq_l0) rfl rfl ⟨rfl, rfl⟩ rfl ?_
    exact g_vret dX3_numberFunction_39 rfl h
def f_X3_openBehind (sa : Nat → Nat) (b : Nat) (E : Nat × mH) (d : Nat) (l0 : Nat) (l1 : Int) (T : gT) (Q : Option Value → gT → Prop) : Prop := gW (tP sa) lD b E (d + 1) mX3_openBehind 4 [some (.ref (b + l0)), some (.int (zI l1)), some (.int (zI l1)), some (.int (zI 0))] [] T Q
set_option maxRecDepth 4000 in
theorem w_X3_openBehind {sa : Nat → Nat} {b : Nat} {E : Nat × mH} {d : Nat} {l0 : Nat} {l1 : Int} {T : gT} {Q : Option Value → gT → Prop} (hq_l0 : l0 = 2 ∨ l0 = 21) (hE : mSta sa b E) (h : f_X3_openBehind sa b E d l0 l1 T Q) : gC (tP sa) lD b E (d + 1) mX3_openBehind [.ref (b + l0), .int (zI l1)] T Q := by
  unfold f_X3_openBehind at h
  have hE9 := hE
  obtain ⟨⟨ha_100, f100, hk_100, hf_100⟩, ⟨ha_101, f101, hk_101, hf_101⟩⟩ := hE
  refine ⟨Nat.le_of_ble_eq_true rfl, ?_⟩
  show gW (tP sa) lD b E (d + 1) mX3_openBehind 0 [some (.ref (b + l0)), some (.int (zI l1)), none, none] [] T Q
  refine g_iload_n dX3_openBehind_0 rfl ?_
  refine g_istore_n (L' := [some (.ref (b + l0)), some (.int (zI l1)), some (.int (zI l1)), none]) dX3_openBehind_1 rfl ?_
  refine g_iconst (v := zI 0) dX3_openBehind_2 (by decide) ?_
  refine g_istore_n (L' := [some (.ref (b + l0)), some (.int (zI l1)), some (.int (zI l1)), some (.int (zI 0))]) dX3_openBehind_3 rfl ?_
  exact h
def f_X3_openBehind_4 (sa : Nat → Nat) (b : Nat) (E : Nat × mH) (d : Nat) (l0 : Nat) (l1 : Int) (l2 : Int) (l3 : Int) (T : gT) (Q : Option Value → gT → Prop) : Prop := (-2147483648 ≤ l3 ∧ l3 < 2147483648) ∧ (-2147483648 ≤ l1 ∧ l1 < 2147483648) ∧ ((l1 < l3 → Q (some (.int (zI l2))) T) ∧ (¬ l1 < l3 → (-2147483648 ≤ l2 ∧ l2 < 2147483648) ∧ ((l2 = (-1) → Q (some (.int (zI l2))) T) ∧ (¬ l2 = (-1) → 0 ≤ l2 ∧ l2 < 200 ∧ (-2147483648 ≤ aS stA (vI T (l0 + 1) l2.toNat) ∧ aS stA (vI T (l0 + 1) l2.toNat) < 2147483648) ∧ (((aS stA (vI T (l0 + 1) l2.toNat)) ≤ (vI T (l0 + 16) l2.toNat) → gW (tP sa) lD b E (d + 1) mX3_openBehind 4 [some (.ref (b + l0)), some (.int (zI l1)), some (.int (zI (vI (gI T (l0 + 17) l2.toNat (zI (l1 + 1))) (l0 + 4) l2.toNat))), some (.int (zI (l3 + 1)))] [] (gI T (l0 + 17) l2.toNat (zI (l1 + 1))) Q) ∧ (¬ (aS stA (vI T (l0 + 1) l2.toNat)) ≤ (vI T (l0 + 16) l2.toNat) → Q (some (.int (zI l2))) T))))))
set_option maxRecDepth 4000 in
theorem w_X3_openBehind_4 {sa : Nat → Nat} {b : Nat} {E : Nat × mH} {d : Nat} {l0 : Nat} {l1 : Int} {l2 : Int} {l3 : Int} {T : gT} {Q : Option Value → gT → Prop} (hq_l0 : l0 = 2 ∨ l0 = 21) (hE : mSta sa b E) (h : f_X3_openBehind_4 sa b E d l0 l1 l2 l3 T Q) : gW (tP sa) lD b E (d + 1) mX3_openBehind 4 [some (.ref (b + l0)), some (.int (zI l1)), some (.int (zI l2)), some (.int (zI l3))] [] T Q := by
  unfold f_X3_openBehind_4 at h
  have hE9 := hE
  obtain ⟨⟨ha_100, f100, hk_100, hf_100⟩, ⟨ha_101, f101, hk_101, hf_101⟩⟩ := hE
  refine g_iload_n dX3_openBehind_4 rfl ?_
  refine g_iload_n dX3_openBehind_5 rfl ?_
  obtain ⟨a1, h⟩ := h
  obtain ⟨a2, h⟩ := h
  refine g_icmp_gtZ dX3_openBehind_6 rfl a1 a2 (fun c6 => ?_) (fun c6 => ?_)
  · replace h := h.1 c6
    refine g_iload_n dX3_openBehind_59 rfl ?_
    exact g_iret dX3_openBehind_60 rfl rfl h
  · replace h := h.2 c6
    refine g_iload_n dX3_openBehind_9 rfl ?_
    refine g_iconst (v := zI (-1)) dX3_openBehind_10 (by decide) ?_
    obtain ⟨a3, h⟩ := h
    refine g_icmp_eqZ dX3_openBehind_11 rfl a3 (by decide) (fun c11 => ?_) (fun c11 => ?_)
    · replace h := h.1 c11
      refine g_iload_n dX3_openBehind_59 rfl ?_
      exact g_iret dX3_openBehind_60 rfl rfl h
    · replace h := h.2 c11
      refine g_aload_n dX3_openBehind_14 rfl ?_
      refine g_getR dX3_openBehind_15 tF_3_50 (lP_0 hq_l0) rfl ?_
      refine g_iload_n dX3_openBehind_18 rfl ?_
      obtain ⟨a4, h⟩ := h
      obtain ⟨a5, h⟩ := h
      refine g_ialdZ (v := vI T (l0 + 16) l2.toNat) dX3_openBehind_19 (lP_16 hq_l0) a4 a5 (by decide) (zI_v T (l0 + 16) l2.toNat) ?_
      refine g_getstatic dX3_openBehind_20 (tZ_3_113 sa) ?_
      refine g_aload_n dX3_openBehind_23 rfl ?_
      refine g_getR dX3_openBehind_24 tF_3_9 (lP_0 hq_l0) rfl ?_
      refine g_iload_n dX3_openBehind_27 rfl ?_
      refine g_ialdZ (v := vI T (l0 + 1) l2.toNat) dX3_openBehind_28 (lP_1 hq_l0) a4 a5 (by decide) (zI_v T (l0 + 1) l2.toNat) ?_
      refine g_callS [.ref (sa 100), .int (zI (vI T (l0 + 1) l2.toNat))] [.int (zI (vI T (l0 + 16) l2.toNat))] dX3_openBehind_29 tG_3_100 tM_96 rfl rfl rfl rfl (by decide) ?_
      refine gC.mono (c_aS sa b E _ _ hE9 ⟨vI_lo _ _ _, vI_hi _ _ _⟩) (Nat.le_refl _) ?_
      rintro _ _ ⟨rfl, h9⟩
      obtain rfl := h9.symm
      obtain ⟨a6, h⟩ := h
      refine g_icmp_geZ dX3_openBehind_32 rfl ⟨vI_lo _ _ _, vI_hi _ _ _⟩ a6 (fun c32 => ?_) (fun c32 => ?_)
      · replace h := h.1 c32
        refine g_aload_n dX3_openBehind_37 rfl ?_
        refine g_getR dX3_openBehind_38 tF_3_53 (lP_0 hq_l0) rfl ?_
        refine g_iload_n dX3_openBehind_41 rfl ?_
        refine g_iload_n dX3_openBehind_42 rfl ?_
        refine g_iconst (v := zI 1) dX3_openBehind_43 (by decide) ?_
        refine g_iaddZ dX3_openBehind_44 ?_
        refine g_iastZ dX3_openBehind_45 (lP_17 hq_l0) a4 a5 (by decide) ?_
        refine g_aload_n dX3_openBehind_46 rfl ?_
        refine g_getR dX3_openBehind_47 tF_3_21 (lP_0 hq_l0) rfl ?_
        refine g_iload_n dX3_openBehind_50 rfl ?_
        refine g_ialdZ (v := vI (gI T (l0 + 17) l2.toNat (zI (l1 + 1))) (l0 + 4) l2.toNat) dX3_openBehind_51 (lP_4 hq_l0) a4 a5 (by decide) (zI_v (gI T (l0 + 17) l2.toNat (zI (l1 + 1))) (l0 + 4) l2.toNat) ?_
        refine g_istore_n (L' := [some (.ref (b + l0)), some (.int (zI l1)), some (.int (zI (vI (gI T (l0 + 17) l2.toNat (zI (l1 + 1))) (l0 + 4) l2.toNat))), some (.int (zI l3))]) dX3_openBehind_52 rfl ?_
        refine g_iinc (x := zI l3) (v := zI (l3 + 1)) (L' := [some (.ref (b + l0)), some (.int (zI l1)), some (.int (zI (vI (gI T (l0 + 17) l2.toNat (zI (l1 + 1))) (l0 + 4) l2.toNat))), some (.int (zI (l3 + 1)))]) dX3_openBehind_53 rfl (zI_add _ _) rfl ?_
        refine g_goto dX3_openBehind_56 rfl ?_
        exact h
      · replace h := h.2 c32
        refine g_iload_n dX3_openBehind_35 rfl ?_
        exact g_iret dX3_openBehind_36 rfl rfl h
def f_X3_functionsIn (sa : Nat → Nat) (b : Nat) (E : Nat × mH) (d : Nat) (l0 : Nat) (l1 : Int) (l2 : Int) (T : gT) (Q : Option Value → gT → Prop) : Prop := (-2147483648 ≤ l1 ∧ l1 < 2147483648) ∧ gW (tP sa) lD b E (d + 1) mX3_functionsIn 9 [some (.ref (b + l0)), some (.int (zI l1)), some (.int (zI l2)), some (.int (zI 0)), some (.int (zI (if l1 < 0 then 0 else l1)))] [] T Q
set_option maxRecDepth 4000 in
theorem w_X3_functionsIn {sa : Nat → Nat} {b : Nat} {E : Nat × mH} {d : Nat} {l0 : Nat} {l1 : Int} {l2 : Int} {T : gT} {Q : Option Value → gT → Prop} (hq_l0 : l0 = 2 ∨ l0 = 21) (h : f_X3_functionsIn sa b E d l0 l1 l2 T Q) : gC (tP sa) lD b E (d + 1) mX3_functionsIn [.ref (b + l0), .int (zI l1), .int (zI l2)] T Q := by
  unfold f_X3_functionsIn at h
  refine ⟨Nat.le_of_ble_eq_true rfl, ?_⟩
  show gW (tP sa) lD b E (d + 1) mX3_functionsIn 0 [some (.ref (b + l0)), some (.int (zI l1)), some (.int (zI l2)), none, none] [] T Q
  refine g_iconst (v := zI 0) dX3_functionsIn_0 (by decide) ?_
  refine g_istore_n (L' := [some (.ref (b + l0)), some (.int (zI l1)), some (.int (zI l2)), some (.int (zI 0)), none]) dX3_functionsIn_1 rfl ?_
  refine g_iload_n dX3_functionsIn_2 rfl ?_
  refine g_iconst (v := zI 0) dX3_functionsIn_3 (by decide) ?_
  obtain ⟨a1, h⟩ := h
  refine g_primS (st1 := [.int (zI (if l1 < 0 then 0 else l1))]) dX3_functionsIn_4 tG_3_63 rfl (fun S9 => congrArg (fun v9 => some (Value.int v9 :: _, S9)) (zI_max (x := l1) (y := 0) a1 (by decide))) rfl ?_
  refine g_istore (L' := [some (.ref (b + l0)), some (.int (zI l1)), some (.int (zI l2)), some (.int (zI 0)), some (.int (zI (if l1 < 0 then 0 else l1)))]) dX3_functionsIn_7 rfl ?_
  exact h
def f_X3_functionsIn_9 (sa : Nat → Nat) (b : Nat) (E : Nat × mH) (d : Nat) (l0 : Nat) (l1 : Int) (l2 : Int) (l3 : Int) (l4 : Int) (T : gT) (Q : Option Value → gT → Prop) : Prop := (-2147483648 ≤ l4 ∧ l4 < 2147483648) ∧ (-2147483648 ≤ l2 ∧ l2 < 2147483648) ∧ ((l2 ≤ l4 → Q (some (.int (zI l3))) T) ∧ (¬ l2 ≤ l4 → (((vI T l0 0) ≤ l4 → Q (some (.int (zI l3))) T) ∧ (¬ (vI T l0 0) ≤ l4 → 0 ≤ l4 ∧ l4 < 200 ∧ ((¬ (vI T (l0 + 5) l4.toNat) = (-1) → gW (tP sa) lD b E (d + 1) mX3_functionsIn 9 [some (.ref (b + l0)), some (.int (zI l1)), some (.int (zI l2)), some (.int (zI (l3 + 1))), some (.int (zI (l4 + 1)))] [] T Q) ∧ ((vI T (l0 + 5) l4.toNat) = (-1) → gW (tP sa) lD b E (d + 1) mX3_functionsIn 9 [some (.ref (b + l0)), some (.int (zI l1)), some (.int (zI l2)), some (.int (zI (l3 + 0))), some (.int (zI (l4 + 1)))] [] T Q))))))
set_option maxRecDepth 4000 in
theorem w_X3_functionsIn_9 {sa : Nat → Nat} {b : Nat} {E : Nat × mH} {d : Nat} {l0 : Nat} {l1 : Int} {l2 : Int} {l3 : Int} {l4 : Int} {T : gT} {Q : Option Value → gT → Prop} (hq_l0 : l0 = 2 ∨ l0 = 21) (h : f_X3_functionsIn_9 sa b E d l0 l1 l2 l3 l4 T Q) : gW (tP sa) lD b E (d + 1) mX3_functionsIn 9 [some (.ref (b + l0)), some (.int (zI l1)), some (.int (zI l2)), some (.int (zI l3)), some (.int (zI l4))] [] T Q := by
  unfold f_X3_functionsIn_9 at h
  refine g_iload dX3_functionsIn_9 rfl ?_
  refine g_iload_n dX3_functionsIn_11 rfl ?_
  obtain ⟨a1, h⟩ := h
  obtain ⟨a2, h⟩ := h
  refine g_icmp_geZ dX3_functionsIn_12 rfl a1 a2 (fun c12 => ?_) (fun c12 => ?_)
  · replace h := h.1 c12
    refine g_iload_n dX3_functionsIn_49 rfl ?_
    exact g_iret dX3_functionsIn_50 rfl rfl h
  · replace h := h.2 c12
    refine g_iload dX3_functionsIn_15 rfl ?_
    refine g_aload_n dX3_functionsIn_17 rfl ?_
    refine g_getZ (v := vI T l0 0) dX3_functionsIn_18 tF_3_59 (lP_0 hq_l0) rfl (zI_v _ _ _) ?_
    refine g_icmp_geZ dX3_functionsIn_21 rfl a1 ⟨vI_lo _ _ _, vI_hi _ _ _⟩ (fun c21 => ?_) (fun c21 => ?_)
    · replace h := h.1 c21
      refine g_iload_n dX3_functionsIn_49 rfl ?_
      exact g_iret dX3_functionsIn_50 rfl rfl h
    · replace h := h.2 c21
      refine g_iload_n dX3_functionsIn_24 rfl ?_
      refine g_aload_n dX3_functionsIn_25 rfl ?_
      refine g_getR dX3_functionsIn_26 tF_3_24 (lP_0 hq_l0) rfl ?_
      refine g_iload dX3_functionsIn_29 rfl ?_
      obtain ⟨a3, h⟩ := h
      obtain ⟨a4, h⟩ := h
      refine g_ialdZ (v := vI T (l0 + 5) l4.toNat) dX3_functionsIn_31 (lP_5 hq_l0) a3 a4 (by decide) (zI_v T (l0 + 5) l4.toNat) ?_
      refine g_iconst (v := zI (-1)) dX3_functionsIn_32 (by decide) ?_
      refine g_icmp_neZ dX3_functionsIn_33 rfl ⟨vI_lo _ _ _, vI_hi _ _ _⟩ (by decide) (fun c33 => ?_) (fun c33 => ?_)
      · replace h := h.1 c33
        refine g_iconst (v := zI 1) dX3_functionsIn_40 (by decide) ?_
        refine g_iaddZ dX3_functionsIn_41 ?_
        refine g_istore_n (L' := [some (.ref (b + l0)), some (.int (zI l1)), some (.int (zI l2)), some (.int (zI (l3 + 1))), some (.int (zI l4))]) dX3_functionsIn_42 rfl ?_
        refine g_iinc (x := zI l4) (v := zI (l4 + 1)) (L' := [some (.ref (b + l0)), some (.int (zI l1)), some (.int (zI l2)), some (.int (zI (l3 + 1))), some (.int (zI (l4 + 1)))]) dX3_functionsIn_43 rfl (zI_add _ _) rfl ?_
        refine g_goto dX3_functionsIn_46 rfl ?_
        exact h
      · replace h := h.2 c33
        refine g_iconst (v := zI 0) dX3_functionsIn_36 (by decide) ?_
        refine g_goto dX3_functionsIn_37 rfl ?_
        refine g_iaddZ dX3_functionsIn_41 ?_
        refine g_istore_n (L' := [some (.ref (b + l0)), some (.int (zI l1)), some (.int (zI l2)), some (.int (zI (l3 + 0))), some (.int (zI l4))]) dX3_functionsIn_42 rfl ?_
        refine g_iinc (x := zI l4) (v := zI (l4 + 1)) (L' := [some (.ref (b + l0)), some (.int (zI l1)), some (.int (zI l2)), some (.int (zI (l3 + 0))), some (.int (zI (l4 + 1)))]) dX3_functionsIn_43 rfl (zI_add _ _) rfl ?_
        refine g_goto dX3_functionsIn_46 rfl ?_
        exact h
def f_X4_byteAt (sa : Nat → Nat) (b : Nat) (E : Nat × mH) (d : Nat) (l1 : Int) (T : gT) (Q : Option Value → gT → Prop) : Prop := (-2147483648 ≤ l1 ∧ l1 < 2147483648) ∧ ((l1 < 0 → Q (some (.int (zI (-1)))) T) ∧ (¬ l1 < 0 → (((vI T 40 1) ≤ l1 → Q (some (.int (zI (-1)))) T) ∧ (¬ (vI T 40 1) ≤ l1 → vI T 40 0 = 1 ∧ ((400 ≤ l1 → Q (some (.int (zI (-1)))) T) ∧ (¬ 400 ≤ l1 → vI T 40 0 = 1 ∧ 0 ≤ l1 ∧ l1 < 400 ∧ Q (some (.int (zI ((zI (vI T 1 l1.toNat) &&& zI 255).toInt)))) T))))))
set_option maxRecDepth 4000 in
theorem w_X4_byteAt {sa : Nat → Nat} {b : Nat} {E : Nat × mH} {d : Nat} {l1 : Int} {T : gT} {Q : Option Value → gT → Prop} (h : f_X4_byteAt sa b E d l1 T Q) : gC (tP sa) lD b E d mX4_byteAt [.ref (b + 40), .int (zI l1)] T Q := by
  unfold f_X4_byteAt at h
  refine ⟨Nat.le_of_ble_eq_true rfl, ?_⟩
  show gW (tP sa) lD b E d mX4_byteAt 0 [some (.ref (b + 40)), some (.int (zI l1))] [] T Q
  refine g_iload_n dX4_byteAt_0 rfl ?_
  obtain ⟨a1, h⟩ := h
  refine g_if_ltZ dX4_byteAt_1 rfl a1  (fun c1 => ?_) (fun c1 => ?_)
  · replace h := h.1 c1
    refine g_iconst (v := zI (-1)) dX4_byteAt_34 (by decide) ?_
    exact g_iret dX4_byteAt_35 rfl rfl h
  · replace h := h.2 c1
    refine g_iload_n dX4_byteAt_4 rfl ?_
    refine g_aload_n dX4_byteAt_5 rfl ?_
    refine g_getZ (v := vI T 40 1) dX4_byteAt_6 tF_4_40 lD_40 rfl (zI_v T 40 1) ?_
    refine g_icmp_geZ dX4_byteAt_9 rfl a1 ⟨vI_lo _ _ _, vI_hi _ _ _⟩ (fun c9 => ?_) (fun c9 => ?_)
    · replace h := h.1 c9
      refine g_iconst (v := zI (-1)) dX4_byteAt_34 (by decide) ?_
      exact g_iret dX4_byteAt_35 rfl rfl h
    · replace h := h.2 c9
      refine g_iload_n dX4_byteAt_12 rfl ?_
      refine g_aload_n dX4_byteAt_13 rfl ?_
      obtain ⟨e2, h⟩ := h
      refine g_getVZ (o := 1) dX4_byteAt_14 tF_4_30 lD_40 rfl e2 (by decide) ?_
      refine g_alenZ (z := 400) dX4_byteAt_17 lD_1 rfl ?_
      refine g_icmp_geZ dX4_byteAt_18 rfl a1 (by decide) (fun c18 => ?_) (fun c18 => ?_)
      · replace h := h.1 c18
        refine g_iconst (v := zI (-1)) dX4_byteAt_34 (by decide) ?_
        exact g_iret dX4_byteAt_35 rfl rfl h
      · replace h := h.2 c18
        refine g_aload_n dX4_byteAt_21 rfl ?_
        obtain ⟨e3, h⟩ := h
        refine g_getVZ (o := 1) dX4_byteAt_22 tF_4_30 lD_40 rfl e3 (by decide) ?_
        refine g_iload_n dX4_byteAt_25 rfl ?_
        obtain ⟨a4, h⟩ := h
        obtain ⟨a5, h⟩ := h
        refine g_baldZ (v := vI T 1 l1.toNat) dX4_byteAt_26 lD_1 a4 a5 (by decide) (zI_v T 1 l1.toNat) ?_
        refine g_sipush (v := zI 255) dX4_byteAt_27 (by decide) ?_
        refine g_iandZ dX4_byteAt_30 ?_
        refine g_goto dX4_byteAt_31 rfl ?_
        exact g_iret dX4_byteAt_35 rfl rfl h
def f_X4_takeExpr (sa : Nat → Nat) (b : Nat) (E : Nat × mH) (d : Nat) (T : gT) (Q : Option Value → gT → Prop) : Prop := gC (tP sa) lD b E d mX4_look [.ref (b + 40)] T (fun r T1 => pI r (fun v1 => (∃ r6 : Nat, (r6 = 2 ∨ r6 = 21) ∧ vI T1 40 4 = (r6 : Int) ∧ (((vI T1 r6 0) < 200 → (-2147483648 ≤ v1 ∧ v1 < 2147483648) ∧ ((¬ (zL v1 = true) → (((zD v1 = true) → gC (tP sa) lD b E d mX4_takeNumber [.ref (b + 40)] T1 (fun r T55 => pI r (fun v55 => (v55 = 0 ∨ v55 = 1) ∧ Q (some (.int (zI v55))) T55))) ∧ (¬ (zD v1 = true) → ((¬ v1 = 45 → ((¬ v1 = 92 → ((¬ v1 = 40 → gC (tP sa) lD b E d mX4_fail [.ref (b + 40), .int (zI (vI T1 40 2))] T1 (fun r T90 => pV r (Q (some (.int (zI 0))) T90))) ∧ (v1 = 40 → gC (tP sa) lD b E d mX4_takeForm [.ref (b + 40)] T1 (fun r T79 => pV r (Q (some (.int (zI 0))) T79))))) ∧ (v1 = 92 → gC (tP sa) lD b E d mX4_takeLambda [.ref (b + 40)] T1 (fun r T66 => pV r (Q (some (.int (zI 0))) T66))))) ∧ (v1 = 45 → gC (tP sa) lD b E d mX4_takeNumber [.ref (b + 40)] T1 (fun r T55 => pI r (fun v55 => (v55 = 0 ∨ v55 = 1) ∧ Q (some (.int (zI v55))) T55))))))) ∧ ((zL v1 = true) → gC (tP sa) lD b E d mX4_takeMeaning [.ref (b + 40)] T1 (fun r T37 => pI r (fun v37 => (v37 = 0 ∨ v37 = 1) ∧ Q (some (.int (zI v37))) T37))))) ∧ (¬ (vI T1 r6 0) < 200 → gC (tP sa) lD b E d mX4_fail [.ref (b + 40), .int (zI (vI T1 40 2))] T1 (fun r T23 => pV r (Q (some (.int (zI 0))) T23)))))))
set_option maxRecDepth 4000 in
theorem w_X4_takeExpr {sa : Nat → Nat} {b : Nat} {E : Nat × mH} {d : Nat} {T : gT} {Q : Option Value → gT → Prop} (h : f_X4_takeExpr sa b E d T Q) : gC (tP sa) lD b E (d + 1) mX4_takeExpr [.ref (b + 40)] T Q := by
  unfold f_X4_takeExpr at h
  refine ⟨Nat.le_of_ble_eq_true rfl, ?_⟩
  show gW (tP sa) lD b E (d + 1) mX4_takeExpr 0 [some (.ref (b + 40)), none] [] T Q
  refine g_aload_n dX4_takeExpr_0 rfl ?_
  refine g_callV [.ref (b + 40)] [] dX4_takeExpr_1 tG_4_78 tM_48 lD_40 rfl rfl rfl rfl (by decide) rfl ?_
  refine gC.mono h (Nat.le_refl _) ?_
  rintro _ T1 ⟨v1, rfl, h⟩
  refine g_istore_n (L' := [some (.ref (b + 40)), some (.int (zI v1))]) dX4_takeExpr_4 rfl ?_
  refine g_aload_n dX4_takeExpr_5 rfl ?_
  obtain ⟨r6, hq_r6, e_r6, h⟩ := h
  refine g_getVZ (o := r6) dX4_takeExpr_6 tF_4_50 lD_40 rfl e_r6 (q_lt hq_r6) ?_
  refine g_getZ (v := vI T1 r6 0) dX4_takeExpr_9 tF_4_54 (lP_0 hq_r6) rfl (zI_v _ _ _) ?_
  refine g_sipush (v := zI 200) dX4_takeExpr_12 (by decide) ?_
  refine g_icmp_ltZ dX4_takeExpr_15 rfl ⟨vI_lo _ _ _, vI_hi _ _ _⟩ (by decide) (fun c15 => ?_) (fun c15 => ?_)
  · replace h := h.1 c15
    refine g_iload_n dX4_takeExpr_29 rfl ?_
    obtain ⟨a1, h⟩ := h
    refine g_callS [.int (zI v1)] [] dX4_takeExpr_30 tG_4_90 tM_49 rfl rfl rfl rfl (by decide) ?_
    refine gC.mono (c4_zL sa b E _ _ a1) (Nat.le_refl _) ?_
    rintro _ _ ⟨rfl, h9⟩
    obtain rfl := h9.symm
    refine g_if_eqB dX4_takeExpr_33 rfl (fun c33 => ?_) (fun c33 => ?_)
    · replace h := h.1 c33
      refine g_iload_n dX4_takeExpr_41 rfl ?_
      refine g_callS [.int (zI v1)] [] dX4_takeExpr_42 tG_4_97 tM_50 rfl rfl rfl rfl (by decide) ?_
      refine gC.mono (c4_zD sa b E _ _ a1) (Nat.le_refl _) ?_
      rintro _ _ ⟨rfl, h9⟩
      obtain rfl := h9.symm
      refine g_if_neB dX4_takeExpr_45 rfl (fun c45 => ?_) (fun c45 => ?_)
      · replace h := h.1 c45
        refine g_aload_n dX4_takeExpr_54 rfl ?_
        refine g_callV [.ref (b + 40)] [] dX4_takeExpr_55 tG_4_100 tM_54 lD_40 rfl rfl rfl rfl (by decide) rfl ?_
        refine gC.mono h (Nat.le_refl _) ?_
        rintro _ T55 ⟨v55, rfl, h⟩
        obtain ⟨a2, h⟩ := h
        exact g_iret dX4_takeExpr_58 rfl (fit_z a2).1 h
      · replace h := h.2 c45
        refine g_iload_n dX4_takeExpr_48 rfl ?_
        refine g_bipush (v := zI 45) dX4_takeExpr_49 (by decide) ?_
        refine g_icmp_neZ dX4_takeExpr_51 rfl a1 (by decide) (fun c51 => ?_) (fun c51 => ?_)
        · replace h := h.1 c51
          refine g_iload_n dX4_takeExpr_59 rfl ?_
          refine g_bipush (v := zI 92) dX4_takeExpr_60 (by decide) ?_
          refine g_icmp_neZ dX4_takeExpr_62 rfl a1 (by decide) (fun c62 => ?_) (fun c62 => ?_)
          · replace h := h.1 c62
            refine g_iload_n dX4_takeExpr_72 rfl ?_
            refine g_bipush (v := zI 40) dX4_takeExpr_73 (by decide) ?_
            refine g_icmp_neZ dX4_takeExpr_75 rfl a1 (by decide) (fun c75 => ?_) (fun c75 => ?_)
            · replace h := h.1 c75
              refine g_aload_n dX4_takeExpr_85 rfl ?_
              refine g_aload_n dX4_takeExpr_86 rfl ?_
              refine g_getZ (v := vI T1 40 2) dX4_takeExpr_87 tF_4_44 lD_40 rfl (zI_v T1 40 2) ?_
              refine g_callV [.ref (b + 40), .int (zI (vI T1 40 2))] [] dX4_takeExpr_90 tG_4_82 tM_46 lD_40 rfl rfl rfl rfl (by decide) rfl ?_
              refine gC.mono h (Nat.le_refl _) ?_
              rintro _ T90 ⟨rfl, h⟩
              refine g_iconst (v := zI 0) dX4_takeExpr_93 (by decide) ?_
              exact g_iret dX4_takeExpr_94 rfl rfl h
            · replace h := h.2 c75
              refine g_aload_n dX4_takeExpr_78 rfl ?_
              refine g_callV [.ref (b + 40)] [] dX4_takeExpr_79 tG_4_106 tM_56 lD_40 rfl rfl rfl rfl (by decide) rfl ?_
              refine gC.mono h (Nat.le_refl _) ?_
              rintro _ T79 ⟨rfl, h⟩
              refine g_goto dX4_takeExpr_82 rfl ?_
              refine g_iconst (v := zI 0) dX4_takeExpr_93 (by decide) ?_
              exact g_iret dX4_takeExpr_94 rfl rfl h
          · replace h := h.2 c62
            refine g_aload_n dX4_takeExpr_65 rfl ?_
            refine g_callV [.ref (b + 40)] [] dX4_takeExpr_66 tG_4_103 tM_55 lD_40 rfl rfl rfl rfl (by decide) rfl ?_
            refine gC.mono h (Nat.le_refl _) ?_
            rintro _ T66 ⟨rfl, h⟩
            refine g_goto dX4_takeExpr_69 rfl ?_
            refine g_iconst (v := zI 0) dX4_takeExpr_93 (by decide) ?_
            exact g_iret dX4_takeExpr_94 rfl rfl h
        · replace h := h.2 c51
          refine g_aload_n dX4_takeExpr_54 rfl ?_
          refine g_callV [.ref (b + 40)] [] dX4_takeExpr_55 tG_4_100 tM_54 lD_40 rfl rfl rfl rfl (by decide) rfl ?_
          refine gC.mono h (Nat.le_refl _) ?_
          rintro _ T55 ⟨v55, rfl, h⟩
          obtain ⟨a3, h⟩ := h
          exact g_iret dX4_takeExpr_58 rfl (fit_z a3).1 h
    · replace h := h.2 c33
      refine g_aload_n dX4_takeExpr_36 rfl ?_
      refine g_callV [.ref (b + 40)] [] dX4_takeExpr_37 tG_4_94 tM_52 lD_40 rfl rfl rfl rfl (by decide) rfl ?_
      refine gC.mono h (Nat.le_refl _) ?_
      rintro _ T37 ⟨v37, rfl, h⟩
      obtain ⟨a4, h⟩ := h
      exact g_iret dX4_takeExpr_40 rfl (fit_z a4).1 h
  · replace h := h.2 c15
    refine g_aload_n dX4_takeExpr_18 rfl ?_
    refine g_aload_n dX4_takeExpr_19 rfl ?_
    refine g_getZ (v := vI T1 40 2) dX4_takeExpr_20 tF_4_44 lD_40 rfl (zI_v T1 40 2) ?_
    refine g_callV [.ref (b + 40), .int (zI (vI T1 40 2))] [] dX4_takeExpr_23 tG_4_82 tM_46 lD_40 rfl rfl rfl rfl (by decide) rfl ?_
    refine gC.mono h (Nat.le_refl _) ?_
    rintro _ T23 ⟨rfl, h⟩
    refine g_goto dX4_takeExpr_26 rfl ?_
    refine g_iconst (v := zI 0) dX4_takeExpr_93 (by decide) ?_
    exact g_iret dX4_takeExpr_94 rfl rfl h
def f_X4_takeNumber (sa : Nat → Nat) (b : Nat) (E : Nat × mH) (d : Nat) (T : gT) (Q : Option Value → gT → Prop) : Prop := gC (tP sa) lD b E d mX4_byteAt [.ref (b + 40), .int (zI (vI T 40 2))] T (fun r T5 => pI r (fun v5 => (-2147483648 ≤ v5 ∧ v5 < 2147483648) ∧ ((¬ v5 = 45 → gW (tP sa) lD b E (d + 1) mX4_takeNumber 18 [some (.ref (b + 40)), none, none, none] [.int (zI 0)] T5 Q) ∧ (v5 = 45 → gW (tP sa) lD b E (d + 1) mX4_takeNumber 18 [some (.ref (b + 40)), none, none, none] [.int (zI 1)] T5 Q))))
set_option maxRecDepth 4000 in
theorem w_X4_takeNumber {sa : Nat → Nat} {b : Nat} {E : Nat × mH} {d : Nat} {T : gT} {Q : Option Value → gT → Prop} (h : f_X4_takeNumber sa b E d T Q) : gC (tP sa) lD b E (d + 1) mX4_takeNumber [.ref (b + 40)] T Q := by
  unfold f_X4_takeNumber at h
  refine ⟨Nat.le_of_ble_eq_true rfl, ?_⟩
  show gW (tP sa) lD b E (d + 1) mX4_takeNumber 0 [some (.ref (b + 40)), none, none, none] [] T Q
  refine g_aload_n dX4_takeNumber_0 rfl ?_
  refine g_aload_n dX4_takeNumber_1 rfl ?_
  refine g_getZ (v := vI T 40 2) dX4_takeNumber_2 tF_4_44 lD_40 rfl (zI_v T 40 2) ?_
  refine g_callV [.ref (b + 40), .int (zI (vI T 40 2))] [] dX4_takeNumber_5 tG_4_86 tM_47 lD_40 rfl rfl rfl rfl (by decide) rfl ?_
  refine gC.mono h (Nat.le_refl _) ?_
  rintro _ T5 ⟨v5, rfl, h⟩
  refine g_bipush (v := zI 45) dX4_takeNumber_8 (by decide) ?_
  obtain ⟨a1, h⟩ := h
  refine g_icmp_neZ dX4_takeNumber_10 rfl a1 (by decide) (fun c10 => ?_) (fun c10 => ?_)
  · replace h := h.1 c10
    refine g_iconst (v := zI 0) dX4_takeNumber_17 (by decide) ?_
    exact h
  · replace h := h.2 c10
    refine g_iconst (v := zI 1) dX4_takeNumber_13 (by decide) ?_
    refine g_goto dX4_takeNumber_14 rfl ?_
    exact h
def f_X4_takeNumber_18 (sa : Nat → Nat) (b : Nat) (E : Nat × mH) (d : Nat) (s0 : Int) (T : gT) (Q : Option Value → gT → Prop) : Prop := (-2147483648 ≤ s0 ∧ s0 < 2147483648) ∧ ((s0 = 0 → gW (tP sa) lD b E (d + 1) mX4_takeNumber 44 [some (.ref (b + 40)), some (.int (zI s0)), some (.int (zI ((vI T 40 2) + 0))), some (.int (zI 0))] [] (gI T 40 2 (zI ((vI T 40 2) + 0))) Q) ∧ (¬ s0 = 0 → gW (tP sa) lD b E (d + 1) mX4_takeNumber 44 [some (.ref (b + 40)), some (.int (zI s0)), some (.int (zI ((vI T 40 2) + 1))), some (.int (zI 0))] [] (gI T 40 2 (zI ((vI T 40 2) + 1))) Q))
set_option maxRecDepth 4000 in
theorem w_X4_takeNumber_18 {sa : Nat → Nat} {b : Nat} {E : Nat × mH} {d : Nat} {s0 : Int} {T : gT} {Q : Option Value → gT → Prop} (h : f_X4_takeNumber_18 sa b E d s0 T Q) : gW (tP sa) lD b E (d + 1) mX4_takeNumber 18 [some (.ref (b + 40)), none, none, none] [.int (zI s0)] T Q := by
  unfold f_X4_takeNumber_18 at h
  refine g_istore_n (L' := [some (.ref (b + 40)), some (.int (zI s0)), none, none]) dX4_takeNumber_18 rfl ?_
  refine g_aload_n dX4_takeNumber_19 rfl ?_
  refine g_dup dX4_takeNumber_20 rfl ?_
  refine g_getZ (v := vI T 40 2) dX4_takeNumber_21 tF_4_44 lD_40 rfl (zI_v T 40 2) ?_
  refine g_iload_n dX4_takeNumber_24 rfl ?_
  obtain ⟨a1, h⟩ := h
  refine g_if_eqZ dX4_takeNumber_25 rfl a1  (fun c25 => ?_) (fun c25 => ?_)
  · replace h := h.1 c25
    refine g_iconst (v := zI 0) dX4_takeNumber_32 (by decide) ?_
    refine g_iaddZ dX4_takeNumber_33 ?_
    refine g_putI dX4_takeNumber_34 tF_4_44 lD_40 rfl rfl ⟨rfl, rfl⟩ rfl ?_
    refine g_aload_n dX4_takeNumber_37 rfl ?_
    refine g_getZ (v := (vI T 40 2) + 0) dX4_takeNumber_38 tF_4_44 lD_40 rfl rfl ?_
    refine g_istore_n (L' := [some (.ref (b + 40)), some (.int (zI s0)), some (.int (zI ((vI T 40 2) + 0))), none]) dX4_takeNumber_41 rfl ?_
    refine g_iconst (v := zI 0) dX4_takeNumber_42 (by decide) ?_
    refine g_istore_n (L' := [some (.ref (b + 40)), some (.int (zI s0)), some (.int (zI ((vI T 40 2) + 0))), some (.int (zI 0))]) dX4_takeNumber_43 rfl ?_
    exact h
  · replace h := h.2 c25
    refine g_iconst (v := zI 1) dX4_takeNumber_28 (by decide) ?_
    refine g_goto dX4_takeNumber_29 rfl ?_
    refine g_iaddZ dX4_takeNumber_33 ?_
    refine g_putI dX4_takeNumber_34 tF_4_44 lD_40 rfl rfl ⟨rfl, rfl⟩ rfl ?_
    refine g_aload_n dX4_takeNumber_37 rfl ?_
    refine g_getZ (v := (vI T 40 2) + 1) dX4_takeNumber_38 tF_4_44 lD_40 rfl rfl ?_
    refine g_istore_n (L' := [some (.ref (b + 40)), some (.int (zI s0)), some (.int (zI ((vI T 40 2) + 1))), none]) dX4_takeNumber_41 rfl ?_
    refine g_iconst (v := zI 0) dX4_takeNumber_42 (by decide) ?_
    refine g_istore_n (L' := [some (.ref (b + 40)), some (.int (zI s0)), some (.int (zI ((vI T 40 2) + 1))), some (.int (zI 0))]) dX4_takeNumber_43 rfl ?_
    exact h
def f_X4_takeNumber_44 (sa : Nat → Nat) (b : Nat) (E : Nat × mH) (d : Nat) (l1 : Int) (l2 : Int) (l3 : Int) (T : gT) (Q : Option Value → gT → Prop) : Prop := (-2147483648 ≤ (vI T 40 2) - l2 ∧ (vI T 40 2) - l2 < 2147483648) ∧ ((6 ≤ ((vI T 40 2) - l2) → gW (tP sa) lD b E (d + 1) mX4_takeNumber 99 [some (.ref (b + 40)), some (.int (zI l1)), some (.int (zI l2)), some (.int (zI l3))] [] T Q) ∧ (¬ 6 ≤ ((vI T 40 2) - l2) → gC (tP sa) lD b E d mX4_byteAt [.ref (b + 40), .int (zI (vI T 40 2))] T (fun r T60 => pI r (fun v60 => (-2147483648 ≤ v60 ∧ v60 < 2147483648) ∧ ((¬ (zD v60 = true) → gW (tP sa) lD b E (d + 1) mX4_takeNumber 99 [some (.ref (b + 40)), some (.int (zI l1)), some (.int (zI l2)), some (.int (zI l3))] [] T60 Q) ∧ ((zD v60 = true) → gC (tP sa) lD b E d mX4_byteAt [.ref (b + 40), .int (zI (vI T60 40 2))] T60 (fun r T78 => pI r (fun v78 => gW (tP sa) lD b E (d + 1) mX4_takeNumber 44 [some (.ref (b + 40)), some (.int (zI l1)), some (.int (zI l2)), some (.int (zI (((l3 * 10) + v78) - 48)))] [] (gI T78 40 2 (zI ((vI T78 40 2) + 1))) Q))))))))
set_option maxRecDepth 4000 in
theorem w_X4_takeNumber_44 {sa : Nat → Nat} {b : Nat} {E : Nat × mH} {d : Nat} {l1 : Int} {l2 : Int} {l3 : Int} {T : gT} {Q : Option Value → gT → Prop} (h : f_X4_takeNumber_44 sa b E d l1 l2 l3 T Q) : gW (tP sa) lD b E (d + 1) mX4_takeNumber 44 [some (.ref (b + 40)), some (.int (zI l1)), some (.int (zI l2)), some (.int (zI l3))] [] T Q := by
  unfold f_X4_takeNumber_44 at h
  refine g_aload_n dX4_takeNumber_44 rfl ?_
  refine g_getZ (v := vI T 40 2) dX4_takeNumber_45 tF_4_44 lD_40 rfl (zI_v T 40 2) ?_
  refine g_iload_n dX4_takeNumber_48 rfl ?_
  refine g_isubZ dX4_takeNumber_49 ?_
  refine g_bipush (v := zI 6) dX4_takeNumber_50 (by decide) ?_
  obtain ⟨a1, h⟩ := h
  refine g_icmp_geZ dX4_takeNumber_52 rfl a1 (by decide) (fun c52 => ?_) (fun c52 => ?_)
  · replace h := h.1 c52
    exact h
  · replace h := h.2 c52
    refine g_aload_n dX4_takeNumber_55 rfl ?_
    refine g_aload_n dX4_takeNumber_56 rfl ?_
    refine g_getZ (v := vI T 40 2) dX4_takeNumber_57 tF_4_44 lD_40 rfl (zI_v T 40 2) ?_
    refine g_callV [.ref (b + 40), .int (zI (vI T 40 2))] [] dX4_takeNumber_60 tG_4_86 tM_47 lD_40 rfl rfl rfl rfl (by decide) rfl ?_
    refine gC.mono h (Nat.le_refl _) ?_
    rintro _ T60 ⟨v60, rfl, h⟩
    obtain ⟨a2, h⟩ := h
    refine g_callS [.int (zI v60)] [] dX4_takeNumber_63 tG_4_97 tM_50 rfl rfl rfl rfl (by decide) ?_
    refine gC.mono (c4_zD sa b E _ _ a2) (Nat.le_refl _) ?_
    rintro _ _ ⟨rfl, h9⟩
    obtain rfl := h9.symm
    refine g_if_eqB dX4_takeNumber_66 rfl (fun c66 => ?_) (fun c66 => ?_)
    · replace h := h.1 c66
      exact h
    · replace h := h.2 c66
      refine g_iload_n dX4_takeNumber_69 rfl ?_
      refine g_bipush (v := zI 10) dX4_takeNumber_70 (by decide) ?_
      refine g_imulZ dX4_takeNumber_72 ?_
      refine g_aload_n dX4_takeNumber_73 rfl ?_
      refine g_aload_n dX4_takeNumber_74 rfl ?_
      refine g_getZ (v := vI T60 40 2) dX4_takeNumber_75 tF_4_44 lD_40 rfl (zI_v T60 40 2) ?_
      refine g_callV [.ref (b + 40), .int (zI (vI T60 40 2))] [.int (zI (l3 * 10))] dX4_takeNumber_78 tG_4_86 tM_47 lD_40 rfl rfl rfl rfl (by decide) rfl ?_
      refine gC.mono h (Nat.le_refl _) ?_
      rintro _ T78 ⟨v78, rfl, h⟩
      refine g_iaddZ dX4_takeNumber_81 ?_
      refine g_bipush (v := zI 48) dX4_takeNumber_82 (by decide) ?_
      refine g_isubZ dX4_takeNumber_84 ?_
      refine g_istore_n (L' := [some (.ref (b + 40)), some (.int (zI l1)), some (.int (zI l2)), some (.int (zI (((l3 * 10) + v78) - 48)))]) dX4_takeNumber_85 rfl ?_
      refine g_aload_n dX4_takeNumber_86 rfl ?_
      refine g_dup dX4_takeNumber_87 rfl ?_
      refine g_getZ (v := vI T78 40 2) dX4_takeNumber_88 tF_4_44 lD_40 rfl (zI_v T78 40 2) ?_
      refine g_iconst (v := zI 1) dX4_takeNumber_91 (by decide) ?_
      refine g_iaddZ dX4_takeNumber_92 ?_
      refine g_putI dX4_takeNumber_93 tF_4_44 lD_40 rfl rfl ⟨rfl, rfl⟩ rfl ?_
      refine g_goto dX4_takeNumber_96 rfl ?_
      exact h
def f_X4_takeNumber_99 (sa : Nat → Nat) (b : Nat) (E : Nat × mH) (d : Nat) (l1 : Int) (l2 : Int) (l3 : Int) (T : gT) (Q : Option Value → gT → Prop) : Prop := (-2147483648 ≤ l2 ∧ l2 < 2147483648) ∧ (((vI T 40 2) = l2 → gC (tP sa) lD b E d mX4_fail [.ref (b + 40), .int (zI (vI T 40 2))] T (fun r T126 => pV r (Q (some (.int (zI 0))) T126))) ∧ (¬ (vI T 40 2) = l2 → gC (tP sa) lD b E d mX4_byteAt [.ref (b + 40), .int (zI (vI T 40 2))] T (fun r T112 => pI r (fun v112 => (-2147483648 ≤ v112 ∧ v112 < 2147483648) ∧ ((¬ (zD v112 = true) → (∃ r132 : Nat, (r132 = 2 ∨ r132 = 21) ∧ vI T112 40 4 = (r132 : Int) ∧ (-2147483648 ≤ l1 ∧ l1 < 2147483648) ∧ ((l1 = 0 → gC (tP sa) lD b E d mX3_add [.ref (b + r132), .int (zI 1), .int (zI l3), .int (zI (-1))] T112 (fun r T147 => pI r (fun v147 => Q (some (.int (zI 1))) T147))) ∧ (¬ l1 = 0 → gC (tP sa) lD b E d mX3_add [.ref (b + r132), .int (zI 1), .int (zI (-l3)), .int (zI (-1))] T112 (fun r T147 => pI r (fun v147 => Q (some (.int (zI 1))) T147)))))) ∧ ((zD v112 = true) → gC (tP sa) lD b E d mX4_fail [.ref (b + 40), .int (zI (vI T112 40 2))] T112 (fun r T126 => pV r (Q (some (.int (zI 0))) T126))))))))
set_option maxRecDepth 4000 in
theorem w_X4_takeNumber_99 {sa : Nat → Nat} {b : Nat} {E : Nat × mH} {d : Nat} {l1 : Int} {l2 : Int} {l3 : Int} {T : gT} {Q : Option Value → gT → Prop} (h : f_X4_takeNumber_99 sa b E d l1 l2 l3 T Q) : gW (tP sa) lD b E (d + 1) mX4_takeNumber 99 [some (.ref (b + 40)), some (.int (zI l1)), some (.int (zI l2)), some (.int (zI l3))] [] T Q := by
  unfold f_X4_takeNumber_99 at h
  refine g_aload_n dX4_takeNumber_99 rfl ?_
  refine g_getZ (v := vI T 40 2) dX4_takeNumber_100 tF_4_44 lD_40 rfl (zI_v T 40 2) ?_
  refine g_iload_n dX4_takeNumber_103 rfl ?_
  obtain ⟨a1, h⟩ := h
  refine g_icmp_eqZ dX4_takeNumber_104 rfl ⟨vI_lo _ _ _, vI_hi _ _ _⟩ a1 (fun c104 => ?_) (fun c104 => ?_)
  · replace h := h.1 c104
    refine g_aload_n dX4_takeNumber_121 rfl ?_
    refine g_aload_n dX4_takeNumber_122 rfl ?_
    refine g_getZ (v := vI T 40 2) dX4_takeNumber_123 tF_4_44 lD_40 rfl (zI_v T 40 2) ?_
    refine g_callV [.ref (b + 40), .int (zI (vI T 40 2))] [] dX4_takeNumber_126 tG_4_82 tM_46 lD_40 rfl rfl rfl rfl (by decide) rfl ?_
    refine gC.mono h (Nat.le_refl _) ?_
    rintro _ T126 ⟨rfl, h⟩
    refine g_iconst (v := zI 0) dX4_takeNumber_129 (by decide) ?_
    exact g_iret dX4_takeNumber_130 rfl rfl h
  · replace h := h.2 c104
    refine g_aload_n dX4_takeNumber_107 rfl ?_
    refine g_aload_n dX4_takeNumber_108 rfl ?_
    refine g_getZ (v := vI T 40 2) dX4_takeNumber_109 tF_4_44 lD_40 rfl (zI_v T 40 2) ?_
    refine g_callV [.ref (b + 40), .int (zI (vI T 40 2))] [] dX4_takeNumber_112 tG_4_86 tM_47 lD_40 rfl rfl rfl rfl (by decide) rfl ?_
    refine gC.mono h (Nat.le_refl _) ?_
    rintro _ T112 ⟨v112, rfl, h⟩
    obtain ⟨a2, h⟩ := h
    refine g_callS [.int (zI v112)] [] dX4_takeNumber_115 tG_4_97 tM_50 rfl rfl rfl rfl (by decide) ?_
    refine gC.mono (c4_zD sa b E _ _ a2) (Nat.le_refl _) ?_
    rintro _ _ ⟨rfl, h9⟩
    obtain rfl := h9.symm
    refine g_if_eqB dX4_takeNumber_118 rfl (fun c118 => ?_) (fun c118 => ?_)
    · replace h := h.1 c118
      refine g_aload_n dX4_takeNumber_131 rfl ?_
      obtain ⟨r132, hq_r132, e_r132, h⟩ := h
      refine g_getVZ (o := r132) dX4_takeNumber_132 tF_4_50 lD_40 rfl e_r132 (q_lt hq_r132) ?_
      refine g_iconst (v := zI 1) dX4_takeNumber_135 (by decide) ?_
      refine g_iload_n dX4_takeNumber_136 rfl ?_
      obtain ⟨a3, h⟩ := h
      refine g_if_eqZ dX4_takeNumber_137 rfl a3  (fun c137 => ?_) (fun c137 => ?_)
      · replace h := h.1 c137
        refine g_iload_n dX4_takeNumber_145 rfl ?_
        refine g_iconst (v := zI (-1)) dX4_takeNumber_146 (by decide) ?_
        refine g_callV [.ref (b + r132), .int (zI 1), .int (zI l3), .int (zI (-1))] [] dX4_takeNumber_147 tG_4_115 tM_29 (lP_0 hq_r132) rfl rfl rfl rfl (by decide) rfl ?_
        refine gC.mono h (Nat.le_refl _) ?_
        rintro _ T147 ⟨v147, rfl, h⟩
        refine g_pop dX4_takeNumber_150 rfl ?_
        refine g_iconst (v := zI 1) dX4_takeNumber_151 (by decide) ?_
        exact g_iret dX4_takeNumber_152 rfl rfl h
      · replace h := h.2 c137
        refine g_iload_n dX4_takeNumber_140 rfl ?_
        refine g_inegZ dX4_takeNumber_141 ?_
        refine g_goto dX4_takeNumber_142 rfl ?_
        refine g_iconst (v := zI (-1)) dX4_takeNumber_146 (by decide) ?_
        refine g_callV [.ref (b + r132), .int (zI 1), .int (zI (-l3)), .int (zI (-1))] [] dX4_takeNumber_147 tG_4_115 tM_29 (lP_0 hq_r132) rfl rfl rfl rfl (by decide) rfl ?_
        refine gC.mono h (Nat.le_refl _) ?_
        rintro _ T147 ⟨v147, rfl, h⟩
        refine g_pop dX4_takeNumber_150 rfl ?_
        refine g_iconst (v := zI 1) dX4_takeNumber_151 (by decide) ?_
        exact g_iret dX4_takeNumber_152 rfl rfl h
    · replace h := h.2 c118
      refine g_aload_n dX4_takeNumber_121 rfl ?_
      refine g_aload_n dX4_takeNumber_122 rfl ?_
      refine g_getZ (v := vI T112 40 2) dX4_takeNumber_123 tF_4_44 lD_40 rfl (zI_v T112 40 2) ?_
      refine g_callV [.ref (b + 40), .int (zI (vI T112 40 2))] [] dX4_takeNumber_126 tG_4_82 tM_46 lD_40 rfl rfl rfl rfl (by decide) rfl ?_
      refine gC.mono h (Nat.le_refl _) ?_
      rintro _ T126 ⟨rfl, h⟩
      refine g_iconst (v := zI 0) dX4_takeNumber_129 (by decide) ?_
      exact g_iret dX4_takeNumber_130 rfl rfl h
def f_X4_takeName (sa : Nat → Nat) (b : Nat) (E : Nat × mH) (d : Nat) (T : gT) (Q : Option Value → gT → Prop) : Prop := gC (tP sa) lD b E d mX4_look [.ref (b + 40)] T (fun r T1 => pI r (fun v1 => gC (tP sa) lD b E d mX4_wordEnd [.ref (b + 40)] T1 (fun r T6 => pI r (fun v6 => (-2147483648 ≤ v6 ∧ v6 < 2147483648) ∧ ((v6 = (vI T6 40 2) → gC (tP sa) lD b E d mX4_fail [.ref (b + 40), .int (zI (vI T6 40 2))] T6 (fun r T33 => pV r (Q (some (.int (zI (-1)))) T33))) ∧ (¬ v6 = (vI T6 40 2) → (-2147483648 ≤ v6 - (vI T6 40 2) ∧ v6 - (vI T6 40 2) < 2147483648) ∧ (((v6 - (vI T6 40 2)) ≤ 4 → gC (tP sa) lD b E d mX4_byteAt [.ref (b + 40), .int (zI (vI T6 40 2))] T6 (fun r T43 => pI r (fun v43 => gW (tP sa) lD b E (d + 1) mX4_takeName 54 [some (.ref (b + 40)), some (.int (zI v6)), some (.int (zI v43)), some (.int (zI ((vI T43 40 2) + 1)))] [] T43 Q))) ∧ (¬ (v6 - (vI T6 40 2)) ≤ 4 → gC (tP sa) lD b E d mX4_fail [.ref (b + 40), .int (zI (vI T6 40 2))] T6 (fun r T33 => pV r (Q (some (.int (zI (-1)))) T33))))))))))
set_option maxRecDepth 4000 in
theorem w_X4_takeName {sa : Nat → Nat} {b : Nat} {E : Nat × mH} {d : Nat} {T : gT} {Q : Option Value → gT → Prop} (h : f_X4_takeName sa b E d T Q) : gC (tP sa) lD b E (d + 1) mX4_takeName [.ref (b + 40)] T Q := by
  unfold f_X4_takeName at h
  refine ⟨Nat.le_of_ble_eq_true rfl, ?_⟩
  show gW (tP sa) lD b E (d + 1) mX4_takeName 0 [some (.ref (b + 40)), none, none, none] [] T Q
  refine g_aload_n dX4_takeName_0 rfl ?_
  refine g_callV [.ref (b + 40)] [] dX4_takeName_1 tG_4_78 tM_48 lD_40 rfl rfl rfl rfl (by decide) rfl ?_
  refine gC.mono h (Nat.le_refl _) ?_
  rintro _ T1 ⟨v1, rfl, h⟩
  refine g_pop dX4_takeName_4 rfl ?_
  refine g_aload_n dX4_takeName_5 rfl ?_
  refine g_callV [.ref (b + 40)] [] dX4_takeName_6 tG_4_144 tM_60 lD_40 rfl rfl rfl rfl (by decide) rfl ?_
  refine gC.mono h (Nat.le_refl _) ?_
  rintro _ T6 ⟨v6, rfl, h⟩
  refine g_istore_n (L' := [some (.ref (b + 40)), some (.int (zI v6)), none, none]) dX4_takeName_9 rfl ?_
  refine g_iload_n dX4_takeName_10 rfl ?_
  refine g_aload_n dX4_takeName_11 rfl ?_
  refine g_getZ (v := vI T6 40 2) dX4_takeName_12 tF_4_44 lD_40 rfl (zI_v T6 40 2) ?_
  obtain ⟨a1, h⟩ := h
  refine g_icmp_eqZ dX4_takeName_15 rfl a1 ⟨vI_lo _ _ _, vI_hi _ _ _⟩ (fun c15 => ?_) (fun c15 => ?_)
  · replace h := h.1 c15
    refine g_aload_n dX4_takeName_28 rfl ?_
    refine g_aload_n dX4_takeName_29 rfl ?_
    refine g_getZ (v := vI T6 40 2) dX4_takeName_30 tF_4_44 lD_40 rfl (zI_v T6 40 2) ?_
    refine g_callV [.ref (b + 40), .int (zI (vI T6 40 2))] [] dX4_takeName_33 tG_4_82 tM_46 lD_40 rfl rfl rfl rfl (by decide) rfl ?_
    refine gC.mono h (Nat.le_refl _) ?_
    rintro _ T33 ⟨rfl, h⟩
    refine g_iconst (v := zI (-1)) dX4_takeName_36 (by decide) ?_
    exact g_iret dX4_takeName_37 rfl rfl h
  · replace h := h.2 c15
    refine g_iload_n dX4_takeName_18 rfl ?_
    refine g_aload_n dX4_takeName_19 rfl ?_
    refine g_getZ (v := vI T6 40 2) dX4_takeName_20 tF_4_44 lD_40 rfl (zI_v T6 40 2) ?_
    refine g_isubZ dX4_takeName_23 ?_
    refine g_iconst (v := zI 4) dX4_takeName_24 (by decide) ?_
    obtain ⟨a2, h⟩ := h
    refine g_icmp_leZ dX4_takeName_25 rfl a2 (by decide) (fun c25 => ?_) (fun c25 => ?_)
    · replace h := h.1 c25
      refine g_aload_n dX4_takeName_38 rfl ?_
      refine g_aload_n dX4_takeName_39 rfl ?_
      refine g_getZ (v := vI T6 40 2) dX4_takeName_40 tF_4_44 lD_40 rfl (zI_v T6 40 2) ?_
      refine g_callV [.ref (b + 40), .int (zI (vI T6 40 2))] [] dX4_takeName_43 tG_4_86 tM_47 lD_40 rfl rfl rfl rfl (by decide) rfl ?_
      refine gC.mono h (Nat.le_refl _) ?_
      rintro _ T43 ⟨v43, rfl, h⟩
      refine g_istore_n (L' := [some (.ref (b + 40)), some (.int (zI v6)), some (.int (zI v43)), none]) dX4_takeName_46 rfl ?_
      refine g_aload_n dX4_takeName_47 rfl ?_
      refine g_getZ (v := vI T43 40 2) dX4_takeName_48 tF_4_44 lD_40 rfl (zI_v T43 40 2) ?_
      refine g_iconst (v := zI 1) dX4_takeName_51 (by decide) ?_
      refine g_iaddZ dX4_takeName_52 ?_
      refine g_istore_n (L' := [some (.ref (b + 40)), some (.int (zI v6)), some (.int (zI v43)), some (.int (zI ((vI T43 40 2) + 1)))]) dX4_takeName_53 rfl ?_
      exact h
    · replace h := h.2 c25
      refine g_aload_n dX4_takeName_28 rfl ?_
      refine g_aload_n dX4_takeName_29 rfl ?_
      refine g_getZ (v := vI T6 40 2) dX4_takeName_30 tF_4_44 lD_40 rfl (zI_v T6 40 2) ?_
      refine g_callV [.ref (b + 40), .int (zI (vI T6 40 2))] [] dX4_takeName_33 tG_4_82 tM_46 lD_40 rfl rfl rfl rfl (by decide) rfl ?_
      refine gC.mono h (Nat.le_refl _) ?_
      rintro _ T33 ⟨rfl, h⟩
      refine g_iconst (v := zI (-1)) dX4_takeName_36 (by decide) ?_
      exact g_iret dX4_takeName_37 rfl rfl h
def f_X4_takeName_54 (sa : Nat → Nat) (b : Nat) (E : Nat × mH) (d : Nat) (l1 : Int) (l2 : Int) (l3 : Int) (T : gT) (Q : Option Value → gT → Prop) : Prop := (-2147483648 ≤ l3 ∧ l3 < 2147483648) ∧ (-2147483648 ≤ l1 ∧ l1 < 2147483648) ∧ ((l1 ≤ l3 → Q (some (.int (zI l2))) (gI T 40 2 (zI l1))) ∧ (¬ l1 ≤ l3 → gC (tP sa) lD b E d mX4_byteAt [.ref (b + 40), .int (zI l3)] T (fun r T61 => pI r (fun v61 => (-2147483648 ≤ v61 ∧ v61 < 2147483648) ∧ (((zD v61 = true) → gC (tP sa) lD b E d mX4_byteAt [.ref (b + 40), .int (zI l3)] T61 (fun r T86 => pI r (fun v86 => gW (tP sa) lD b E (d + 1) mX4_takeName 54 [some (.ref (b + 40)), some (.int (zI l1)), some (.int (zI (((l2 * 10) + v86) - 48))), some (.int (zI (l3 + 1)))] [] T86 Q))) ∧ (¬ (zD v61 = true) → gC (tP sa) lD b E d mX4_fail [.ref (b + 40), .int (zI (vI T61 40 2))] T61 (fun r T75 => pV r (Q (some (.int (zI (-1)))) T75))))))))
set_option maxRecDepth 4000 in
theorem w_X4_takeName_54 {sa : Nat → Nat} {b : Nat} {E : Nat × mH} {d : Nat} {l1 : Int} {l2 : Int} {l3 : Int} {T : gT} {Q : Option Value → gT → Prop} (h : f_X4_takeName_54 sa b E d l1 l2 l3 T Q) : gW (tP sa) lD b E (d + 1) mX4_takeName 54 [some (.ref (b + 40)), some (.int (zI l1)), some (.int (zI l2)), some (.int (zI l3))] [] T Q := by
  unfold f_X4_takeName_54 at h
  refine g_iload_n dX4_takeName_54 rfl ?_
  refine g_iload_n dX4_takeName_55 rfl ?_
  obtain ⟨a1, h⟩ := h
  obtain ⟨a2, h⟩ := h
  refine g_icmp_geZ dX4_takeName_56 rfl a1 a2 (fun c56 => ?_) (fun c56 => ?_)
  · replace h := h.1 c56
    refine g_aload_n dX4_takeName_100 rfl ?_
    refine g_iload_n dX4_takeName_101 rfl ?_
    refine g_putI dX4_takeName_102 tF_4_44 lD_40 rfl rfl ⟨rfl, rfl⟩ rfl ?_
    refine g_iload_n dX4_takeName_105 rfl ?_
    exact g_iret dX4_takeName_106 rfl rfl h
  · replace h := h.2 c56
    refine g_aload_n dX4_takeName_59 rfl ?_
    refine g_iload_n dX4_takeName_60 rfl ?_
    refine g_callV [.ref (b + 40), .int (zI l3)] [] dX4_takeName_61 tG_4_86 tM_47 lD_40 rfl rfl rfl rfl (by decide) rfl ?_
    refine gC.mono h (Nat.le_refl _) ?_
    rintro _ T61 ⟨v61, rfl, h⟩
    obtain ⟨a3, h⟩ := h
    refine g_callS [.int (zI v61)] [] dX4_takeName_64 tG_4_97 tM_50 rfl rfl rfl rfl (by decide) ?_
    refine gC.mono (c4_zD sa b E _ _ a3) (Nat.le_refl _) ?_
    rintro _ _ ⟨rfl, h9⟩
    obtain rfl := h9.symm
    refine g_if_neB dX4_takeName_67 rfl (fun c67 => ?_) (fun c67 => ?_)
    · replace h := h.1 c67
      refine g_iload_n dX4_takeName_80 rfl ?_
      refine g_bipush (v := zI 10) dX4_takeName_81 (by decide) ?_
      refine g_imulZ dX4_takeName_83 ?_
      refine g_aload_n dX4_takeName_84 rfl ?_
      refine g_iload_n dX4_takeName_85 rfl ?_
      refine g_callV [.ref (b + 40), .int (zI l3)] [.int (zI (l2 * 10))] dX4_takeName_86 tG_4_86 tM_47 lD_40 rfl rfl rfl rfl (by decide) rfl ?_
      refine gC.mono h (Nat.le_refl _) ?_
      rintro _ T86 ⟨v86, rfl, h⟩
      refine g_iaddZ dX4_takeName_89 ?_
      refine g_bipush (v := zI 48) dX4_takeName_90 (by decide) ?_
      refine g_isubZ dX4_takeName_92 ?_
      refine g_istore_n (L' := [some (.ref (b + 40)), some (.int (zI l1)), some (.int (zI (((l2 * 10) + v86) - 48))), some (.int (zI l3))]) dX4_takeName_93 rfl ?_
      refine g_iinc (x := zI l3) (v := zI (l3 + 1)) (L' := [some (.ref (b + 40)), some (.int (zI l1)), some (.int (zI (((l2 * 10) + v86) - 48))), some (.int (zI (l3 + 1)))]) dX4_takeName_94 rfl (zI_add _ _) rfl ?_
      refine g_goto dX4_takeName_97 rfl ?_
      exact h
    · replace h := h.2 c67
      refine g_aload_n dX4_takeName_70 rfl ?_
      refine g_aload_n dX4_takeName_71 rfl ?_
      refine g_getZ (v := vI T61 40 2) dX4_takeName_72 tF_4_44 lD_40 rfl (zI_v T61 40 2) ?_
      refine g_callV [.ref (b + 40), .int (zI (vI T61 40 2))] [] dX4_takeName_75 tG_4_82 tM_46 lD_40 rfl rfl rfl rfl (by decide) rfl ?_
      refine gC.mono h (Nat.le_refl _) ?_
      rintro _ T75 ⟨rfl, h⟩
      refine g_iconst (v := zI (-1)) dX4_takeName_78 (by decide) ?_
      exact g_iret dX4_takeName_79 rfl rfl h
def f_X4_bind (sa : Nat → Nat) (b : Nat) (E : Nat × mH) (d : Nat) (l1 : Int) (l2 : Int) (T : gT) (Q : Option Value → gT → Prop) : Prop := ((100 ≤ (vI T 40 9) → Q none T) ∧ (¬ 100 ≤ (vI T 40 9) → 0 ≤ vI T 40 9 ∧ vI T 40 9 < 100 ∧ Q none (gI (gI (gI T 41 (vI T 40 9).toNat (zI l1)) 42 (vI T 40 9).toNat (zI l2)) 40 9 (zI ((vI T 40 9) + 1)))))
set_option maxRecDepth 4000 in
theorem w_X4_bind {sa : Nat → Nat} {b : Nat} {E : Nat × mH} {d : Nat} {l1 : Int} {l2 : Int} {T : gT} {Q : Option Value → gT → Prop} (h : f_X4_bind sa b E d l1 l2 T Q) : gC (tP sa) lD b E d mX4_bind [.ref (b + 40), .int (zI l1), .int (zI l2)] T Q := by
  unfold f_X4_bind at h
  refine ⟨Nat.le_of_ble_eq_true rfl, ?_⟩
  show gW (tP sa) lD b E d mX4_bind 0 [some (.ref (b + 40)), some (.int (zI l1)), some (.int (zI l2))] [] T Q
  refine g_aload_n dX4_bind_0 rfl ?_
  refine g_getZ (v := vI T 40 9) dX4_bind_1 tF_4_65 lD_40 rfl (zI_v T 40 9) ?_
  refine g_bipush (v := zI 100) dX4_bind_4 (by decide) ?_
  refine g_icmp_geZ dX4_bind_6 rfl ⟨vI_lo _ _ _, vI_hi _ _ _⟩ (by decide) (fun c6 => ?_) (fun c6 => ?_)
  · replace h := h.1 c6
    exact g_vret dX4_bind_39 rfl h
  · replace h := h.2 c6
    refine g_aload_n dX4_bind_9 rfl ?_
    refine g_getR dX4_bind_10 tF_4_9 lD_40 rfl ?_
    refine g_aload_n dX4_bind_13 rfl ?_
    refine g_getZ (v := vI T 40 9) dX4_bind_14 tF_4_65 lD_40 rfl (zI_v T 40 9) ?_
    refine g_iload_n dX4_bind_17 rfl ?_
    obtain ⟨a1, h⟩ := h
    obtain ⟨a2, h⟩ := h
    refine g_iastZ dX4_bind_18 lD_41 a1 a2 (by decide) ?_
    refine g_aload_n dX4_bind_19 rfl ?_
    refine g_getR dX4_bind_20 tF_4_15 lD_40 rfl ?_
    refine g_aload_n dX4_bind_23 rfl ?_
    refine g_getZ (v := vI T 40 9) dX4_bind_24 tF_4_65 lD_40 rfl (zI_v T 40 9) ?_
    refine g_iload_n dX4_bind_27 rfl ?_
    refine g_iastZ dX4_bind_28 lD_42 a1 a2 (by decide) ?_
    refine g_aload_n dX4_bind_29 rfl ?_
    refine g_dup dX4_bind_30 rfl ?_
    refine g_getZ (v := vI T 40 9) dX4_bind_31 tF_4_65 lD_40 rfl (zI_v T 40 9) ?_
    refine g_iconst (v := zI 1) dX4_bind_34 (by decide) ?_
    refine g_iaddZ dX4_bind_35 ?_
    refine g_putI dX4_bind_36 tF_4_65 lD_40 rfl rfl ⟨rfl, rfl⟩ rfl ?_
    exact g_vret dX4_bind_39 rfl h
def f_X5_put (sa : Nat → Nat) (b : Nat) (E : Nat × mH) (d : Nat) (l1 : Nat) (T : gT) (Q : Option Value → gT → Prop) : Prop := gW (tP sa) lD b E (d + 1) mX5_put 7 [some (.ref (b + 63)), some (.ref (b + l1)), some (.int (zI 0))] [] (gI T 63 1 (zI 0)) Q
set_option maxRecDepth 4000 in
theorem w_X5_put {sa : Nat → Nat} {b : Nat} {E : Nat × mH} {d : Nat} {l1 : Nat} {T : gT} {Q : Option Value → gT → Prop} (hq_l1 : l1 = 2 ∨ l1 = 21) (h : f_X5_put sa b E d l1 T Q) : gC (tP sa) lD b E (d + 1) mX5_put [.ref (b + 63), .ref (b + l1)] T Q := by
  unfold f_X5_put at h
  refine ⟨Nat.le_of_ble_eq_true rfl, ?_⟩
  show gW (tP sa) lD b E (d + 1) mX5_put 0 [some (.ref (b + 63)), some (.ref (b + l1)), none] [] T Q
  refine g_aload_n dX5_put_0 rfl ?_
  refine g_iconst (v := zI 0) dX5_put_1 (by decide) ?_
  refine g_putI dX5_put_2 tF_5_15 lD_63 rfl rfl ⟨rfl, rfl⟩ rfl ?_
  refine g_iconst (v := zI 0) dX5_put_5 (by decide) ?_
  refine g_istore_n (L' := [some (.ref (b + 63)), some (.ref (b + l1)), some (.int (zI 0))]) dX5_put_6 rfl ?_
  exact h
def f_X5_put_7 (sa : Nat → Nat) (b : Nat) (E : Nat × mH) (d : Nat) (l1 : Nat) (l2 : Int) (T : gT) (Q : Option Value → gT → Prop) : Prop := (-2147483648 ≤ l2 ∧ l2 < 2147483648) ∧ (((vI T l1 0) ≤ l2 → Q none T) ∧ (¬ (vI T l1 0) ≤ l2 → gC (tP sa) lD b E d mX5_putBlank [.ref (b + 63), .ref (b + l1), .int (zI l2)] T (fun r T18 => pV r (gC (tP sa) lD b E d mX5_putHead [.ref (b + 63), .ref (b + l1), .int (zI l2)] T18 (fun r T24 => pV r (gC (tP sa) lD b E d mX5_putEnds [.ref (b + 63), .ref (b + l1), .int (zI l2)] T24 (fun r T30 => pV r (gW (tP sa) lD b E (d + 1) mX5_put 7 [some (.ref (b + 63)), some (.ref (b + l1)), some (.int (zI (l2 + 1)))] [] T30 Q))))))))
set_option maxRecDepth 4000 in
theorem w_X5_put_7 {sa : Nat → Nat} {b : Nat} {E : Nat × mH} {d : Nat} {l1 : Nat} {l2 : Int} {T : gT} {Q : Option Value → gT → Prop} (hq_l1 : l1 = 2 ∨ l1 = 21) (h : f_X5_put_7 sa b E d l1 l2 T Q) : gW (tP sa) lD b E (d + 1) mX5_put 7 [some (.ref (b + 63)), some (.ref (b + l1)), some (.int (zI l2))] [] T Q := by
  unfold f_X5_put_7 at h
  refine g_iload_n dX5_put_7 rfl ?_
  refine g_aload_n dX5_put_8 rfl ?_
  refine g_getZ (v := vI T l1 0) dX5_put_9 tF_5_19 (lP_0 hq_l1) rfl (zI_v _ _ _) ?_
  obtain ⟨a1, h⟩ := h
  refine g_icmp_geZ dX5_put_12 rfl a1 ⟨vI_lo _ _ _, vI_hi _ _ _⟩ (fun c12 => ?_) (fun c12 => ?_)
  · replace h := h.1 c12
    exact g_vret dX5_put_39 rfl h
  · replace h := h.2 c12
    refine g_aload_n dX5_put_15 rfl ?_
    refine g_aload_n dX5_put_16 rfl ?_
    refine g_iload_n dX5_put_17 rfl ?_
    refine g_callV [.ref (b + 63), .ref (b + l1), .int (zI l2)] [] dX5_put_18 tG_5_24 tM_75 lD_63 rfl rfl rfl rfl (by decide) rfl ?_
    refine gC.mono h (Nat.le_refl _) ?_
    rintro _ T18 ⟨rfl, h⟩
    refine g_aload_n dX5_put_21 rfl ?_
    refine g_aload_n dX5_put_22 rfl ?_
    refine g_iload_n dX5_put_23 rfl ?_
    refine g_callV [.ref (b + 63), .ref (b + l1), .int (zI l2)] [] dX5_put_24 tG_5_28 tM_76 lD_63 rfl rfl rfl rfl (by decide) rfl ?_
    refine gC.mono h (Nat.le_refl _) ?_
    rintro _ T24 ⟨rfl, h⟩
    refine g_aload_n dX5_put_27 rfl ?_
    refine g_aload_n dX5_put_28 rfl ?_
    refine g_iload_n dX5_put_29 rfl ?_
    refine g_callV [.ref (b + 63), .ref (b + l1), .int (zI l2)] [] dX5_put_30 tG_5_31 tM_77 lD_63 rfl rfl rfl rfl (by decide) rfl ?_
    refine gC.mono h (Nat.le_refl _) ?_
    rintro _ T30 ⟨rfl, h⟩
    refine g_iinc (x := zI l2) (v := zI (l2 + 1)) (L' := [some (.ref (b + 63)), some (.ref (b + l1)), some (.int (zI (l2 + 1)))]) dX5_put_33 rfl (zI_add _ _) rfl ?_
    refine g_goto dX5_put_36 rfl ?_
    exact h
def f_X5_putText (sa : Nat → Nat) (b : Nat) (E : Nat × mH) (d : Nat) (l1 : Nat) (l1w : List Nat) (T : gT) (Q : Option Value → gT → Prop) : Prop := gW (tP sa) lD b E (d + 3 + 1) mX5_putText 2 [some (.ref (b + 63)), some (.ref (l1)), some (.int (zI 0))] [] T Q
set_option maxRecDepth 4000 in
theorem w_X5_putText {sa : Nat → Nat} {b : Nat} {E : Nat × mH} {d : Nat} {l1 : Nat} {l1w : List Nat} {T : gT} {Q : Option Value → gT → Prop} (hs_l1 : mStr E b l1 l1w) (h : f_X5_putText sa b E d l1 l1w T Q) : gC (tP sa) lD b E (d + 3 + 1) mX5_putText [.ref (b + 63), .ref (l1)] T Q := by
  unfold f_X5_putText at h
  obtain ⟨va_hs_l1, f_hs_l1, fs_hs_l1, ha_hs_l1, _, hk_hs_l1, _⟩ := id hs_l1
  refine ⟨Nat.le_of_ble_eq_true rfl, ?_⟩
  show gW (tP sa) lD b E (d + 3 + 1) mX5_putText 0 [some (.ref (b + 63)), some (.ref (l1)), none] [] T Q
  refine g_iconst (v := zI 0) dX5_putText_0 (by decide) ?_
  refine g_istore_n (L' := [some (.ref (b + 63)), some (.ref (l1)), some (.int (zI 0))]) dX5_putText_1 rfl ?_
  exact h
def f_X5_putText_2 (sa : Nat → Nat) (b : Nat) (E : Nat × mH) (d : Nat) (l1 : Nat) (l1w : List Nat) (l2 : Int) (T : gT) (Q : Option Value → gT → Prop) : Prop := (-2147483648 ≤ l2 ∧ l2 < 2147483648) ∧ (-2147483648 ≤ (l1w.length : Int) ∧ (l1w.length : Int) < 2147483648) ∧ (((l1w.length : Int) ≤ l2 → Q none T) ∧ (¬ (l1w.length : Int) ≤ l2 → 0 ≤ l2 ∧ l2 < (l1w.length : Int) ∧ gC (tP sa) lD b E (d + 3) mX5_putByte [.ref (b + 63), .int (zI ((l1w.getD l2.toNat 0 : Nat) : Int))] T (fun r T16 => pV r (gW (tP sa) lD b E (d + 3 + 1) mX5_putText 2 [some (.ref (b + 63)), some (.ref (l1)), some (.int (zI (l2 + 1)))] [] T16 Q))))
set_option maxRecDepth 4000 in
theorem w_X5_putText_2 {sa : Nat → Nat} {b : Nat} {E : Nat × mH} {d : Nat} {l1 : Nat} {l1w : List Nat} {l2 : Int} {T : gT} {Q : Option Value → gT → Prop} (hs_l1 : mStr E b l1 l1w) (h : f_X5_putText_2 sa b E d l1 l1w l2 T Q) : gW (tP sa) lD b E (d + 3 + 1) mX5_putText 2 [some (.ref (b + 63)), some (.ref (l1)), some (.int (zI l2))] [] T Q := by
  unfold f_X5_putText_2 at h
  obtain ⟨va_hs_l1, f_hs_l1, fs_hs_l1, ha_hs_l1, _, hk_hs_l1, _⟩ := id hs_l1
  refine g_iload_n dX5_putText_2 rfl ?_
  refine g_aload_n dX5_putText_3 rfl ?_
  refine g_callC [.ref (l1)] [.int (zI l2)] dX5_putText_4 tG_5_34 tM_179 ha_hs_l1 hk_hs_l1 rfl rfl rfl rfl (by decide) rfl ?_
  refine gC.mono (c_length sa _ _ hs_l1) (Nat.add_le_add_left (by decide) _) ?_
  rintro _ _ ⟨rfl, h9⟩
  obtain rfl := h9.symm
  rw [zI_nat]
  obtain ⟨a1, h⟩ := h
  obtain ⟨a2, h⟩ := h
  refine g_icmp_geZ dX5_putText_7 rfl a1 a2 (fun c7 => ?_) (fun c7 => ?_)
  · replace h := h.1 c7
    exact g_vret dX5_putText_25 rfl h
  · replace h := h.2 c7
    refine g_aload_n dX5_putText_10 rfl ?_
    refine g_aload_n dX5_putText_11 rfl ?_
    refine g_iload_n dX5_putText_12 rfl ?_
    obtain ⟨a3, h⟩ := h
    obtain ⟨a4, h⟩ := h
    refine g_callC [.ref (l1), .int (zI l2)] [.ref (b + 63)] dX5_putText_13 tG_5_39 tM_180 ha_hs_l1 hk_hs_l1 rfl rfl rfl rfl (by decide) rfl ?_
    refine gC.mono (c_charZ sa _ _ hs_l1 a3 a4) (Nat.le_refl _) ?_
    rintro _ _ ⟨rfl, h9⟩
    obtain rfl := h9.symm
    rw [zI_nat]
    refine g_callV [.ref (b + 63), .int (zI ((l1w.getD l2.toNat 0 : Nat) : Int))] [] dX5_putText_16 tG_5_43 tM_71 lD_63 rfl rfl rfl rfl (by decide) rfl ?_
    refine gC.mono h (Nat.le_refl _) ?_
    rintro _ T16 ⟨rfl, h⟩
    refine g_iinc (x := zI l2) (v := zI (l2 + 1)) (L' := [some (.ref (b + 63)), some (.ref (l1)), some (.int (zI (l2 + 1)))]) dX5_putText_19 rfl (zI_add _ _) rfl ?_
    refine g_goto dX5_putText_22 rfl ?_
    exact h
def f_X5_putVariable (sa : Nat → Nat) (b : Nat) (E : Nat × mH) (d : Nat) (l1 : Int) (T : gT) (Q : Option Value → gT → Prop) : Prop := gC (tP sa) lD b E d mX5_putByte [.ref (b + 63), .int (zI 118)] T (fun r T3 => pV r (gC (tP sa) lD b E d mX5_putNumber [.ref (b + 63), .int (zI l1)] T3 (fun r T8 => pV r (Q none T8))))
set_option maxRecDepth 4000 in
theorem w_X5_putVariable {sa : Nat → Nat} {b : Nat} {E : Nat × mH} {d : Nat} {l1 : Int} {T : gT} {Q : Option Value → gT → Prop} (h : f_X5_putVariable sa b E d l1 T Q) : gC (tP sa) lD b E (d + 1) mX5_putVariable [.ref (b + 63), .int (zI l1)] T Q := by
  unfold f_X5_putVariable at h
  refine ⟨Nat.le_of_ble_eq_true rfl, ?_⟩
  show gW (tP sa) lD b E (d + 1) mX5_putVariable 0 [some (.ref (b + 63)), some (.int (zI l1))] [] T Q
  refine g_aload_n dX5_putVariable_0 rfl ?_
  refine g_bipush (v := zI 118) dX5_putVariable_1 (by decide) ?_
  refine g_callV [.ref (b + 63), .int (zI 118)] [] dX5_putVariable_3 tG_5_43 tM_71 lD_63 rfl rfl rfl rfl (by decide) rfl ?_
  refine gC.mono h (Nat.le_refl _) ?_
  rintro _ T3 ⟨rfl, h⟩
  refine g_aload_n dX5_putVariable_6 rfl ?_
  refine g_iload_n dX5_putVariable_7 rfl ?_
  refine g_callV [.ref (b + 63), .int (zI l1)] [] dX5_putVariable_8 tG_5_54 tM_73 lD_63 rfl rfl rfl rfl (by decide) rfl ?_
  refine gC.mono h (Nat.le_refl _) ?_
  rintro _ T8 ⟨rfl, h⟩
  exact g_vret dX5_putVariable_11 rfl h
def f_X5_putHead (sa : Nat → Nat) (b : Nat) (E : Nat × mH) (d : Nat) (l1 : Nat) (l2 : Int) (T : gT) (Q : Option Value → gT → Prop) : Prop := (-2147483648 ≤ l2 ∧ l2 < 2147483648) ∧ (((aI T (l1 + 1) 200 l2) = 0 → gC (tP sa) lD b E d mX5_putVariable [.ref (b + 63), .int (zI (aI T (l1 + 2) 200 l2))] T (fun r T87 => pV r (Q none T87))) ∧ ((aI T (l1 + 1) 200 l2) = 1 → gC (tP sa) lD b E d mX5_putNumber [.ref (b + 63), .int (zI (aI T (l1 + 2) 200 l2))] T (fun r T96 => pV r (Q none T96))) ∧ ((aI T (l1 + 1) 200 l2) = 2 → gC (tP sa) lD b E d mX5_putByte [.ref (b + 63), .int (zI 92)] T (fun r T105 => pV r (gC (tP sa) lD b E d mX5_putVariable [.ref (b + 63), .int (zI (aI T (l1 + 2) 200 l2))] T105 (fun r T111 => pV r (gC (tP sa) lD b E d mX5_putByte [.ref (b + 63), .int (zI 46)] T111 (fun r T117 => pV r (Q none T117))))))) ∧ ((aI T (l1 + 1) 200 l2) = 3 → gC (tP sa) lD b E d mX5_putText [.ref (b + 63), .ref (sa 3)] T (fun r T126 => pV r (gC (tP sa) lD b E d mX5_putVariable [.ref (b + 63), .int (zI (aI T126 (l1 + 3) 200 l2))] T126 (fun r T138 => pV r (gC (tP sa) lD b E d mX5_putByte [.ref (b + 63), .int (zI 32)] T138 (fun r T144 => pV r (gC (tP sa) lD b E d mX5_putVariable [.ref (b + 63), .int (zI (aI T (l1 + 2) 200 l2))] T144 (fun r T150 => pV r (Q none T150))))))))) ∧ ((aI T (l1 + 1) 200 l2) = 4 → gC (tP sa) lD b E d mX5_putText [.ref (b + 63), .ref (sa 4)] T (fun r T159 => pV r (Q none T159))) ∧ ((aI T (l1 + 1) 200 l2) = 5 → gC (tP sa) lD b E d mX5_putText [.ref (b + 63), .ref (sa 5)] T (fun r T168 => pV r (gC (tP sa) lD b E d mX5_putVariable [.ref (b + 63), .int (zI (aI T (l1 + 2) 200 l2))] T168 (fun r T174 => pV r (Q none T174))))) ∧ ((aI T (l1 + 1) 200 l2) = 11 → gC (tP sa) lD b E d mX5_putByte [.ref (b + 63), .int (zI 40)] T (fun r T183 => pV r (Q none T183))) ∧ ((¬ (aI T (l1 + 1) 200 l2) = 0 ∧ ¬ (aI T (l1 + 1) 200 l2) = 1 ∧ ¬ (aI T (l1 + 1) 200 l2) = 2 ∧ ¬ (aI T (l1 + 1) 200 l2) = 3 ∧ ¬ (aI T (l1 + 1) 200 l2) = 4 ∧ ¬ (aI T (l1 + 1) 200 l2) = 5 ∧ ¬ (aI T (l1 + 1) 200 l2) = 11) → gC (tP sa) lD b E d mX5_putByte [.ref (b + 63), .int (zI 40)] T (fun r T192 => pV r ((-2147483648 ≤ (aI T (l1 + 1) 200 l2) - 6 ∧ (aI T (l1 + 1) 200 l2) - 6 < 2147483648) ∧ gC (tP sa) lD b E d mX5_putByte [.ref (b + 63), .int (zI (aS stB ((aI T (l1 + 1) 200 l2) - 6)))] T192 (fun r T206 => pV r (Q none T206))))))
set_option maxRecDepth 4000 in
theorem w_X5_putHead {sa : Nat → Nat} {b : Nat} {E : Nat × mH} {d : Nat} {l1 : Nat} {l2 : Int} {T : gT} {Q : Option Value → gT → Prop} (hq_l1 : l1 = 2 ∨ l1 = 21) (hE : mSta sa b E) (h : f_X5_putHead sa b E d l1 l2 T Q) : gC (tP sa) lD b E (d + 1) mX5_putHead [.ref (b + 63), .ref (b + l1), .int (zI l2)] T Q := by
  unfold f_X5_putHead at h
  have hE9 := hE
  obtain ⟨⟨ha_100, f100, hk_100, hf_100⟩, ⟨ha_101, f101, hk_101, hf_101⟩⟩ := hE
  refine ⟨Nat.le_of_ble_eq_true rfl, ?_⟩
  show gW (tP sa) lD b E (d + 1) mX5_putHead 0 [some (.ref (b + 63)), some (.ref (b + l1)), some (.int (zI l2)), none, none] [] T Q
  refine g_aload_n dX5_putHead_0 rfl ?_
  refine g_getR dX5_putHead_1 tF_5_65 (lP_0 hq_l1) rfl ?_
  refine g_iload_n dX5_putHead_4 rfl ?_
  obtain ⟨a1, h⟩ := h
  refine g_callS [.ref (b + (l1 + 1)), .int (zI l2)] [] dX5_putHead_5 tG_5_61 tM_96 rfl rfl rfl rfl (by decide) ?_
  refine gC.mono (c_aI sa b E _ _ (lP_1 hq_l1) (by decide) a1) (Nat.le_refl _) ?_
  rintro _ _ ⟨rfl, h9⟩
  obtain rfl := h9.symm
  refine g_istore_n (L' := [some (.ref (b + 63)), some (.ref (b + l1)), some (.int (zI l2)), some (.int (zI (aI T (l1 + 1) 200 l2))), none]) dX5_putHead_8 rfl ?_
  refine g_aload_n dX5_putHead_9 rfl ?_
  refine g_getR dX5_putHead_10 tF_5_72 (lP_0 hq_l1) rfl ?_
  refine g_iload_n dX5_putHead_13 rfl ?_
  refine g_callS [.ref (b + (l1 + 2)), .int (zI l2)] [] dX5_putHead_14 tG_5_61 tM_96 rfl rfl rfl rfl (by decide) ?_
  refine gC.mono (c_aI sa b E _ _ (lP_2 hq_l1) (by decide) a1) (Nat.le_refl _) ?_
  rintro _ _ ⟨rfl, h9⟩
  obtain rfl := h9.symm
  refine g_istore (L' := [some (.ref (b + 63)), some (.ref (b + l1)), some (.int (zI l2)), some (.int (zI (aI T (l1 + 1) 200 l2))), some (.int (zI (aI T (l1 + 2) 200 l2)))]) dX5_putHead_17 rfl ?_
  refine g_iload_n dX5_putHead_19 rfl ?_
  by_cases c9 : (aI T (l1 + 1) 200 l2) = 0
  · replace h := h.1 c9
    refine g_tabC (c := 0) (off := 64) dX5_putHead_20 (aI_rg _ _ _ _) c9 (by decide) rfl rfl ?_
    refine g_aload_n dX5_putHead_84 rfl ?_
    refine g_iload dX5_putHead_85 rfl ?_
    refine g_callV [.ref (b + 63), .int (zI (aI T (l1 + 2) 200 l2))] [] dX5_putHead_87 tG_5_75 tM_74 lD_63 rfl rfl rfl rfl (by decide) rfl ?_
    refine gC.mono h (Nat.le_refl _) ?_
    rintro _ T87 ⟨rfl, h⟩
    refine g_goto dX5_putHead_90 rfl ?_
    exact g_vret dX5_putHead_209 rfl h
  have n0_20 := c9
  by_cases c9 : (aI T (l1 + 1) 200 l2) = 1
  · replace h := h.2.1 c9
    refine g_tabC (c := 1) (off := 73) dX5_putHead_20 (aI_rg _ _ _ _) c9 (by decide) rfl rfl ?_
    refine g_aload_n dX5_putHead_93 rfl ?_
    refine g_iload dX5_putHead_94 rfl ?_
    refine g_callV [.ref (b + 63), .int (zI (aI T (l1 + 2) 200 l2))] [] dX5_putHead_96 tG_5_54 tM_73 lD_63 rfl rfl rfl rfl (by decide) rfl ?_
    refine gC.mono h (Nat.le_refl _) ?_
    rintro _ T96 ⟨rfl, h⟩
    refine g_goto dX5_putHead_99 rfl ?_
    exact g_vret dX5_putHead_209 rfl h
  have n1_20 := c9
  by_cases c9 : (aI T (l1 + 1) 200 l2) = 2
  · replace h := h.2.2.1 c9
    refine g_tabC (c := 2) (off := 82) dX5_putHead_20 (aI_rg _ _ _ _) c9 (by decide) rfl rfl ?_
    refine g_aload_n dX5_putHead_102 rfl ?_
    refine g_bipush (v := zI 92) dX5_putHead_103 (by decide) ?_
    refine g_callV [.ref (b + 63), .int (zI 92)] [] dX5_putHead_105 tG_5_43 tM_71 lD_63 rfl rfl rfl rfl (by decide) rfl ?_
    refine gC.mono h (Nat.le_refl _) ?_
    rintro _ T105 ⟨rfl, h⟩
    refine g_aload_n dX5_putHead_108 rfl ?_
    refine g_iload dX5_putHead_109 rfl ?_
    refine g_callV [.ref (b + 63), .int (zI (aI T (l1 + 2) 200 l2))] [] dX5_putHead_111 tG_5_75 tM_74 lD_63 rfl rfl rfl rfl (by decide) rfl ?_
    refine gC.mono h (Nat.le_refl _) ?_
    rintro _ T111 ⟨rfl, h⟩
    refine g_aload_n dX5_putHead_114 rfl ?_
    refine g_bipush (v := zI 46) dX5_putHead_115 (by decide) ?_
    refine g_callV [.ref (b + 63), .int (zI 46)] [] dX5_putHead_117 tG_5_43 tM_71 lD_63 rfl rfl rfl rfl (by decide) rfl ?_
    refine gC.mono h (Nat.le_refl _) ?_
    rintro _ T117 ⟨rfl, h⟩
    refine g_goto dX5_putHead_120 rfl ?_
    exact g_vret dX5_putHead_209 rfl h
  have n2_20 := c9
  by_cases c9 : (aI T (l1 + 1) 200 l2) = 3
  · replace h := h.2.2.2.1 c9
    refine g_tabC (c := 3) (off := 103) dX5_putHead_20 (aI_rg _ _ _ _) c9 (by decide) rfl rfl ?_
    refine g_aload_n dX5_putHead_123 rfl ?_
    refine g_ldc dX5_putHead_124 (tK_5_78 sa) rfl ?_
    refine g_callV [.ref (b + 63), .ref (sa 3)] [] dX5_putHead_126 tG_5_80 tM_72 lD_63 rfl rfl rfl rfl (by decide) rfl ?_
    refine gC.mono h (Nat.le_refl _) ?_
    rintro _ T126 ⟨rfl, h⟩
    refine g_aload_n dX5_putHead_129 rfl ?_
    refine g_aload_n dX5_putHead_130 rfl ?_
    refine g_getR dX5_putHead_131 tF_5_84 (lP_0 hq_l1) rfl ?_
    refine g_iload_n dX5_putHead_134 rfl ?_
    refine g_callS [.ref (b + (l1 + 3)), .int (zI l2)] [.ref (b + 63)] dX5_putHead_135 tG_5_61 tM_96 rfl rfl rfl rfl (by decide) ?_
    refine gC.mono (c_aI sa b E _ _ (lP_3 hq_l1) (by decide) a1) (Nat.le_refl _) ?_
    rintro _ _ ⟨rfl, h9⟩
    obtain rfl := h9.symm
    refine g_callV [.ref (b + 63), .int (zI (aI T126 (l1 + 3) 200 l2))] [] dX5_putHead_138 tG_5_75 tM_74 lD_63 rfl rfl rfl rfl (by decide) rfl ?_
    refine gC.mono h (Nat.le_refl _) ?_
    rintro _ T138 ⟨rfl, h⟩
    refine g_aload_n dX5_putHead_141 rfl ?_
    refine g_bipush (v := zI 32) dX5_putHead_142 (by decide) ?_
    refine g_callV [.ref (b + 63), .int (zI 32)] [] dX5_putHead_144 tG_5_43 tM_71 lD_63 rfl rfl rfl rfl (by decide) rfl ?_
    refine gC.mono h (Nat.le_refl _) ?_
    rintro _ T144 ⟨rfl, h⟩
    refine g_aload_n dX5_putHead_147 rfl ?_
    refine g_iload dX5_putHead_148 rfl ?_
    refine g_callV [.ref (b + 63), .int (zI (aI T (l1 + 2) 200 l2))] [] dX5_putHead_150 tG_5_75 tM_74 lD_63 rfl rfl rfl rfl (by decide) rfl ?_
    refine gC.mono h (Nat.le_refl _) ?_
    rintro _ T150 ⟨rfl, h⟩
    refine g_goto dX5_putHead_153 rfl ?_
    exact g_vret dX5_putHead_209 rfl h
  have n3_20 := c9
  by_cases c9 : (aI T (l1 + 1) 200 l2) = 4
  · replace h := h.2.2.2.2.1 c9
    refine g_tabC (c := 4) (off := 136) dX5_putHead_20 (aI_rg _ _ _ _) c9 (by decide) rfl rfl ?_
    refine g_aload_n dX5_putHead_156 rfl ?_
    refine g_ldc dX5_putHead_157 (tK_5_87 sa) rfl ?_
    refine g_callV [.ref (b + 63), .ref (sa 4)] [] dX5_putHead_159 tG_5_80 tM_72 lD_63 rfl rfl rfl rfl (by decide) rfl ?_
    refine gC.mono h (Nat.le_refl _) ?_
    rintro _ T159 ⟨rfl, h⟩
    refine g_goto dX5_putHead_162 rfl ?_
    exact g_vret dX5_putHead_209 rfl h
  have n4_20 := c9
  by_cases c9 : (aI T (l1 + 1) 200 l2) = 5
  · replace h := h.2.2.2.2.2.1 c9
    refine g_tabC (c := 5) (off := 145) dX5_putHead_20 (aI_rg _ _ _ _) c9 (by decide) rfl rfl ?_
    refine g_aload_n dX5_putHead_165 rfl ?_
    refine g_ldc dX5_putHead_166 (tK_5_89 sa) rfl ?_
    refine g_callV [.ref (b + 63), .ref (sa 5)] [] dX5_putHead_168 tG_5_80 tM_72 lD_63 rfl rfl rfl rfl (by decide) rfl ?_
    refine gC.mono h (Nat.le_refl _) ?_
    rintro _ T168 ⟨rfl, h⟩
    refine g_aload_n dX5_putHead_171 rfl ?_
    refine g_iload dX5_putHead_172 rfl ?_
    refine g_callV [.ref (b + 63), .int (zI (aI T (l1 + 2) 200 l2))] [] dX5_putHead_174 tG_5_75 tM_74 lD_63 rfl rfl rfl rfl (by decide) rfl ?_
    refine gC.mono h (Nat.le_refl _) ?_
    rintro _ T174 ⟨rfl, h⟩
    refine g_goto dX5_putHead_177 rfl ?_
    exact g_vret dX5_putHead_209 rfl h
  have n5_20 := c9
  by_cases c9 : (aI T (l1 + 1) 200 l2) = 11
  · replace h := h.2.2.2.2.2.2.1 c9
    refine g_tabC (c := 11) (off := 160) dX5_putHead_20 (aI_rg _ _ _ _) c9 (by decide) rfl rfl ?_
    refine g_aload_n dX5_putHead_180 rfl ?_
    refine g_bipush (v := zI 40) dX5_putHead_181 (by decide) ?_
    refine g_callV [.ref (b + 63), .int (zI 40)] [] dX5_putHead_183 tG_5_43 tM_71 lD_63 rfl rfl rfl rfl (by decide) rfl ?_
    refine gC.mono h (Nat.le_refl _) ?_
    rintro _ T183 ⟨rfl, h⟩
    refine g_goto dX5_putHead_186 rfl ?_
    exact g_vret dX5_putHead_209 rfl h
  have n6_20 := c9
  replace h := h.2.2.2.2.2.2.2 ⟨n0_20, n1_20, n2_20, n3_20, n4_20, n5_20, n6_20⟩
  have o7 : ¬ ((aI T (l1 + 1) 200 l2) < 0 ∨ 11 < (aI T (l1 + 1) 200 l2)) → (#[64, 73, 82, 103, 136, 145, 169, 169, 169, 169, 169, 160] : Array Int)[((aI T (l1 + 1) 200 l2) - 0).toNat]? = some 169 := by
    intro o9
    have o8 : (aI T (l1 + 1) 200 l2) = 6 ∨ (aI T (l1 + 1) 200 l2) = 7 ∨ (aI T (l1 + 1) 200 l2) = 8 ∨ (aI T (l1 + 1) 200 l2) = 9 ∨ (aI T (l1 + 1) 200 l2) = 10 := by omega
    rcases o8 with o8 | o8 | o8 | o8 | o8 <;> rw [o8] <;> rfl
  refine g_tabD dX5_putHead_20 (aI_rg _ _ _ _) o7 rfl ?_
  refine g_aload_n dX5_putHead_189 rfl ?_
  refine g_bipush (v := zI 40) dX5_putHead_190 (by decide) ?_
  refine g_callV [.ref (b + 63), .int (zI 40)] [] dX5_putHead_192 tG_5_43 tM_71 lD_63 rfl rfl rfl rfl (by decide) rfl ?_
  refine gC.mono h (Nat.le_refl _) ?_
  rintro _ T192 ⟨rfl, h⟩
  refine g_aload_n dX5_putHead_195 rfl ?_
  refine g_getstatic dX5_putHead_196 (tZ_5_91 sa) ?_
  refine g_iload_n dX5_putHead_199 rfl ?_
  refine g_bipush (v := zI 6) dX5_putHead_200 (by decide) ?_
  refine g_isubZ dX5_putHead_202 ?_
  obtain ⟨a2, h⟩ := h
  refine g_callS [.ref (sa 101), .int (zI ((aI T (l1 + 1) 200 l2) - 6))] [.ref (b + 63)] dX5_putHead_203 tG_5_61 tM_96 rfl rfl rfl rfl (by decide) ?_
  refine gC.mono (c_aS1 sa b E _ _ hE9 a2) (Nat.le_refl _) ?_
  rintro _ _ ⟨rfl, h9⟩
  obtain rfl := h9.symm
  refine g_callV [.ref (b + 63), .int (zI (aS stB ((aI T (l1 + 1) 200 l2) - 6)))] [] dX5_putHead_206 tG_5_43 tM_71 lD_63 rfl rfl rfl rfl (by decide) rfl ?_
  refine gC.mono h (Nat.le_refl _) ?_
  rintro _ T206 ⟨rfl, h⟩
  exact g_vret dX5_putHead_209 rfl h
def f_X6_function (sa : Nat → Nat) (b : Nat) (E : Nat × mH) (d : Nat) (l1 : Int) (l2 : Int) (T : gT) (Q : Option Value → gT → Prop) : Prop := gC (tP sa) lD b E d mX6_isFunction [.ref (b + 0), .int (zI l1)] T (fun r T2 => pI r (fun v2 => (-2147483648 ≤ v2 ∧ v2 < 2147483648) ∧ ((¬ v2 = 0 → (∃ r12 : Nat, (r12 = 2 ∨ r12 = 21) ∧ vI T2 0 2 = (r12 : Int) ∧ 0 ≤ l1 ∧ l1 < 50 ∧ (-2147483648 ≤ l2 ∧ l2 < 2147483648) ∧ ((l2 = 0 → Q (some (.int (zI (vI T2 (r12 + 7) l1.toNat)))) T2) ∧ (l2 = 1 → (∃ r67 : Nat, (r67 = 2 ∨ r67 = 21) ∧ vI T2 0 2 = (r67 : Int) ∧ Q (some (.int (zI (aP T2 r67 (vI T2 (r12 + 7) l1.toNat) 0)))) T2)) ∧ (l2 = 2 → (∃ r77 : Nat, (r77 = 2 ∨ r77 = 21) ∧ vI T2 0 2 = (r77 : Int) ∧ Q (some (.int (zI (aI T2 (r77 + 2) 200 (vI T2 (r12 + 7) l1.toNat))))) T2)) ∧ (l2 = 3 → (∃ r89 : Nat, (r89 = 2 ∨ r89 = 21) ∧ vI T2 0 2 = (r89 : Int) ∧ Q (some (.int (zI (aI T2 (r89 + 3) 200 (vI T2 (r12 + 7) l1.toNat))))) T2)) ∧ (l2 = 4 → (∃ r101 : Nat, (r101 = 2 ∨ r101 = 21) ∧ vI T2 0 2 = (r101 : Int) ∧ Q (some (.int (zI (vI T2 (r101 + 10) l1.toNat)))) T2)) ∧ (l2 = 5 → gC (tP sa) lD b E d mX6_countCallsInto [.ref (b + 0), .int (zI l1)] T2 (fun r T112 => pI r (fun v112 => Q (some (.int (zI v112))) T112))) ∧ (l2 = 6 → gC (tP sa) lD b E d mX1_reachesBit [.ref (b + 47), .int (zI l1), .int (zI l1)] T2 (fun r T122 => pI r (fun v122 => Q (some (.int (zI v122))) T122))) ∧ ((¬ l2 = 0 ∧ ¬ l2 = 1 ∧ ¬ l2 = 2 ∧ ¬ l2 = 3 ∧ ¬ l2 = 4 ∧ ¬ l2 = 5 ∧ ¬ l2 = 6) → Q (some (.int (zI (-2)))) T2)))) ∧ (v2 = 0 → Q (some (.int (zI (-2)))) T2))))
set_option maxRecDepth 4000 in
theorem w_X6_function {sa : Nat → Nat} {b : Nat} {E : Nat × mH} {d : Nat} {l1 : Int} {l2 : Int} {T : gT} {Q : Option Value → gT → Prop} (h : f_X6_function sa b E d l1 l2 T Q) : gC (tP sa) lD b E (d + 1) mX6_function [.ref (b + 0), .int (zI l1), .int (zI l2)] T Q := by
  unfold f_X6_function at h
  refine ⟨Nat.le_of_ble_eq_true rfl, ?_⟩
  show gW (tP sa) lD b E (d + 1) mX6_function 0 [some (.ref (b + 0)), some (.int (zI l1)), some (.int (zI l2)), none] [] T Q
  refine g_aload_n dX6_function_0 rfl ?_
  refine g_iload_n dX6_function_1 rfl ?_
  refine g_callV [.ref (b + 0), .int (zI l1)] [] dX6_function_2 tG_6_121 tM_101 lD_0 rfl rfl rfl rfl (by decide) rfl ?_
  refine gC.mono h (Nat.le_refl _) ?_
  rintro _ T2 ⟨v2, rfl, h⟩
  obtain ⟨a1, h⟩ := h
  refine g_if_neZ dX6_function_5 rfl a1  (fun c5 => ?_) (fun c5 => ?_)
  · replace h := h.1 c5
    refine g_aload_n dX6_function_11 rfl ?_
    obtain ⟨r12, hq_r12, e_r12, h⟩ := h
    refine g_getVZ (o := r12) dX6_function_12 tF_6_16 lD_0 rfl e_r12 (q_lt hq_r12) ?_
    refine g_getR dX6_function_15 tF_6_124 (lP_0 hq_r12) rfl ?_
    refine g_iload_n dX6_function_18 rfl ?_
    obtain ⟨a2, h⟩ := h
    obtain ⟨a3, h⟩ := h
    refine g_ialdZ (v := vI T2 (r12 + 7) l1.toNat) dX6_function_19 (lP_7 hq_r12) a2 a3 (by decide) (zI_v T2 (r12 + 7) l1.toNat) ?_
    refine g_istore_n (L' := [some (.ref (b + 0)), some (.int (zI l1)), some (.int (zI l2)), some (.int (zI (vI T2 (r12 + 7) l1.toNat)))]) dX6_function_20 rfl ?_
    refine g_iload_n dX6_function_21 rfl ?_
    obtain ⟨a4, h⟩ := h
    by_cases c9 : l2 = 0
    · replace h := h.1 c9
      refine g_tabC (c := 0) (off := 42) dX6_function_22 a4 c9 (by decide) rfl rfl ?_
      refine g_iload_n dX6_function_64 rfl ?_
      exact g_iret dX6_function_65 rfl rfl h
    have n0_22 := c9
    by_cases c9 : l2 = 1
    · replace h := h.2.1 c9
      refine g_tabC (c := 1) (off := 44) dX6_function_22 a4 c9 (by decide) rfl rfl ?_
      refine g_aload_n dX6_function_66 rfl ?_
      obtain ⟨r67, hq_r67, e_r67, h⟩ := h
      refine g_getVZ (o := r67) dX6_function_67 tF_6_16 lD_0 rfl e_r67 (q_lt hq_r67) ?_
      refine g_iload_n dX6_function_70 rfl ?_
      refine g_iconst (v := zI 0) dX6_function_71 (by decide) ?_
      refine g_callV [.ref (b + r67), .int (zI (vI T2 (r12 + 7) l1.toNat)), .int (zI 0)] [] dX6_function_72 tG_6_104 tM_39 (lP_0 hq_r67) rfl rfl rfl rfl (by decide) rfl ?_
      refine gC.mono (c_part sa b E _ _ hq_r67 ⟨vI_lo _ _ _, vI_hi _ _ _⟩ (by decide)) (Nat.le_refl _) ?_
      rintro _ _ ⟨rfl, h9⟩
      obtain rfl := h9.symm
      exact g_iret dX6_function_75 rfl rfl h
    have n1_22 := c9
    by_cases c9 : l2 = 2
    · replace h := h.2.2.1 c9
      refine g_tabC (c := 2) (off := 54) dX6_function_22 a4 c9 (by decide) rfl rfl ?_
      refine g_aload_n dX6_function_76 rfl ?_
      obtain ⟨r77, hq_r77, e_r77, h⟩ := h
      refine g_getVZ (o := r77) dX6_function_77 tF_6_16 lD_0 rfl e_r77 (q_lt hq_r77) ?_
      refine g_getR dX6_function_80 tF_6_98 (lP_0 hq_r77) rfl ?_
      refine g_iload_n dX6_function_83 rfl ?_
      refine g_callS [.ref (b + (r77 + 2)), .int (zI (vI T2 (r12 + 7) l1.toNat))] [] dX6_function_84 tG_6_127 tM_96 rfl rfl rfl rfl (by decide) ?_
      refine gC.mono (c_aI sa b E _ _ (lP_2 hq_r77) (by decide) ⟨vI_lo _ _ _, vI_hi _ _ _⟩) (Nat.le_refl _) ?_
      rintro _ _ ⟨rfl, h9⟩
      obtain rfl := h9.symm
      exact g_iret dX6_function_87 rfl rfl h
    have n2_22 := c9
    by_cases c9 : l2 = 3
    · replace h := h.2.2.2.1 c9
      refine g_tabC (c := 3) (off := 66) dX6_function_22 a4 c9 (by decide) rfl rfl ?_
      refine g_aload_n dX6_function_88 rfl ?_
      obtain ⟨r89, hq_r89, e_r89, h⟩ := h
      refine g_getVZ (o := r89) dX6_function_89 tF_6_16 lD_0 rfl e_r89 (q_lt hq_r89) ?_
      refine g_getR dX6_function_92 tF_6_131 (lP_0 hq_r89) rfl ?_
      refine g_iload_n dX6_function_95 rfl ?_
      refine g_callS [.ref (b + (r89 + 3)), .int (zI (vI T2 (r12 + 7) l1.toNat))] [] dX6_function_96 tG_6_127 tM_96 rfl rfl rfl rfl (by decide) ?_
      refine gC.mono (c_aI sa b E _ _ (lP_3 hq_r89) (by decide) ⟨vI_lo _ _ _, vI_hi _ _ _⟩) (Nat.le_refl _) ?_
      rintro _ _ ⟨rfl, h9⟩
      obtain rfl := h9.symm
      exact g_iret dX6_function_99 rfl rfl h
    have n3_22 := c9
    by_cases c9 : l2 = 4
    · replace h := h.2.2.2.2.1 c9
      refine g_tabC (c := 4) (off := 78) dX6_function_22 a4 c9 (by decide) rfl rfl ?_
      refine g_aload_n dX6_function_100 rfl ?_
      obtain ⟨r101, hq_r101, e_r101, h⟩ := h
      refine g_getVZ (o := r101) dX6_function_101 tF_6_16 lD_0 rfl e_r101 (q_lt hq_r101) ?_
      refine g_getR dX6_function_104 tF_6_134 (lP_0 hq_r101) rfl ?_
      refine g_iload_n dX6_function_107 rfl ?_
      refine g_ialdZ (v := vI T2 (r101 + 10) l1.toNat) dX6_function_108 (lP_10 hq_r101) a2 a3 (by decide) (zI_v T2 (r101 + 10) l1.toNat) ?_
      exact g_iret dX6_function_109 rfl rfl h
    have n4_22 := c9
    by_cases c9 : l2 = 5
    · replace h := h.2.2.2.2.2.1 c9
      refine g_tabC (c := 5) (off := 88) dX6_function_22 a4 c9 (by decide) rfl rfl ?_
      refine g_aload_n dX6_function_110 rfl ?_
      refine g_iload_n dX6_function_111 rfl ?_
      refine g_callV [.ref (b + 0), .int (zI l1)] [] dX6_function_112 tG_6_137 tM_109 lD_0 rfl rfl rfl rfl (by decide) rfl ?_
      refine gC.mono h (Nat.le_refl _) ?_
      rintro _ T112 ⟨v112, rfl, h⟩
      exact g_iret dX6_function_115 rfl rfl h
    have n5_22 := c9
    by_cases c9 : l2 = 6
    · replace h := h.2.2.2.2.2.2.1 c9
      refine g_tabC (c := 6) (off := 94) dX6_function_22 a4 c9 (by decide) rfl rfl ?_
      refine g_aload_n dX6_function_116 rfl ?_
      refine g_getR dX6_function_117 tF_6_33 lD_0 rfl ?_
      refine g_iload_n dX6_function_120 rfl ?_
      refine g_iload_n dX6_function_121 rfl ?_
      refine g_callV [.ref (b + 47), .int (zI l1), .int (zI l1)] [] dX6_function_122 tG_6_140 tM_9 lD_47 rfl rfl rfl rfl (by decide) rfl ?_
      refine gC.mono h (Nat.le_refl _) ?_
      rintro _ T122 ⟨v122, rfl, h⟩
      exact g_iret dX6_function_125 rfl rfl h
    have n6_22 := c9
    replace h := h.2.2.2.2.2.2.2 ⟨n0_22, n1_22, n2_22, n3_22, n4_22, n5_22, n6_22⟩
    have o7 : ¬ (l2 < 0 ∨ 6 < l2) → (#[42, 44, 54, 66, 78, 88, 94] : Array Int)[(l2 - 0).toNat]? = some 104 := by
      intro o9
      exact absurd o9 (by omega)
    refine g_tabD dX6_function_22 a4 o7 rfl ?_
    refine g_bipush (v := zI (-2)) dX6_function_126 (by decide) ?_
    exact g_iret dX6_function_128 rfl rfl h
  · replace h := h.2 c5
    refine g_bipush (v := zI (-2)) dX6_function_8 (by decide) ?_
    exact g_iret dX6_function_10 rfl rfl h
def f_X6_takeSpare (sa : Nat → Nat) (b : Nat) (E : Nat × mH) (d : Nat) (T : gT) (Q : Option Value → gT → Prop) : Prop := (∃ r1 : Nat, (r1 = 2 ∨ r1 = 21) ∧ vI T 0 3 = (r1 : Int) ∧ gC (tP sa) lD b E d mX3_settle [.ref (b + r1)] T (fun r T4 => pV r ((∃ r8 : Nat, (r8 = 2 ∨ r8 = 21) ∧ vI T4 0 2 = (r8 : Int) ∧ (∃ r14 : Nat, (r14 = 2 ∨ r14 = 21) ∧ vI T4 0 3 = (r14 : Int) ∧ (∃ r30 : Nat, (r30 = 2 ∨ r30 = 21) ∧ vI (gI (gI T4 0 2 (nI r14)) 0 3 (nI r8)) 0 2 = (r30 : Int) ∧ gC (tP sa) lD b E d mX1_solve [.ref (b + 47), .ref (b + r30)] (gI (gI T4 0 2 (nI r14)) 0 3 (nI r8)) (fun r T33 => pV r (gC (tP sa) lD b E d mX2_forget [.ref (b + 51)] T33 (fun r T40 => pV r (Q none T40))))))))))
set_option maxRecDepth 4000 in
theorem w_X6_takeSpare {sa : Nat → Nat} {b : Nat} {E : Nat × mH} {d : Nat} {T : gT} {Q : Option Value → gT → Prop} (h : f_X6_takeSpare sa b E d T Q) : gC (tP sa) lD b E (d + 1) mX6_takeSpare [.ref (b + 0)] T Q := by
  unfold f_X6_takeSpare at h
  refine ⟨Nat.le_of_ble_eq_true rfl, ?_⟩
  show gW (tP sa) lD b E (d + 1) mX6_takeSpare 0 [some (.ref (b + 0)), none] [] T Q
  refine g_aload_n dX6_takeSpare_0 rfl ?_
  obtain ⟨r1, hq_r1, e_r1, h⟩ := h
  refine g_getVZ (o := r1) dX6_takeSpare_1 tF_6_20 lD_0 rfl e_r1 (q_lt hq_r1) ?_
  refine g_callV [.ref (b + r1)] [] dX6_takeSpare_4 tG_6_201 tM_31 (lP_0 hq_r1) rfl rfl rfl rfl (by decide) rfl ?_
  refine gC.mono h (Nat.le_refl _) ?_
  rintro _ T4 ⟨rfl, h⟩
  refine g_aload_n dX6_takeSpare_7 rfl ?_
  obtain ⟨r8, hq_r8, e_r8, h⟩ := h
  refine g_getVZ (o := r8) dX6_takeSpare_8 tF_6_16 lD_0 rfl e_r8 (q_lt hq_r8) ?_
  refine g_astore_n (L' := [some (.ref (b + 0)), some (.ref (b + r8))]) dX6_takeSpare_11 rfl ?_
  refine g_aload_n dX6_takeSpare_12 rfl ?_
  refine g_aload_n dX6_takeSpare_13 rfl ?_
  obtain ⟨r14, hq_r14, e_r14, h⟩ := h
  refine g_getVZ (o := r14) dX6_takeSpare_14 tF_6_20 lD_0 rfl e_r14 (q_lt hq_r14) ?_
  refine g_putV dX6_takeSpare_17 tF_6_16 lD_0 rfl rfl (by first | exact Or.inl ⟨_, rfl⟩ | exact Or.inr ⟨_, rfl⟩) (q_lt2 hq_r14) rfl ?_
  refine g_aload_n dX6_takeSpare_20 rfl ?_
  refine g_aload_n dX6_takeSpare_21 rfl ?_
  refine g_putV dX6_takeSpare_22 tF_6_20 lD_0 rfl rfl (by first | exact Or.inl ⟨_, rfl⟩ | exact Or.inr ⟨_, rfl⟩) (q_lt2 hq_r8) rfl ?_
  refine g_aload_n dX6_takeSpare_25 rfl ?_
  refine g_getR dX6_takeSpare_26 tF_6_33 lD_0 rfl ?_
  refine g_aload_n dX6_takeSpare_29 rfl ?_
  obtain ⟨r30, hq_r30, e_r30, h⟩ := h
  refine g_getVZ (o := r30) dX6_takeSpare_30 tF_6_16 lD_0 rfl e_r30 (q_lt hq_r30) ?_
  refine g_callV [.ref (b + 47), .ref (b + r30)] [] dX6_takeSpare_33 tG_6_204 tM_8 lD_47 rfl rfl rfl rfl (by decide) rfl ?_
  refine gC.mono h (Nat.le_refl _) ?_
  rintro _ T33 ⟨rfl, h⟩
  refine g_aload_n dX6_takeSpare_36 rfl ?_
  refine g_getR dX6_takeSpare_37 tF_6_40 lD_0 rfl ?_
  refine g_callV [.ref (b + 51)] [] dX6_takeSpare_40 tG_6_207 tM_17 lD_51 rfl rfl rfl rfl (by decide) rfl ?_
  refine gC.mono h (Nat.le_refl _) ?_
  rintro _ T40 ⟨rfl, h⟩
  exact g_vret dX6_takeSpare_43 rfl h
def f_X6_isLabel (sa : Nat → Nat) (b : Nat) (E : Nat × mH) (d : Nat) (l1 : Int) (T : gT) (Q : Option Value → gT → Prop) : Prop := (-2147483648 ≤ l1 ∧ l1 < 2147483648) ∧ ((l1 < 0 → Q (some (.int (zI 0))) T) ∧ (¬ l1 < 0 → (∃ r6 : Nat, (r6 = 2 ∨ r6 = 21) ∧ vI T 0 2 = (r6 : Int) ∧ (((vI T r6 0) ≤ l1 → Q (some (.int (zI 0))) T) ∧ (¬ (vI T r6 0) ≤ l1 → Q (some (.int (zI 1))) T)))))
set_option maxRecDepth 4000 in
theorem w_X6_isLabel {sa : Nat → Nat} {b : Nat} {E : Nat × mH} {d : Nat} {l1 : Int} {T : gT} {Q : Option Value → gT → Prop} (h : f_X6_isLabel sa b E d l1 T Q) : gC (tP sa) lD b E d mX6_isLabel [.ref (b + 0), .int (zI l1)] T Q := by
  unfold f_X6_isLabel at h
  refine ⟨Nat.le_of_ble_eq_true rfl, ?_⟩
  show gW (tP sa) lD b E d mX6_isLabel 0 [some (.ref (b + 0)), some (.int (zI l1))] [] T Q
  refine g_iload_n dX6_isLabel_0 rfl ?_
  obtain ⟨a1, h⟩ := h
  refine g_if_ltZ dX6_isLabel_1 rfl a1  (fun c1 => ?_) (fun c1 => ?_)
  · replace h := h.1 c1
    refine g_iconst (v := zI 0) dX6_isLabel_19 (by decide) ?_
    exact g_iret dX6_isLabel_20 rfl rfl h
  · replace h := h.2 c1
    refine g_iload_n dX6_isLabel_4 rfl ?_
    refine g_aload_n dX6_isLabel_5 rfl ?_
    obtain ⟨r6, hq_r6, e_r6, h⟩ := h
    refine g_getVZ (o := r6) dX6_isLabel_6 tF_6_16 lD_0 rfl e_r6 (q_lt hq_r6) ?_
    refine g_getZ (v := vI T r6 0) dX6_isLabel_9 tF_6_74 (lP_0 hq_r6) rfl (zI_v _ _ _) ?_
    refine g_icmp_geZ dX6_isLabel_12 rfl a1 ⟨vI_lo _ _ _, vI_hi _ _ _⟩ (fun c12 => ?_) (fun c12 => ?_)
    · replace h := h.1 c12
      refine g_iconst (v := zI 0) dX6_isLabel_19 (by decide) ?_
      exact g_iret dX6_isLabel_20 rfl rfl h
    · replace h := h.2 c12
      refine g_iconst (v := zI 1) dX6_isLabel_15 (by decide) ?_
      refine g_goto dX6_isLabel_16 rfl ?_
      exact g_iret dX6_isLabel_20 rfl rfl h
def f_X6_isOfKind (sa : Nat → Nat) (b : Nat) (E : Nat × mH) (d : Nat) (l1 : Int) (l2 : Int) (T : gT) (Q : Option Value → gT → Prop) : Prop := gC (tP sa) lD b E d mX6_isLabel [.ref (b + 0), .int (zI l1)] T (fun r T2 => pI r (fun v2 => (-2147483648 ≤ v2 ∧ v2 < 2147483648) ∧ ((v2 = 0 → Q (some (.int (zI 0))) T2) ∧ (¬ v2 = 0 → (∃ r9 : Nat, (r9 = 2 ∨ r9 = 21) ∧ vI T2 0 2 = (r9 : Int) ∧ 0 ≤ l1 ∧ l1 < 200 ∧ (-2147483648 ≤ l2 ∧ l2 < 2147483648) ∧ ((¬ (vI T2 (r9 + 1) l1.toNat) = l2 → Q (some (.int (zI 0))) T2) ∧ ((vI T2 (r9 + 1) l1.toNat) = l2 → Q (some (.int (zI 1))) T2)))))))
set_option maxRecDepth 4000 in
theorem w_X6_isOfKind {sa : Nat → Nat} {b : Nat} {E : Nat × mH} {d : Nat} {l1 : Int} {l2 : Int} {T : gT} {Q : Option Value → gT → Prop} (h : f_X6_isOfKind sa b E d l1 l2 T Q) : gC (tP sa) lD b E (d + 1) mX6_isOfKind [.ref (b + 0), .int (zI l1), .int (zI l2)] T Q := by
  unfold f_X6_isOfKind at h
  refine ⟨Nat.le_of_ble_eq_true rfl, ?_⟩
  show gW (tP sa) lD b E (d + 1) mX6_isOfKind 0 [some (.ref (b + 0)), some (.int (zI l1)), some (.int (zI l2))] [] T Q
  refine g_aload_n dX6_isOfKind_0 rfl ?_
  refine g_iload_n dX6_isOfKind_1 rfl ?_
  refine g_callV [.ref (b + 0), .int (zI l1)] [] dX6_isOfKind_2 tG_6_90 tM_99 lD_0 rfl rfl rfl rfl (by decide) rfl ?_
  refine gC.mono h (Nat.le_refl _) ?_
  rintro _ T2 ⟨v2, rfl, h⟩
  obtain ⟨a1, h⟩ := h
  refine g_if_eqZ dX6_isOfKind_5 rfl a1  (fun c5 => ?_) (fun c5 => ?_)
  · replace h := h.1 c5
    refine g_iconst (v := zI 0) dX6_isOfKind_25 (by decide) ?_
    exact g_iret dX6_isOfKind_26 rfl rfl h
  · replace h := h.2 c5
    refine g_aload_n dX6_isOfKind_8 rfl ?_
    obtain ⟨r9, hq_r9, e_r9, h⟩ := h
    refine g_getVZ (o := r9) dX6_isOfKind_9 tF_6_16 lD_0 rfl e_r9 (q_lt hq_r9) ?_
    refine g_getR dX6_isOfKind_12 tF_6_94 (lP_0 hq_r9) rfl ?_
    refine g_iload_n dX6_isOfKind_15 rfl ?_
    obtain ⟨a2, h⟩ := h
    obtain ⟨a3, h⟩ := h
    refine g_ialdZ (v := vI T2 (r9 + 1) l1.toNat) dX6_isOfKind_16 (lP_1 hq_r9) a2 a3 (by decide) (zI_v T2 (r9 + 1) l1.toNat) ?_
    refine g_iload_n dX6_isOfKind_17 rfl ?_
    obtain ⟨a4, h⟩ := h
    refine g_icmp_neZ dX6_isOfKind_18 rfl ⟨vI_lo _ _ _, vI_hi _ _ _⟩ a4 (fun c18 => ?_) (fun c18 => ?_)
    · replace h := h.1 c18
      refine g_iconst (v := zI 0) dX6_isOfKind_25 (by decide) ?_
      exact g_iret dX6_isOfKind_26 rfl rfl h
    · replace h := h.2 c18
      refine g_iconst (v := zI 1) dX6_isOfKind_21 (by decide) ?_
      refine g_goto dX6_isOfKind_22 rfl ?_
      exact g_iret dX6_isOfKind_26 rfl rfl h
def f_X6_operatorFlow (sa : Nat → Nat) (b : Nat) (E : Nat × mH) (d : Nat) (l1 : Int) (T : gT) (Q : Option Value → gT → Prop) : Prop := (∃ r8 : Nat, (r8 = 2 ∨ r8 = 21) ∧ vI T 0 2 = (r8 : Int) ∧ (-2147483648 ≤ l1 ∧ l1 < 2147483648) ∧ Q (some (.long (aJ T 48 200 (aP T r8 l1 0)))) T)
set_option maxRecDepth 4000 in
theorem w_X6_operatorFlow {sa : Nat → Nat} {b : Nat} {E : Nat × mH} {d : Nat} {l1 : Int} {T : gT} {Q : Option Value → gT → Prop} (h : f_X6_operatorFlow sa b E d l1 T Q) : gC (tP sa) lD b E (d + 1) mX6_operatorFlow [.ref (b + 0), .int (zI l1)] T Q := by
  unfold f_X6_operatorFlow at h
  refine ⟨Nat.le_of_ble_eq_true rfl, ?_⟩
  show gW (tP sa) lD b E (d + 1) mX6_operatorFlow 0 [some (.ref (b + 0)), some (.int (zI l1))] [] T Q
  refine g_aload_n dX6_operatorFlow_0 rfl ?_
  refine g_getR dX6_operatorFlow_1 tF_6_33 lD_0 rfl ?_
  refine g_getR dX6_operatorFlow_4 tF_6_114 lD_47 rfl ?_
  refine g_aload_n dX6_operatorFlow_7 rfl ?_
  obtain ⟨r8, hq_r8, e_r8, h⟩ := h
  refine g_getVZ (o := r8) dX6_operatorFlow_8 tF_6_16 lD_0 rfl e_r8 (q_lt hq_r8) ?_
  refine g_iload_n dX6_operatorFlow_11 rfl ?_
  refine g_iconst (v := zI 0) dX6_operatorFlow_12 (by decide) ?_
  obtain ⟨a1, h⟩ := h
  refine g_callV [.ref (b + r8), .int (zI l1), .int (zI 0)] [.ref (b + 48)] dX6_operatorFlow_13 tG_6_104 tM_39 (lP_0 hq_r8) rfl rfl rfl rfl (by decide) rfl ?_
  refine gC.mono (c_part sa b E _ _ hq_r8 a1 (by decide)) (Nat.le_refl _) ?_
  rintro _ _ ⟨rfl, h9⟩
  obtain rfl := h9.symm
  refine g_callS [.ref (b + 48), .int (zI (aP T r8 l1 0))] [] dX6_operatorFlow_16 tG_6_210 tM_97 rfl rfl rfl rfl (by decide) ?_
  refine gC.mono (c_aJ sa b E _ _ lD_48 (by decide) (aP_rg _ _ _ _)) (Nat.le_refl _) ?_
  rintro _ _ ⟨rfl, h9⟩
  obtain rfl := h9.symm
  exact g_lret dX6_operatorFlow_19 rfl h
def f_X6_isInlinable (sa : Nat → Nat) (b : Nat) (E : Nat × mH) (d : Nat) (l1 : Int) (T : gT) (Q : Option Value → gT → Prop) : Prop := gC (tP sa) lD b E d mX6_onlyFunction [.ref (b + 0), .int (zI l1)] T (fun r T2 => pI r (fun v2 => (-2147483648 ≤ v2 ∧ v2 < 2147483648) ∧ ((v2 = (-1) → Q (some (.int (zI 0))) T2) ∧ (¬ v2 = (-1) → gC (tP sa) lD b E d mX1_reachesBit [.ref (b + 47), .int (zI v2), .int (zI v2)] T2 (fun r T17 => pI r (fun v17 => (-2147483648 ≤ v17 ∧ v17 < 2147483648) ∧ ((¬ v17 = 1 → (∃ r27 : Nat, (r27 = 2 ∨ r27 = 21) ∧ vI T17 0 2 = (r27 : Int) ∧ (∃ r39 : Nat, (r39 = 2 ∨ r39 = 21) ∧ vI T17 0 2 = (r39 : Int) ∧ (∃ r46 : Nat, (r46 = 2 ∨ r46 = 21) ∧ vI T17 0 2 = (r46 : Int) ∧ (-2147483648 ≤ l1 ∧ l1 < 2147483648) ∧ (((aI T17 (r39 + 1) 200 (aP T17 r46 l1 0)) = 0 → gW (tP sa) lD b E (d + 1) mX6_isInlinable 70 [some (.ref (b + 0)), some (.int (zI l1)), some (.int (zI v2)), some (.int (zI (aI T17 (r27 + 7) 50 v2))), some (.int (zI (aI T17 (r39 + 1) 200 (aP T17 r46 l1 0))))] [] T17 Q) ∧ (¬ (aI T17 (r39 + 1) 200 (aP T17 r46 l1 0)) = 0 → ((¬ (aI T17 (r39 + 1) 200 (aP T17 r46 l1 0)) = 2 → Q (some (.int (zI 0))) T17) ∧ ((aI T17 (r39 + 1) 200 (aP T17 r46 l1 0)) = 2 → gW (tP sa) lD b E (d + 1) mX6_isInlinable 70 [some (.ref (b + 0)), some (.int (zI l1)), some (.int (zI v2)), some (.int (zI (aI T17 (r27 + 7) 50 v2))), some (.int (zI (aI T17 (r39 + 1) 200 (aP T17 r46 l1 0))))] [] T17 Q)))))))) ∧ (v17 = 1 → Q (some (.int (zI 0))) T17))))))))
set_option maxRecDepth 4000 in
theorem w_X6_isInlinable {sa : Nat → Nat} {b : Nat} {E : Nat × mH} {d : Nat} {l1 : Int} {T : gT} {Q : Option Value → gT → Prop} (h : f_X6_isInlinable sa b E d l1 T Q) : gC (tP sa) lD b E (d + 1) mX6_isInlinable [.ref (b + 0), .int (zI l1)] T Q := by
  unfold f_X6_isInlinable at h
  refine ⟨Nat.le_of_ble_eq_true rfl, ?_⟩
  show gW (tP sa) lD b E (d + 1) mX6_isInlinable 0 [some (.ref (b + 0)), some (.int (zI l1)), none, none, none] [] T Q
  refine g_aload_n dX6_isInlinable_0 rfl ?_
  refine g_iload_n dX6_isInlinable_1 rfl ?_
  refine g_callV [.ref (b + 0), .int (zI l1)] [] dX6_isInlinable_2 tG_6_147 tM_103 lD_0 rfl rfl rfl rfl (by decide) rfl ?_
  refine gC.mono h (Nat.le_refl _) ?_
  rintro _ T2 ⟨v2, rfl, h⟩
  refine g_istore_n (L' := [some (.ref (b + 0)), some (.int (zI l1)), some (.int (zI v2)), none, none]) dX6_isInlinable_5 rfl ?_
  refine g_iload_n dX6_isInlinable_6 rfl ?_
  refine g_iconst (v := zI (-1)) dX6_isInlinable_7 (by decide) ?_
  obtain ⟨a1, h⟩ := h
  refine g_icmp_eqZ dX6_isInlinable_8 rfl a1 (by decide) (fun c8 => ?_) (fun c8 => ?_)
  · replace h := h.1 c8
    refine g_iconst (v := zI 0) dX6_isInlinable_24 (by decide) ?_
    exact g_iret dX6_isInlinable_25 rfl rfl h
  · replace h := h.2 c8
    refine g_aload_n dX6_isInlinable_11 rfl ?_
    refine g_getR dX6_isInlinable_12 tF_6_33 lD_0 rfl ?_
    refine g_iload_n dX6_isInlinable_15 rfl ?_
    refine g_iload_n dX6_isInlinable_16 rfl ?_
    refine g_callV [.ref (b + 47), .int (zI v2), .int (zI v2)] [] dX6_isInlinable_17 tG_6_140 tM_9 lD_47 rfl rfl rfl rfl (by decide) rfl ?_
    refine gC.mono h (Nat.le_refl _) ?_
    rintro _ T17 ⟨v17, rfl, h⟩
    refine g_iconst (v := zI 1) dX6_isInlinable_20 (by decide) ?_
    obtain ⟨a2, h⟩ := h
    refine g_icmp_neZ dX6_isInlinable_21 rfl a2 (by decide) (fun c21 => ?_) (fun c21 => ?_)
    · replace h := h.1 c21
      refine g_aload_n dX6_isInlinable_26 rfl ?_
      obtain ⟨r27, hq_r27, e_r27, h⟩ := h
      refine g_getVZ (o := r27) dX6_isInlinable_27 tF_6_16 lD_0 rfl e_r27 (q_lt hq_r27) ?_
      refine g_getR dX6_isInlinable_30 tF_6_124 (lP_0 hq_r27) rfl ?_
      refine g_iload_n dX6_isInlinable_33 rfl ?_
      refine g_callS [.ref (b + (r27 + 7)), .int (zI v2)] [] dX6_isInlinable_34 tG_6_127 tM_96 rfl rfl rfl rfl (by decide) ?_
      refine gC.mono (c_aI sa b E _ _ (lP_7 hq_r27) (by decide) a1) (Nat.le_refl _) ?_
      rintro _ _ ⟨rfl, h9⟩
      obtain rfl := h9.symm
      refine g_istore_n (L' := [some (.ref (b + 0)), some (.int (zI l1)), some (.int (zI v2)), some (.int (zI (aI T17 (r27 + 7) 50 v2))), none]) dX6_isInlinable_37 rfl ?_
      refine g_aload_n dX6_isInlinable_38 rfl ?_
      obtain ⟨r39, hq_r39, e_r39, h⟩ := h
      refine g_getVZ (o := r39) dX6_isInlinable_39 tF_6_16 lD_0 rfl e_r39 (q_lt hq_r39) ?_
      refine g_getR dX6_isInlinable_42 tF_6_94 (lP_0 hq_r39) rfl ?_
      refine g_aload_n dX6_isInlinable_45 rfl ?_
      obtain ⟨r46, hq_r46, e_r46, h⟩ := h
      refine g_getVZ (o := r46) dX6_isInlinable_46 tF_6_16 lD_0 rfl e_r46 (q_lt hq_r46) ?_
      refine g_iload_n dX6_isInlinable_49 rfl ?_
      refine g_iconst (v := zI 0) dX6_isInlinable_50 (by decide) ?_
      obtain ⟨a3, h⟩ := h
      refine g_callV [.ref (b + r46), .int (zI l1), .int (zI 0)] [.ref (b + (r39 + 1))] dX6_isInlinable_51 tG_6_104 tM_39 (lP_0 hq_r46) rfl rfl rfl rfl (by decide) rfl ?_
      refine gC.mono (c_part sa b E _ _ hq_r46 a3 (by decide)) (Nat.le_refl _) ?_
      rintro _ _ ⟨rfl, h9⟩
      obtain rfl := h9.symm
      refine g_callS [.ref (b + (r39 + 1)), .int (zI (aP T17 r46 l1 0))] [] dX6_isInlinable_54 tG_6_127 tM_96 rfl rfl rfl rfl (by decide) ?_
      refine gC.mono (c_aI sa b E _ _ (lP_1 hq_r39) (by decide) (aP_rg _ _ _ _)) (Nat.le_refl _) ?_
      rintro _ _ ⟨rfl, h9⟩
      obtain rfl := h9.symm
      refine g_istore (L' := [some (.ref (b + 0)), some (.int (zI l1)), some (.int (zI v2)), some (.int (zI (aI T17 (r27 + 7) 50 v2))), some (.int (zI (aI T17 (r39 + 1) 200 (aP T17 r46 l1 0))))]) dX6_isInlinable_57 rfl ?_
      refine g_iload dX6_isInlinable_59 rfl ?_
      refine g_if_eqZ dX6_isInlinable_61 rfl (aI_rg _ _ _ _)  (fun c61 => ?_) (fun c61 => ?_)
      · replace h := h.1 c61
        exact h
      · replace h := h.2 c61
        refine g_iload dX6_isInlinable_64 rfl ?_
        refine g_iconst (v := zI 2) dX6_isInlinable_66 (by decide) ?_
        refine g_icmp_neZ dX6_isInlinable_67 rfl (aI_rg _ _ _ _) (by decide) (fun c67 => ?_) (fun c67 => ?_)
        · replace h := h.1 c67
          refine g_iconst (v := zI 0) dX6_isInlinable_103 (by decide) ?_
          exact g_iret dX6_isInlinable_104 rfl rfl h
        · replace h := h.2 c67
          exact h
    · replace h := h.2 c21
      refine g_iconst (v := zI 0) dX6_isInlinable_24 (by decide) ?_
      exact g_iret dX6_isInlinable_25 rfl rfl h
def f_X6_isInlinable_70 (sa : Nat → Nat) (b : Nat) (E : Nat × mH) (d : Nat) (l1 : Int) (l2 : Int) (l3 : Int) (l4 : Int) (T : gT) (Q : Option Value → gT → Prop) : Prop := (∃ r71 : Nat, (r71 = 2 ∨ r71 = 21) ∧ vI T 0 2 = (r71 : Int) ∧ (-2147483648 ≤ l3 ∧ l3 < 2147483648) ∧ ((¬ (aI T (r71 + 1) 200 l3) = 2 → Q (some (.int (zI 0))) T) ∧ ((aI T (r71 + 1) 200 l3) = 2 → (∃ r86 : Nat, (r86 = 2 ∨ r86 = 21) ∧ vI T 0 2 = (r86 : Int) ∧ (-2147483648 ≤ l2 ∧ l2 < 2147483648) ∧ ((¬ (aI T (r86 + 10) 50 l2) = 0 → Q (some (.int (zI 0))) T) ∧ ((aI T (r86 + 10) 50 l2) = 0 → Q (some (.int (zI 1))) T))))))
set_option maxRecDepth 4000 in
theorem w_X6_isInlinable_70 {sa : Nat → Nat} {b : Nat} {E : Nat × mH} {d : Nat} {l1 : Int} {l2 : Int} {l3 : Int} {l4 : Int} {T : gT} {Q : Option Value → gT → Prop} (h : f_X6_isInlinable_70 sa b E d l1 l2 l3 l4 T Q) : gW (tP sa) lD b E (d + 1) mX6_isInlinable 70 [some (.ref (b + 0)), some (.int (zI l1)), some (.int (zI l2)), some (.int (zI l3)), some (.int (zI l4))] [] T Q := by
  unfold f_X6_isInlinable_70 at h
  refine g_aload_n dX6_isInlinable_70 rfl ?_
  obtain ⟨r71, hq_r71, e_r71, h⟩ := h
  refine g_getVZ (o := r71) dX6_isInlinable_71 tF_6_16 lD_0 rfl e_r71 (q_lt hq_r71) ?_
  refine g_getR dX6_isInlinable_74 tF_6_94 (lP_0 hq_r71) rfl ?_
  refine g_iload_n dX6_isInlinable_77 rfl ?_
  obtain ⟨a1, h⟩ := h
  refine g_callS [.ref (b + (r71 + 1)), .int (zI l3)] [] dX6_isInlinable_78 tG_6_127 tM_96 rfl rfl rfl rfl (by decide) ?_
  refine gC.mono (c_aI sa b E _ _ (lP_1 hq_r71) (by decide) a1) (Nat.le_refl _) ?_
  rintro _ _ ⟨rfl, h9⟩
  obtain rfl := h9.symm
  refine g_iconst (v := zI 2) dX6_isInlinable_81 (by decide) ?_
  refine g_icmp_neZ dX6_isInlinable_82 rfl (aI_rg _ _ _ _) (by decide) (fun c82 => ?_) (fun c82 => ?_)
  · replace h := h.1 c82
    refine g_iconst (v := zI 0) dX6_isInlinable_103 (by decide) ?_
    exact g_iret dX6_isInlinable_104 rfl rfl h
  · replace h := h.2 c82
    refine g_aload_n dX6_isInlinable_85 rfl ?_
    obtain ⟨r86, hq_r86, e_r86, h⟩ := h
    refine g_getVZ (o := r86) dX6_isInlinable_86 tF_6_16 lD_0 rfl e_r86 (q_lt hq_r86) ?_
    refine g_getR dX6_isInlinable_89 tF_6_134 (lP_0 hq_r86) rfl ?_
    refine g_iload_n dX6_isInlinable_92 rfl ?_
    obtain ⟨a2, h⟩ := h
    refine g_callS [.ref (b + (r86 + 10)), .int (zI l2)] [] dX6_isInlinable_93 tG_6_127 tM_96 rfl rfl rfl rfl (by decide) ?_
    refine gC.mono (c_aI sa b E _ _ (lP_10 hq_r86) (by decide) a2) (Nat.le_refl _) ?_
    rintro _ _ ⟨rfl, h9⟩
    obtain rfl := h9.symm
    refine g_if_neZ dX6_isInlinable_96 rfl (aI_rg _ _ _ _)  (fun c96 => ?_) (fun c96 => ?_)
    · replace h := h.1 c96
      refine g_iconst (v := zI 0) dX6_isInlinable_103 (by decide) ?_
      exact g_iret dX6_isInlinable_104 rfl rfl h
    · replace h := h.2 c96
      refine g_iconst (v := zI 1) dX6_isInlinable_99 (by decide) ?_
      refine g_goto dX6_isInlinable_100 rfl ?_
      exact g_iret dX6_isInlinable_104 rfl rfl h
