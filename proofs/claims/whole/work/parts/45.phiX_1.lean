/-! THE CLASS: its blocks, 1 (printed by wip/whole/phi6.py) -/
def f_X0_bind (sa : Nat → Nat) (b : Nat) (E : Nat × mH) (d : Nat) (l1 : Int) (l2 : Int) (l3 : Int64) (l5 : Int) (T : gT) (Q : Option Value → gT → Prop) : Prop := (((vI T 53 4) < 1000 → 0 ≤ vI T 53 4 ∧ vI T 53 4 < 1000 ∧ Q (some (.int (zI (((vI T 53 4) + 1) - 1)))) (gI (gI (gJ (gI (gI T 54 (vI T 53 4).toNat (zI l1)) 55 (vI T 53 4).toNat (zI l2)) 56 (vI T 53 4).toNat l3) 57 (vI T 53 4).toNat (zI l5)) 53 4 (zI ((vI T 53 4) + 1)))) ∧ (¬ (vI T 53 4) < 1000 → Q (some (.int (zI (-1)))) T))
set_option maxRecDepth 4000 in
theorem w_X0_bind {sa : Nat → Nat} {b : Nat} {E : Nat × mH} {d : Nat} {l1 : Int} {l2 : Int} {l3 : Int64} {l5 : Int} {T : gT} {Q : Option Value → gT → Prop} (h : f_X0_bind sa b E d l1 l2 l3 l5 T Q) : gC (tP sa) lD b E d mX0_bind [.ref (b + 53), .int (zI l1), .int (zI l2), .long l3, .int (zI l5)] T Q := by
  unfold f_X0_bind at h
  refine ⟨Nat.le_of_ble_eq_true rfl, ?_⟩
  show gW (tP sa) lD b E d mX0_bind 0 [some (.ref (b + 53)), some (.int (zI l1)), some (.int (zI l2)), some (.long l3), none, some (.int (zI l5))] [] T Q
  refine g_aload_n dX0_bind_0 rfl ?_
  refine g_getZ (v := vI T 53 4) dX0_bind_1 tF_0_25 lD_53 rfl (zI_v T 53 4) ?_
  refine g_sipush (v := zI 1000) dX0_bind_4 (by decide) ?_
  refine g_icmp_ltZ dX0_bind_7 rfl ⟨vI_lo _ _ _, vI_hi _ _ _⟩ (by decide) (fun c7 => ?_) (fun c7 => ?_)
  · replace h := h.1 c7
    refine g_aload_n dX0_bind_12 rfl ?_
    refine g_getR dX0_bind_13 tF_0_11 lD_53 rfl ?_
    refine g_aload_n dX0_bind_16 rfl ?_
    refine g_getZ (v := vI T 53 4) dX0_bind_17 tF_0_25 lD_53 rfl (zI_v T 53 4) ?_
    refine g_iload_n dX0_bind_20 rfl ?_
    obtain ⟨a1, h⟩ := h
    obtain ⟨a2, h⟩ := h
    refine g_iastZ dX0_bind_21 lD_54 a1 a2 (by decide) ?_
    refine g_aload_n dX0_bind_22 rfl ?_
    refine g_getR dX0_bind_23 tF_0_15 lD_53 rfl ?_
    refine g_aload_n dX0_bind_26 rfl ?_
    refine g_getZ (v := vI T 53 4) dX0_bind_27 tF_0_25 lD_53 rfl (zI_v T 53 4) ?_
    refine g_iload_n dX0_bind_30 rfl ?_
    refine g_iastZ dX0_bind_31 lD_55 a1 a2 (by decide) ?_
    refine g_aload_n dX0_bind_32 rfl ?_
    refine g_getR dX0_bind_33 tF_0_18 lD_53 rfl ?_
    refine g_aload_n dX0_bind_36 rfl ?_
    refine g_getZ (v := vI T 53 4) dX0_bind_37 tF_0_25 lD_53 rfl (zI_v T 53 4) ?_
    refine g_lload_n dX0_bind_40 rfl ?_
    refine g_lastZ dX0_bind_41 lD_56 a1 a2 (by decide) ?_
    refine g_aload_n dX0_bind_42 rfl ?_
    refine g_getR dX0_bind_43 tF_0_22 lD_53 rfl ?_
    refine g_aload_n dX0_bind_46 rfl ?_
    refine g_getZ (v := vI T 53 4) dX0_bind_47 tF_0_25 lD_53 rfl (zI_v T 53 4) ?_
    refine g_iload dX0_bind_50 rfl ?_
    refine g_iastZ dX0_bind_52 lD_57 a1 a2 (by decide) ?_
    refine g_aload_n dX0_bind_53 rfl ?_
    refine g_dup dX0_bind_54 rfl ?_
    refine g_getZ (v := vI T 53 4) dX0_bind_55 tF_0_25 lD_53 rfl (zI_v T 53 4) ?_
    refine g_iconst (v := zI 1) dX0_bind_58 (by decide) ?_
    refine g_iaddZ dX0_bind_59 ?_
    refine g_putI dX0_bind_60 tF_0_25 lD_53 rfl rfl ⟨rfl, rfl⟩ rfl ?_
    refine g_aload_n dX0_bind_63 rfl ?_
    refine g_getZ (v := (vI T 53 4) + 1) dX0_bind_64 tF_0_25 lD_53 rfl rfl ?_
    refine g_iconst (v := zI 1) dX0_bind_67 (by decide) ?_
    refine g_isubZ dX0_bind_68 ?_
    exact g_iret dX0_bind_69 rfl rfl h
  · replace h := h.2 c7
    refine g_iconst (v := zI (-1)) dX0_bind_10 (by decide) ?_
    exact g_iret dX0_bind_11 rfl rfl h
def f_X1_pour (sa : Nat → Nat) (b : Nat) (E : Nat × mH) (d : Nat) (l1 : Nat) (l2 : Int) (T : gT) (Q : Option Value → gT → Prop) : Prop := (-2147483648 ≤ l2 ∧ l2 < 2147483648) ∧ (((aI T (l1 + 1) 200 l2) = 0 → gC (tP sa) lD b E d mX1_intoExpr [.ref (b + 47), .int (zI l2), .long (aJ T 49 100 (aI T (l1 + 2) 200 l2))] T (fun r T90 => pV r (Q none T90))) ∧ ((aI T (l1 + 1) 200 l2) = 2 → gC (tP sa) lD b E d mX1_intoExpr [.ref (b + 47), .int (zI l2), .long (1 <<< ((zI (aI T (l1 + 5) 200 l2)).toInt64 &&& 63))] T (fun r T108 => pV r (Q none T108))) ∧ ((aI T (l1 + 1) 200 l2) = 3 → gC (tP sa) lD b E d mX1_intoExpr [.ref (b + 47), .int (zI l2), .long (1 <<< ((zI (aI T (l1 + 5) 200 l2)).toInt64 &&& 63))] T (fun r T126 => pV r (gC (tP sa) lD b E d mX1_intoVariable [.ref (b + 47), .int (zI (aI T126 (l1 + 3) 200 l2)), .long (1 <<< ((zI (aI T126 (l1 + 5) 200 l2)).toInt64 &&& 63))] T126 (fun r T148 => pV r (Q none T148))))) ∧ ((aI T (l1 + 1) 200 l2) = 4 → gC (tP sa) lD b E d mX1_ofPart [.ref (b + 47), .ref (b + l1), .int (zI l2), .int (zI 1)] T (fun r T160 => pJ r (fun v160 => gC (tP sa) lD b E d mX1_ofPart [.ref (b + 47), .ref (b + l1), .int (zI l2), .int (zI 2)] T160 (fun r T167 => pJ r (fun v167 => gC (tP sa) lD b E d mX1_intoExpr [.ref (b + 47), .int (zI l2), .long (v160 ||| v167)] T167 (fun r T171 => pV r (Q none T171))))))) ∧ ((aI T (l1 + 1) 200 l2) = 5 → gC (tP sa) lD b E d mX1_ofPart [.ref (b + 47), .ref (b + l1), .int (zI l2), .int (zI 0)] T (fun r T183 => pJ r (fun v183 => gC (tP sa) lD b E d mX1_intoVariable [.ref (b + 47), .int (zI (aI T (l1 + 2) 200 l2)), .long v183] T183 (fun r T186 => pV r (gC (tP sa) lD b E d mX1_ofPart [.ref (b + 47), .ref (b + l1), .int (zI l2), .int (zI 1)] T186 (fun r T195 => pJ r (fun v195 => gC (tP sa) lD b E d mX1_intoExpr [.ref (b + 47), .int (zI l2), .long v195] T195 (fun r T198 => pV r (Q none T198))))))))) ∧ ((aI T (l1 + 1) 200 l2) = 11 → gC (tP sa) lD b E d mX1_pourCall [.ref (b + 47), .ref (b + l1), .int (zI l2)] T (fun r T207 => pV r (Q none T207))) ∧ ((¬ (aI T (l1 + 1) 200 l2) = 0 ∧ ¬ (aI T (l1 + 1) 200 l2) = 2 ∧ ¬ (aI T (l1 + 1) 200 l2) = 3 ∧ ¬ (aI T (l1 + 1) 200 l2) = 4 ∧ ¬ (aI T (l1 + 1) 200 l2) = 5 ∧ ¬ (aI T (l1 + 1) 200 l2) = 11) → Q none T))
set_option maxRecDepth 4000 in
theorem w_X1_pour {sa : Nat → Nat} {b : Nat} {E : Nat × mH} {d : Nat} {l1 : Nat} {l2 : Int} {T : gT} {Q : Option Value → gT → Prop} (hq_l1 : l1 = 2 ∨ l1 = 21) (h : f_X1_pour sa b E d l1 l2 T Q) : gC (tP sa) lD b E (d + 1) mX1_pour [.ref (b + 47), .ref (b + l1), .int (zI l2)] T Q := by
  unfold f_X1_pour at h
  refine ⟨Nat.le_of_ble_eq_true rfl, ?_⟩
  show gW (tP sa) lD b E (d + 1) mX1_pour 0 [some (.ref (b + 47)), some (.ref (b + l1)), some (.int (zI l2)), none] [] T Q
  refine g_aload_n dX1_pour_0 rfl ?_
  refine g_getR dX1_pour_1 tF_1_43 (lP_0 hq_l1) rfl ?_
  refine g_iload_n dX1_pour_4 rfl ?_
  obtain ⟨a1, h⟩ := h
  refine g_callS [.ref (b + (l1 + 2)), .int (zI l2)] [] dX1_pour_5 tG_1_47 tM_96 rfl rfl rfl rfl (by decide) ?_
  refine gC.mono (c_aI sa b E _ _ (lP_2 hq_l1) (by decide) a1) (Nat.le_refl _) ?_
  rintro _ _ ⟨rfl, h9⟩
  obtain rfl := h9.symm
  refine g_istore_n (L' := [some (.ref (b + 47)), some (.ref (b + l1)), some (.int (zI l2)), some (.int (zI (aI T (l1 + 2) 200 l2)))]) dX1_pour_8 rfl ?_
  refine g_aload_n dX1_pour_9 rfl ?_
  refine g_getR dX1_pour_10 tF_1_51 (lP_0 hq_l1) rfl ?_
  refine g_iload_n dX1_pour_13 rfl ?_
  refine g_callS [.ref (b + (l1 + 1)), .int (zI l2)] [] dX1_pour_14 tG_1_47 tM_96 rfl rfl rfl rfl (by decide) ?_
  refine gC.mono (c_aI sa b E _ _ (lP_1 hq_l1) (by decide) a1) (Nat.le_refl _) ?_
  rintro _ _ ⟨rfl, h9⟩
  obtain rfl := h9.symm
  by_cases c9 : (aI T (l1 + 1) 200 l2) = 0
  · replace h := h.1 c9
    refine g_tabC (c := 0) (off := 63) dX1_pour_17 (aI_rg _ _ _ _) c9 (by decide) rfl rfl ?_
    refine g_aload_n dX1_pour_80 rfl ?_
    refine g_iload_n dX1_pour_81 rfl ?_
    refine g_aload_n dX1_pour_82 rfl ?_
    refine g_getR dX1_pour_83 tF_1_15 lD_47 rfl ?_
    refine g_iload_n dX1_pour_86 rfl ?_
    refine g_callS [.ref (b + 49), .int (zI (aI T (l1 + 2) 200 l2))] [.int (zI l2), .ref (b + 47)] dX1_pour_87 tG_1_39 tM_97 rfl rfl rfl rfl (by decide) ?_
    refine gC.mono (c_aJ sa b E _ _ lD_49 (by decide) (aI_rg _ _ _ _)) (Nat.le_refl _) ?_
    rintro _ _ ⟨rfl, h9⟩
    obtain rfl := h9.symm
    refine g_callV [.ref (b + 47), .int (zI l2), .long (aJ T 49 100 (aI T (l1 + 2) 200 l2))] [] dX1_pour_90 tG_1_54 tM_13 lD_47 rfl rfl rfl rfl (by decide) rfl ?_
    refine gC.mono h (Nat.le_refl _) ?_
    rintro _ T90 ⟨rfl, h⟩
    refine g_goto dX1_pour_93 rfl ?_
    exact g_vret dX1_pour_213 rfl h
  have n0_17 := c9
  by_cases c9 : (aI T (l1 + 1) 200 l2) = 2
  · replace h := h.2.1 c9
    refine g_tabC (c := 2) (off := 79) dX1_pour_17 (aI_rg _ _ _ _) c9 (by decide) rfl rfl ?_
    refine g_aload_n dX1_pour_96 rfl ?_
    refine g_iload_n dX1_pour_97 rfl ?_
    refine g_lconst (v := 1) dX1_pour_98 (by decide) ?_
    refine g_aload_n dX1_pour_99 rfl ?_
    refine g_getR dX1_pour_100 tF_1_58 (lP_0 hq_l1) rfl ?_
    refine g_iload_n dX1_pour_103 rfl ?_
    refine g_callS [.ref (b + (l1 + 5)), .int (zI l2)] [.long 1, .int (zI l2), .ref (b + 47)] dX1_pour_104 tG_1_47 tM_96 rfl rfl rfl rfl (by decide) ?_
    refine gC.mono (c_aI sa b E _ _ (lP_5 hq_l1) (by decide) a1) (Nat.le_refl _) ?_
    rintro _ _ ⟨rfl, h9⟩
    obtain rfl := h9.symm
    refine g_lshl dX1_pour_107 ?_
    refine g_callV [.ref (b + 47), .int (zI l2), .long (1 <<< ((zI (aI T (l1 + 5) 200 l2)).toInt64 &&& 63))] [] dX1_pour_108 tG_1_54 tM_13 lD_47 rfl rfl rfl rfl (by decide) rfl ?_
    refine gC.mono h (Nat.le_refl _) ?_
    rintro _ T108 ⟨rfl, h⟩
    refine g_goto dX1_pour_111 rfl ?_
    exact g_vret dX1_pour_213 rfl h
  have n1_17 := c9
  by_cases c9 : (aI T (l1 + 1) 200 l2) = 3
  · replace h := h.2.2.1 c9
    refine g_tabC (c := 3) (off := 97) dX1_pour_17 (aI_rg _ _ _ _) c9 (by decide) rfl rfl ?_
    refine g_aload_n dX1_pour_114 rfl ?_
    refine g_iload_n dX1_pour_115 rfl ?_
    refine g_lconst (v := 1) dX1_pour_116 (by decide) ?_
    refine g_aload_n dX1_pour_117 rfl ?_
    refine g_getR dX1_pour_118 tF_1_58 (lP_0 hq_l1) rfl ?_
    refine g_iload_n dX1_pour_121 rfl ?_
    refine g_callS [.ref (b + (l1 + 5)), .int (zI l2)] [.long 1, .int (zI l2), .ref (b + 47)] dX1_pour_122 tG_1_47 tM_96 rfl rfl rfl rfl (by decide) ?_
    refine gC.mono (c_aI sa b E _ _ (lP_5 hq_l1) (by decide) a1) (Nat.le_refl _) ?_
    rintro _ _ ⟨rfl, h9⟩
    obtain rfl := h9.symm
    refine g_lshl dX1_pour_125 ?_
    refine g_callV [.ref (b + 47), .int (zI l2), .long (1 <<< ((zI (aI T (l1 + 5) 200 l2)).toInt64 &&& 63))] [] dX1_pour_126 tG_1_54 tM_13 lD_47 rfl rfl rfl rfl (by decide) rfl ?_
    refine gC.mono h (Nat.le_refl _) ?_
    rintro _ T126 ⟨rfl, h⟩
    refine g_aload_n dX1_pour_129 rfl ?_
    refine g_aload_n dX1_pour_130 rfl ?_
    refine g_getR dX1_pour_131 tF_1_61 (lP_0 hq_l1) rfl ?_
    refine g_iload_n dX1_pour_134 rfl ?_
    refine g_callS [.ref (b + (l1 + 3)), .int (zI l2)] [.ref (b + 47)] dX1_pour_135 tG_1_47 tM_96 rfl rfl rfl rfl (by decide) ?_
    refine gC.mono (c_aI sa b E _ _ (lP_3 hq_l1) (by decide) a1) (Nat.le_refl _) ?_
    rintro _ _ ⟨rfl, h9⟩
    obtain rfl := h9.symm
    refine g_lconst (v := 1) dX1_pour_138 (by decide) ?_
    refine g_aload_n dX1_pour_139 rfl ?_
    refine g_getR dX1_pour_140 tF_1_58 (lP_0 hq_l1) rfl ?_
    refine g_iload_n dX1_pour_143 rfl ?_
    refine g_callS [.ref (b + (l1 + 5)), .int (zI l2)] [.long 1, .int (zI (aI T126 (l1 + 3) 200 l2)), .ref (b + 47)] dX1_pour_144 tG_1_47 tM_96 rfl rfl rfl rfl (by decide) ?_
    refine gC.mono (c_aI sa b E _ _ (lP_5 hq_l1) (by decide) a1) (Nat.le_refl _) ?_
    rintro _ _ ⟨rfl, h9⟩
    obtain rfl := h9.symm
    refine g_lshl dX1_pour_147 ?_
    refine g_callV [.ref (b + 47), .int (zI (aI T126 (l1 + 3) 200 l2)), .long (1 <<< ((zI (aI T126 (l1 + 5) 200 l2)).toInt64 &&& 63))] [] dX1_pour_148 tG_1_64 tM_14 lD_47 rfl rfl rfl rfl (by decide) rfl ?_
    refine gC.mono h (Nat.le_refl _) ?_
    rintro _ T148 ⟨rfl, h⟩
    refine g_goto dX1_pour_151 rfl ?_
    exact g_vret dX1_pour_213 rfl h
  have n2_17 := c9
  by_cases c9 : (aI T (l1 + 1) 200 l2) = 4
  · replace h := h.2.2.2.1 c9
    refine g_tabC (c := 4) (off := 137) dX1_pour_17 (aI_rg _ _ _ _) c9 (by decide) rfl rfl ?_
    refine g_aload_n dX1_pour_154 rfl ?_
    refine g_iload_n dX1_pour_155 rfl ?_
    refine g_aload_n dX1_pour_156 rfl ?_
    refine g_aload_n dX1_pour_157 rfl ?_
    refine g_iload_n dX1_pour_158 rfl ?_
    refine g_iconst (v := zI 1) dX1_pour_159 (by decide) ?_
    refine g_callV [.ref (b + 47), .ref (b + l1), .int (zI l2), .int (zI 1)] [.int (zI l2), .ref (b + 47)] dX1_pour_160 tG_1_67 tM_12 lD_47 rfl rfl rfl rfl (by decide) rfl ?_
    refine gC.mono h (Nat.le_refl _) ?_
    rintro _ T160 ⟨v160, rfl, h⟩
    refine g_aload_n dX1_pour_163 rfl ?_
    refine g_aload_n dX1_pour_164 rfl ?_
    refine g_iload_n dX1_pour_165 rfl ?_
    refine g_iconst (v := zI 2) dX1_pour_166 (by decide) ?_
    refine g_callV [.ref (b + 47), .ref (b + l1), .int (zI l2), .int (zI 2)] [.long v160, .int (zI l2), .ref (b + 47)] dX1_pour_167 tG_1_67 tM_12 lD_47 rfl rfl rfl rfl (by decide) rfl ?_
    refine gC.mono h (Nat.le_refl _) ?_
    rintro _ T167 ⟨v167, rfl, h⟩
    refine g_lor dX1_pour_170 ?_
    refine g_callV [.ref (b + 47), .int (zI l2), .long (v160 ||| v167)] [] dX1_pour_171 tG_1_54 tM_13 lD_47 rfl rfl rfl rfl (by decide) rfl ?_
    refine gC.mono h (Nat.le_refl _) ?_
    rintro _ T171 ⟨rfl, h⟩
    refine g_goto dX1_pour_174 rfl ?_
    exact g_vret dX1_pour_213 rfl h
  have n3_17 := c9
  by_cases c9 : (aI T (l1 + 1) 200 l2) = 5
  · replace h := h.2.2.2.2.1 c9
    refine g_tabC (c := 5) (off := 160) dX1_pour_17 (aI_rg _ _ _ _) c9 (by decide) rfl rfl ?_
    refine g_aload_n dX1_pour_177 rfl ?_
    refine g_iload_n dX1_pour_178 rfl ?_
    refine g_aload_n dX1_pour_179 rfl ?_
    refine g_aload_n dX1_pour_180 rfl ?_
    refine g_iload_n dX1_pour_181 rfl ?_
    refine g_iconst (v := zI 0) dX1_pour_182 (by decide) ?_
    refine g_callV [.ref (b + 47), .ref (b + l1), .int (zI l2), .int (zI 0)] [.int (zI (aI T (l1 + 2) 200 l2)), .ref (b + 47)] dX1_pour_183 tG_1_67 tM_12 lD_47 rfl rfl rfl rfl (by decide) rfl ?_
    refine gC.mono h (Nat.le_refl _) ?_
    rintro _ T183 ⟨v183, rfl, h⟩
    refine g_callV [.ref (b + 47), .int (zI (aI T (l1 + 2) 200 l2)), .long v183] [] dX1_pour_186 tG_1_64 tM_14 lD_47 rfl rfl rfl rfl (by decide) rfl ?_
    refine gC.mono h (Nat.le_refl _) ?_
    rintro _ T186 ⟨rfl, h⟩
    refine g_aload_n dX1_pour_189 rfl ?_
    refine g_iload_n dX1_pour_190 rfl ?_
    refine g_aload_n dX1_pour_191 rfl ?_
    refine g_aload_n dX1_pour_192 rfl ?_
    refine g_iload_n dX1_pour_193 rfl ?_
    refine g_iconst (v := zI 1) dX1_pour_194 (by decide) ?_
    refine g_callV [.ref (b + 47), .ref (b + l1), .int (zI l2), .int (zI 1)] [.int (zI l2), .ref (b + 47)] dX1_pour_195 tG_1_67 tM_12 lD_47 rfl rfl rfl rfl (by decide) rfl ?_
    refine gC.mono h (Nat.le_refl _) ?_
    rintro _ T195 ⟨v195, rfl, h⟩
    refine g_callV [.ref (b + 47), .int (zI l2), .long v195] [] dX1_pour_198 tG_1_54 tM_13 lD_47 rfl rfl rfl rfl (by decide) rfl ?_
    refine gC.mono h (Nat.le_refl _) ?_
    rintro _ T198 ⟨rfl, h⟩
    refine g_goto dX1_pour_201 rfl ?_
    exact g_vret dX1_pour_213 rfl h
  have n4_17 := c9
  by_cases c9 : (aI T (l1 + 1) 200 l2) = 11
  · replace h := h.2.2.2.2.2.1 c9
    refine g_tabC (c := 11) (off := 187) dX1_pour_17 (aI_rg _ _ _ _) c9 (by decide) rfl rfl ?_
    refine g_aload_n dX1_pour_204 rfl ?_
    refine g_aload_n dX1_pour_205 rfl ?_
    refine g_iload_n dX1_pour_206 rfl ?_
    refine g_callV [.ref (b + 47), .ref (b + l1), .int (zI l2)] [] dX1_pour_207 tG_1_71 tM_11 lD_47 rfl rfl rfl rfl (by decide) rfl ?_
    refine gC.mono h (Nat.le_refl _) ?_
    rintro _ T207 ⟨rfl, h⟩
    refine g_goto dX1_pour_210 rfl ?_
    exact g_vret dX1_pour_213 rfl h
  have n5_17 := c9
  replace h := h.2.2.2.2.2.2 ⟨n0_17, n1_17, n2_17, n3_17, n4_17, n5_17⟩
  have o7 : ¬ ((aI T (l1 + 1) 200 l2) < 0 ∨ 11 < (aI T (l1 + 1) 200 l2)) → (#[63, 196, 79, 97, 137, 160, 196, 196, 196, 196, 196, 187] : Array Int)[((aI T (l1 + 1) 200 l2) - 0).toNat]? = some 196 := by
    intro o9
    have o8 : (aI T (l1 + 1) 200 l2) = 1 ∨ (aI T (l1 + 1) 200 l2) = 6 ∨ (aI T (l1 + 1) 200 l2) = 7 ∨ (aI T (l1 + 1) 200 l2) = 8 ∨ (aI T (l1 + 1) 200 l2) = 9 ∨ (aI T (l1 + 1) 200 l2) = 10 := by omega
    rcases o8 with o8 | o8 | o8 | o8 | o8 | o8 <;> rw [o8] <;> rfl
  refine g_tabD dX1_pour_17 (aI_rg _ _ _ _) o7 rfl ?_
  exact g_vret dX1_pour_213 rfl h
def f_X2_forget (sa : Nat → Nat) (b : Nat) (E : Nat × mH) (d : Nat) (T : gT) (Q : Option Value → gT → Prop) : Prop := gW (tP sa) lD b E d mX2_forget 12 [some (.ref (b + 51)), some (.int (zI 0))] [] (gJ (gI T 51 0 (zI 0)) 51 2 0) Q
set_option maxRecDepth 4000 in
theorem w_X2_forget {sa : Nat → Nat} {b : Nat} {E : Nat × mH} {d : Nat} {T : gT} {Q : Option Value → gT → Prop} (h : f_X2_forget sa b E d T Q) : gC (tP sa) lD b E d mX2_forget [.ref (b + 51)] T Q := by
  unfold f_X2_forget at h
  refine ⟨Nat.le_of_ble_eq_true rfl, ?_⟩
  show gW (tP sa) lD b E d mX2_forget 0 [some (.ref (b + 51)), none] [] T Q
  refine g_aload_n dX2_forget_0 rfl ?_
  refine g_iconst (v := zI 0) dX2_forget_1 (by decide) ?_
  refine g_putI dX2_forget_2 tF_2_39 lD_51 rfl rfl ⟨rfl, rfl⟩ rfl ?_
  refine g_aload_n dX2_forget_5 rfl ?_
  refine g_lconst (v := 0) dX2_forget_6 (by decide) ?_
  refine g_putJ dX2_forget_7 tF_2_43 lD_51 rfl rfl rfl ?_
  refine g_iconst (v := zI 0) dX2_forget_10 (by decide) ?_
  refine g_istore_n (L' := [some (.ref (b + 51)), some (.int (zI 0))]) dX2_forget_11 rfl ?_
  exact h
def f_X2_forget_12 (sa : Nat → Nat) (b : Nat) (E : Nat × mH) (d : Nat) (l1 : Int) (T : gT) (Q : Option Value → gT → Prop) : Prop := (-2147483648 ≤ l1 ∧ l1 < 2147483648) ∧ ((200 ≤ l1 → Q none T) ∧ (¬ 200 ≤ l1 → 0 ≤ l1 ∧ l1 < 200 ∧ gW (tP sa) lD b E d mX2_forget 12 [some (.ref (b + 51)), some (.int (zI (l1 + 1)))] [] (gJ T 52 l1.toNat 0) Q))
set_option maxRecDepth 4000 in
theorem w_X2_forget_12 {sa : Nat → Nat} {b : Nat} {E : Nat × mH} {d : Nat} {l1 : Int} {T : gT} {Q : Option Value → gT → Prop} (h : f_X2_forget_12 sa b E d l1 T Q) : gW (tP sa) lD b E d mX2_forget 12 [some (.ref (b + 51)), some (.int (zI l1))] [] T Q := by
  unfold f_X2_forget_12 at h
  refine g_iload_n dX2_forget_12 rfl ?_
  refine g_sipush (v := zI 200) dX2_forget_13 (by decide) ?_
  obtain ⟨a1, h⟩ := h
  refine g_icmp_geZ dX2_forget_16 rfl a1 (by decide) (fun c16 => ?_) (fun c16 => ?_)
  · replace h := h.1 c16
    exact g_vret dX2_forget_32 rfl h
  · replace h := h.2 c16
    refine g_aload_n dX2_forget_19 rfl ?_
    refine g_getR dX2_forget_20 tF_2_9 lD_51 rfl ?_
    refine g_iload_n dX2_forget_23 rfl ?_
    refine g_lconst (v := 0) dX2_forget_24 (by decide) ?_
    obtain ⟨a2, h⟩ := h
    obtain ⟨a3, h⟩ := h
    refine g_lastZ dX2_forget_25 lD_52 a2 a3 (by decide) ?_
    refine g_iinc (x := zI l1) (v := zI (l1 + 1)) (L' := [some (.ref (b + 51)), some (.int (zI (l1 + 1)))]) dX2_forget_26 rfl (zI_add _ _) rfl ?_
    refine g_goto dX2_forget_29 rfl ?_
    exact h
def f_X2_begin (sa : Nat → Nat) (b : Nat) (E : Nat × mH) (d : Nat) (l1 : Int) (T : gT) (Q : Option Value → gT → Prop) : Prop := (((vI T 51 0) < (vI T 51 5) → (∃ r29 : Nat, (r29 = 2 ∨ r29 = 21) ∧ vI T 51 4 = (r29 : Int) ∧ (-2147483648 ≤ l1 ∧ l1 < 2147483648) ∧ (((aI (gI T 51 0 (zI ((vI T 51 0) + 1))) (r29 + 1) 200 l1) = 0 → (∃ r70 : Nat, (r70 = 2 ∨ r70 = 21) ∧ vI T 51 4 = (r70 : Int) ∧ gC (tP sa) lD b E d mX2_recall [.ref (b + 51), .int (zI (aI (gI T 51 0 (zI ((vI T 51 0) + 1))) (r70 + 2) 200 l1))] (gI T 51 0 (zI ((vI T 51 0) + 1))) (fun r T80 => pV r (Q none T80)))) ∧ ((aI (gI T 51 0 (zI ((vI T 51 0) + 1))) (r29 + 1) 200 l1) = 1 → (∃ r89 : Nat, (r89 = 2 ∨ r89 = 21) ∧ vI T 51 4 = (r89 : Int) ∧ gC (tP sa) lD b E d mX2_come [.ref (b + 51), .int (zI (-1)), .long ((zI (aI (gI T 51 0 (zI ((vI T 51 0) + 1))) (r89 + 2) 200 l1)).toInt64)] (gI T 51 0 (zI ((vI T 51 0) + 1))) (fun r T100 => pV r (Q none T100)))) ∧ (((aI (gI T 51 0 (zI ((vI T 51 0) + 1))) (r29 + 1) 200 l1) = 2 ∨ (aI (gI T 51 0 (zI ((vI T 51 0) + 1))) (r29 + 1) 200 l1) = 3) → (∃ r108 : Nat, (r108 = 2 ∨ r108 = 21) ∧ vI T 51 4 = (r108 : Int) ∧ gC (tP sa) lD b E d mX2_come [.ref (b + 51), .int (zI (aI (gI T 51 0 (zI ((vI T 51 0) + 1))) (r108 + 5) 200 l1)), .long ((zI (vI T 51 14)).toInt64)] (gI T 51 0 (zI ((vI T 51 0) + 1))) (fun r T123 => pV r (Q none T123)))) ∧ ((¬ (aI (gI T 51 0 (zI ((vI T 51 0) + 1))) (r29 + 1) 200 l1) = 0 ∧ ¬ (aI (gI T 51 0 (zI ((vI T 51 0) + 1))) (r29 + 1) 200 l1) = 1 ∧ ¬ (aI (gI T 51 0 (zI ((vI T 51 0) + 1))) (r29 + 1) 200 l1) = 2 ∧ ¬ (aI (gI T 51 0 (zI ((vI T 51 0) + 1))) (r29 + 1) 200 l1) = 3) → gC (tP sa) lD b E d mX2_await [.ref (b + 51), .int (zI l1)] (gI T 51 0 (zI ((vI T 51 0) + 1))) (fun r T131 => pV r (Q none T131)))))) ∧ (¬ (vI T 51 0) < (vI T 51 5) → gC (tP sa) lD b E d mX2_end [.ref (b + 51), .int (zI 3), .long 0] T (fun r T14 => pV r (Q none T14))))
set_option maxRecDepth 4000 in
theorem w_X2_begin {sa : Nat → Nat} {b : Nat} {E : Nat × mH} {d : Nat} {l1 : Int} {T : gT} {Q : Option Value → gT → Prop} (h : f_X2_begin sa b E d l1 T Q) : gC (tP sa) lD b E (d + 1) mX2_begin [.ref (b + 51), .int (zI l1)] T Q := by
  unfold f_X2_begin at h
  refine ⟨Nat.le_of_ble_eq_true rfl, ?_⟩
  show gW (tP sa) lD b E (d + 1) mX2_begin 0 [some (.ref (b + 51)), some (.int (zI l1))] [] T Q
  refine g_aload_n dX2_begin_0 rfl ?_
  refine g_getZ (v := vI T 51 0) dX2_begin_1 tF_2_39 lD_51 rfl (zI_v T 51 0) ?_
  refine g_aload_n dX2_begin_4 rfl ?_
  refine g_getZ (v := vI T 51 5) dX2_begin_5 tF_2_60 lD_51 rfl (zI_v T 51 5) ?_
  refine g_icmp_ltZ dX2_begin_8 rfl ⟨vI_lo _ _ _, vI_hi _ _ _⟩ ⟨vI_lo _ _ _, vI_hi _ _ _⟩ (fun c8 => ?_) (fun c8 => ?_)
  · replace h := h.1 c8
    refine g_aload_n dX2_begin_18 rfl ?_
    refine g_dup dX2_begin_19 rfl ?_
    refine g_getZ (v := vI T 51 0) dX2_begin_20 tF_2_39 lD_51 rfl (zI_v T 51 0) ?_
    refine g_iconst (v := zI 1) dX2_begin_23 (by decide) ?_
    refine g_iaddZ dX2_begin_24 ?_
    refine g_putI dX2_begin_25 tF_2_39 lD_51 rfl rfl ⟨rfl, rfl⟩ rfl ?_
    refine g_aload_n dX2_begin_28 rfl ?_
    obtain ⟨r29, hq_r29, e_r29, h⟩ := h
    refine g_getVZ (o := r29) dX2_begin_29 tF_2_50 lD_51 rfl e_r29 (q_lt hq_r29) ?_
    refine g_getR dX2_begin_32 tF_2_95 (lP_0 hq_r29) rfl ?_
    refine g_iload_n dX2_begin_35 rfl ?_
    obtain ⟨a1, h⟩ := h
    refine g_callS [.ref (b + (r29 + 1)), .int (zI l1)] [] dX2_begin_36 tG_2_100 tM_96 rfl rfl rfl rfl (by decide) ?_
    refine gC.mono (c_aI sa b E _ _ (lP_1 hq_r29) (by decide) a1) (Nat.le_refl _) ?_
    rintro _ _ ⟨rfl, h9⟩
    obtain rfl := h9.symm
    by_cases c9 : (aI (gI T 51 0 (zI ((vI T 51 0) + 1))) (r29 + 1) 200 l1) = 0
    · replace h := h.1 c9
      refine g_tabC (c := 0) (off := 29) dX2_begin_39 (aI_rg _ _ _ _) c9 (by decide) rfl rfl ?_
      refine g_aload_n dX2_begin_68 rfl ?_
      refine g_aload_n dX2_begin_69 rfl ?_
      obtain ⟨r70, hq_r70, e_r70, h⟩ := h
      refine g_getVZ (o := r70) dX2_begin_70 tF_2_50 lD_51 rfl e_r70 (q_lt hq_r70) ?_
      refine g_getR dX2_begin_73 tF_2_104 (lP_0 hq_r70) rfl ?_
      refine g_iload_n dX2_begin_76 rfl ?_
      refine g_callS [.ref (b + (r70 + 2)), .int (zI l1)] [.ref (b + 51)] dX2_begin_77 tG_2_100 tM_96 rfl rfl rfl rfl (by decide) ?_
      refine gC.mono (c_aI sa b E _ _ (lP_2 hq_r70) (by decide) a1) (Nat.le_refl _) ?_
      rintro _ _ ⟨rfl, h9⟩
      obtain rfl := h9.symm
      refine g_callV [.ref (b + 51), .int (zI (aI (gI T 51 0 (zI ((vI T 51 0) + 1))) (r70 + 2) 200 l1))] [] dX2_begin_80 tG_2_107 tM_22 lD_51 rfl rfl rfl rfl (by decide) rfl ?_
      refine gC.mono h (Nat.le_refl _) ?_
      rintro _ T80 ⟨rfl, h⟩
      refine g_goto dX2_begin_83 rfl ?_
      exact g_vret dX2_begin_134 rfl h
    have n0_39 := c9
    by_cases c9 : (aI (gI T 51 0 (zI ((vI T 51 0) + 1))) (r29 + 1) 200 l1) = 1
    · replace h := h.2.1 c9
      refine g_tabC (c := 1) (off := 47) dX2_begin_39 (aI_rg _ _ _ _) c9 (by decide) rfl rfl ?_
      refine g_aload_n dX2_begin_86 rfl ?_
      refine g_iconst (v := zI (-1)) dX2_begin_87 (by decide) ?_
      refine g_aload_n dX2_begin_88 rfl ?_
      obtain ⟨r89, hq_r89, e_r89, h⟩ := h
      refine g_getVZ (o := r89) dX2_begin_89 tF_2_50 lD_51 rfl e_r89 (q_lt hq_r89) ?_
      refine g_getR dX2_begin_92 tF_2_104 (lP_0 hq_r89) rfl ?_
      refine g_iload_n dX2_begin_95 rfl ?_
      refine g_callS [.ref (b + (r89 + 2)), .int (zI l1)] [.int (zI (-1)), .ref (b + 51)] dX2_begin_96 tG_2_100 tM_96 rfl rfl rfl rfl (by decide) ?_
      refine gC.mono (c_aI sa b E _ _ (lP_2 hq_r89) (by decide) a1) (Nat.le_refl _) ?_
      rintro _ _ ⟨rfl, h9⟩
      obtain rfl := h9.symm
      refine g_i2l dX2_begin_99 ?_
      refine g_callV [.ref (b + 51), .int (zI (-1)), .long ((zI (aI (gI T 51 0 (zI ((vI T 51 0) + 1))) (r89 + 2) 200 l1)).toInt64)] [] dX2_begin_100 tG_2_110 tM_21 lD_51 rfl rfl rfl rfl (by decide) rfl ?_
      refine gC.mono h (Nat.le_refl _) ?_
      rintro _ T100 ⟨rfl, h⟩
      refine g_goto dX2_begin_103 rfl ?_
      exact g_vret dX2_begin_134 rfl h
    have n1_39 := c9
    by_cases c9 : (aI (gI T 51 0 (zI ((vI T 51 0) + 1))) (r29 + 1) 200 l1) = 2 ∨ (aI (gI T 51 0 (zI ((vI T 51 0) + 1))) (r29 + 1) 200 l1) = 3
    · replace h := h.2.2.1 c9
      rcases c9 with c9 | c9
      · refine g_tabC (c := 2) (off := 67) dX2_begin_39 (aI_rg _ _ _ _) c9 (by decide) rfl rfl ?_
        refine g_aload_n dX2_begin_106 rfl ?_
        refine g_aload_n dX2_begin_107 rfl ?_
        obtain ⟨r108, hq_r108, e_r108, h⟩ := h
        refine g_getVZ (o := r108) dX2_begin_108 tF_2_50 lD_51 rfl e_r108 (q_lt hq_r108) ?_
        refine g_getR dX2_begin_111 tF_2_113 (lP_0 hq_r108) rfl ?_
        refine g_iload_n dX2_begin_114 rfl ?_
        refine g_callS [.ref (b + (r108 + 5)), .int (zI l1)] [.ref (b + 51)] dX2_begin_115 tG_2_100 tM_96 rfl rfl rfl rfl (by decide) ?_
        refine gC.mono (c_aI sa b E _ _ (lP_5 hq_r108) (by decide) a1) (Nat.le_refl _) ?_
        rintro _ _ ⟨rfl, h9⟩
        obtain rfl := h9.symm
        refine g_aload_n dX2_begin_118 rfl ?_
        refine g_getZ (v := vI T 51 14) dX2_begin_119 tF_2_75 lD_51 rfl (zI_v T 51 14) ?_
        refine g_i2l dX2_begin_122 ?_
        refine g_callV [.ref (b + 51), .int (zI (aI (gI T 51 0 (zI ((vI T 51 0) + 1))) (r108 + 5) 200 l1)), .long ((zI (vI T 51 14)).toInt64)] [] dX2_begin_123 tG_2_110 tM_21 lD_51 rfl rfl rfl rfl (by decide) rfl ?_
        refine gC.mono h (Nat.le_refl _) ?_
        rintro _ T123 ⟨rfl, h⟩
        refine g_goto dX2_begin_126 rfl ?_
        exact g_vret dX2_begin_134 rfl h
      refine g_tabC (c := 3) (off := 67) dX2_begin_39 (aI_rg _ _ _ _) c9 (by decide) rfl rfl ?_
      refine g_aload_n dX2_begin_106 rfl ?_
      refine g_aload_n dX2_begin_107 rfl ?_
      obtain ⟨r108, hq_r108, e_r108, h⟩ := h
      refine g_getVZ (o := r108) dX2_begin_108 tF_2_50 lD_51 rfl e_r108 (q_lt hq_r108) ?_
      refine g_getR dX2_begin_111 tF_2_113 (lP_0 hq_r108) rfl ?_
      refine g_iload_n dX2_begin_114 rfl ?_
      refine g_callS [.ref (b + (r108 + 5)), .int (zI l1)] [.ref (b + 51)] dX2_begin_115 tG_2_100 tM_96 rfl rfl rfl rfl (by decide) ?_
      refine gC.mono (c_aI sa b E _ _ (lP_5 hq_r108) (by decide) a1) (Nat.le_refl _) ?_
      rintro _ _ ⟨rfl, h9⟩
      obtain rfl := h9.symm
      refine g_aload_n dX2_begin_118 rfl ?_
      refine g_getZ (v := vI T 51 14) dX2_begin_119 tF_2_75 lD_51 rfl (zI_v T 51 14) ?_
      refine g_i2l dX2_begin_122 ?_
      refine g_callV [.ref (b + 51), .int (zI (aI (gI T 51 0 (zI ((vI T 51 0) + 1))) (r108 + 5) 200 l1)), .long ((zI (vI T 51 14)).toInt64)] [] dX2_begin_123 tG_2_110 tM_21 lD_51 rfl rfl rfl rfl (by decide) rfl ?_
      refine gC.mono h (Nat.le_refl _) ?_
      rintro _ T123 ⟨rfl, h⟩
      refine g_goto dX2_begin_126 rfl ?_
      exact g_vret dX2_begin_134 rfl h
    have n2_39 := c9
    replace h := h.2.2.2 ⟨n0_39, n1_39, (fun e => n2_39 (Or.inl e)), (fun e => n2_39 (Or.inr (e)))⟩
    have o7 : ¬ ((aI (gI T 51 0 (zI ((vI T 51 0) + 1))) (r29 + 1) 200 l1) < 0 ∨ 3 < (aI (gI T 51 0 (zI ((vI T 51 0) + 1))) (r29 + 1) 200 l1)) → (#[29, 47, 67, 67] : Array Int)[((aI (gI T 51 0 (zI ((vI T 51 0) + 1))) (r29 + 1) 200 l1) - 0).toNat]? = some 90 := by
      intro o9
      exact absurd o9 (by omega)
    refine g_tabD dX2_begin_39 (aI_rg _ _ _ _) o7 rfl ?_
    refine g_aload_n dX2_begin_129 rfl ?_
    refine g_iload_n dX2_begin_130 rfl ?_
    refine g_callV [.ref (b + 51), .int (zI l1)] [] dX2_begin_131 tG_2_115 tM_23 lD_51 rfl rfl rfl rfl (by decide) rfl ?_
    refine gC.mono h (Nat.le_refl _) ?_
    rintro _ T131 ⟨rfl, h⟩
    exact g_vret dX2_begin_134 rfl h
  · replace h := h.2 c8
    refine g_aload_n dX2_begin_11 rfl ?_
    refine g_iconst (v := zI 3) dX2_begin_12 (by decide) ?_
    refine g_lconst (v := 0) dX2_begin_13 (by decide) ?_
    refine g_callV [.ref (b + 51), .int (zI 3), .long 0] [] dX2_begin_14 tG_2_91 tM_19 lD_51 rfl rfl rfl rfl (by decide) rfl ?_
    refine gC.mono h (Nat.le_refl _) ?_
    rintro _ T14 ⟨rfl, h⟩
    exact g_vret dX2_begin_17 rfl h
def f_X2_choose (sa : Nat → Nat) (b : Nat) (E : Nat × mH) (d : Nat) (l1 : Int) (T : gT) (Q : Option Value → gT → Prop) : Prop := (((vI T 51 15) = (-1) → (∃ r28 : Nat, (r28 = 2 ∨ r28 = 21) ∧ vI T 51 4 = (r28 : Int) ∧ (((T.2.1 51 16) = 0 → (-2147483648 ≤ l1 ∧ l1 < 2147483648) ∧ Q none (gI (gI T 51 12 (zI ((vI T 51 12) - 1))) 51 13 (zI (aP (gI T 51 12 (zI ((vI T 51 12) - 1))) r28 l1 2)))) ∧ (¬ (T.2.1 51 16) = 0 → (-2147483648 ≤ l1 ∧ l1 < 2147483648) ∧ Q none (gI (gI T 51 12 (zI ((vI T 51 12) - 1))) 51 13 (zI (aP (gI T 51 12 (zI ((vI T 51 12) - 1))) r28 l1 1))))))) ∧ (¬ (vI T 51 15) = (-1) → gC (tP sa) lD b E d mX2_end [.ref (b + 51), .int (zI 2), .long ((zI l1).toInt64)] T (fun r T12 => pV r (Q none T12))))
set_option maxRecDepth 4000 in
theorem w_X2_choose {sa : Nat → Nat} {b : Nat} {E : Nat × mH} {d : Nat} {l1 : Int} {T : gT} {Q : Option Value → gT → Prop} (h : f_X2_choose sa b E d l1 T Q) : gC (tP sa) lD b E (d + 1) mX2_choose [.ref (b + 51), .int (zI l1)] T Q := by
  unfold f_X2_choose at h
  refine ⟨Nat.le_of_ble_eq_true rfl, ?_⟩
  show gW (tP sa) lD b E (d + 1) mX2_choose 0 [some (.ref (b + 51)), some (.int (zI l1))] [] T Q
  refine g_aload_n dX2_choose_0 rfl ?_
  refine g_getZ (v := vI T 51 15) dX2_choose_1 tF_2_85 lD_51 rfl (zI_v T 51 15) ?_
  refine g_iconst (v := zI (-1)) dX2_choose_4 (by decide) ?_
  refine g_icmp_eqZ dX2_choose_5 rfl ⟨vI_lo _ _ _, vI_hi _ _ _⟩ (by decide) (fun c5 => ?_) (fun c5 => ?_)
  · replace h := h.1 c5
    refine g_aload_n dX2_choose_16 rfl ?_
    refine g_dup dX2_choose_17 rfl ?_
    refine g_getZ (v := vI T 51 12) dX2_choose_18 tF_2_69 lD_51 rfl (zI_v T 51 12) ?_
    refine g_iconst (v := zI 1) dX2_choose_21 (by decide) ?_
    refine g_isubZ dX2_choose_22 ?_
    refine g_putI dX2_choose_23 tF_2_69 lD_51 rfl rfl ⟨rfl, rfl⟩ rfl ?_
    refine g_aload_n dX2_choose_26 rfl ?_
    refine g_aload_n dX2_choose_27 rfl ?_
    obtain ⟨r28, hq_r28, e_r28, h⟩ := h
    refine g_getVZ (o := r28) dX2_choose_28 tF_2_50 lD_51 rfl e_r28 (q_lt hq_r28) ?_
    refine g_iload_n dX2_choose_31 rfl ?_
    refine g_aload_n dX2_choose_32 rfl ?_
    refine g_getJv (v := T.2.1 51 16) dX2_choose_33 tF_2_88 lD_51 rfl rfl ?_
    refine g_lconst (v := 0) dX2_choose_36 (by decide) ?_
    refine g_lcmp dX2_choose_37 ?_
    refine g_if_eqL dX2_choose_38 rfl (fun c38 => ?_) (fun c38 => ?_)
    · replace h := h.1 c38
      refine g_iconst (v := zI 2) dX2_choose_45 (by decide) ?_
      obtain ⟨a1, h⟩ := h
      refine g_callV [.ref (b + r28), .int (zI l1), .int (zI 2)] [.ref (b + 51)] dX2_choose_46 tG_2_138 tM_39 (lP_0 hq_r28) rfl rfl rfl rfl (by decide) rfl ?_
      refine gC.mono (c_part sa b E _ _ hq_r28 a1 (by decide)) (Nat.le_refl _) ?_
      rintro _ _ ⟨rfl, h9⟩
      obtain rfl := h9.symm
      refine g_putI dX2_choose_49 tF_2_72 lD_51 rfl rfl ⟨rfl, rfl⟩ rfl ?_
      exact g_vret dX2_choose_52 rfl h
    · replace h := h.2 c38
      refine g_iconst (v := zI 1) dX2_choose_41 (by decide) ?_
      refine g_goto dX2_choose_42 rfl ?_
      obtain ⟨a2, h⟩ := h
      refine g_callV [.ref (b + r28), .int (zI l1), .int (zI 1)] [.ref (b + 51)] dX2_choose_46 tG_2_138 tM_39 (lP_0 hq_r28) rfl rfl rfl rfl (by decide) rfl ?_
      refine gC.mono (c_part sa b E _ _ hq_r28 a2 (by decide)) (Nat.le_refl _) ?_
      rintro _ _ ⟨rfl, h9⟩
      obtain rfl := h9.symm
      refine g_putI dX2_choose_49 tF_2_72 lD_51 rfl rfl ⟨rfl, rfl⟩ rfl ?_
      exact g_vret dX2_choose_52 rfl h
  · replace h := h.2 c5
    refine g_aload_n dX2_choose_8 rfl ?_
    refine g_iconst (v := zI 2) dX2_choose_9 (by decide) ?_
    refine g_iload_n dX2_choose_10 rfl ?_
    refine g_i2l dX2_choose_11 ?_
    refine g_callV [.ref (b + 51), .int (zI 2), .long ((zI l1).toInt64)] [] dX2_choose_12 tG_2_91 tM_19 lD_51 rfl rfl rfl rfl (by decide) rfl ?_
    refine gC.mono h (Nat.le_refl _) ?_
    rintro _ T12 ⟨rfl, h⟩
    exact g_vret dX2_choose_15 rfl h
def f_X2_reckon (sa : Nat → Nat) (b : Nat) (E : Nat × mH) (d : Nat) (l1 : Int) (l2 : Int) (l3 : Int) (l4 : Int64) (T : gT) (Q : Option Value → gT → Prop) : Prop := (-2147483648 ≤ l3 ∧ l3 < 2147483648) ∧ ((¬ l3 = (-1) → gC (tP sa) lD b E d mX2_end [.ref (b + 51), .int (zI 2), .long ((zI l1).toInt64)] T (fun r T17 => pV r (Q none T17))) ∧ (l3 = (-1) → (((vI T 51 15) = (-1) → (-2147483648 ≤ l2 ∧ l2 < 2147483648) ∧ ((l2 = 6 → gC (tP sa) lD b E d mX2_come [.ref (b + 51), .int (zI (-1)), .long (l4 + (T.2.1 51 16))] (gI T 51 12 (zI ((vI T 51 12) - 1))) (fun r T73 => pV r (Q none T73))) ∧ (l2 = 7 → gC (tP sa) lD b E d mX2_come [.ref (b + 51), .int (zI (-1)), .long (l4 - (T.2.1 51 16))] (gI T 51 12 (zI ((vI T 51 12) - 1))) (fun r T88 => pV r (Q none T88))) ∧ (l2 = 8 → gC (tP sa) lD b E d mX2_come [.ref (b + 51), .int (zI (-1)), .long (l4 * (T.2.1 51 16))] (gI T 51 12 (zI ((vI T 51 12) - 1))) (fun r T103 => pV r (Q none T103))) ∧ (l2 = 9 → ((¬ l4 = (T.2.1 51 16) → gC (tP sa) lD b E d mX2_come [.ref (b + 51), .int (zI (-1)), .long 0] (gI T 51 12 (zI ((vI T 51 12) - 1))) (fun r T126 => pV r (Q none T126))) ∧ (l4 = (T.2.1 51 16) → gC (tP sa) lD b E d mX2_come [.ref (b + 51), .int (zI (-1)), .long 1] (gI T 51 12 (zI ((vI T 51 12) - 1))) (fun r T126 => pV r (Q none T126))))) ∧ ((¬ l2 = 6 ∧ ¬ l2 = 7 ∧ ¬ l2 = 8 ∧ ¬ l2 = 9) → ((¬ l4 < (T.2.1 51 16) → gC (tP sa) lD b E d mX2_come [.ref (b + 51), .int (zI (-1)), .long 0] (gI T 51 12 (zI ((vI T 51 12) - 1))) (fun r T149 => pV r (Q none T149))) ∧ (l4 < (T.2.1 51 16) → gC (tP sa) lD b E d mX2_come [.ref (b + 51), .int (zI (-1)), .long 1] (gI T 51 12 (zI ((vI T 51 12) - 1))) (fun r T149 => pV r (Q none T149))))))) ∧ (¬ (vI T 51 15) = (-1) → gC (tP sa) lD b E d mX2_end [.ref (b + 51), .int (zI 2), .long ((zI l1).toInt64)] T (fun r T17 => pV r (Q none T17))))))
set_option maxRecDepth 4000 in
theorem w_X2_reckon {sa : Nat → Nat} {b : Nat} {E : Nat × mH} {d : Nat} {l1 : Int} {l2 : Int} {l3 : Int} {l4 : Int64} {T : gT} {Q : Option Value → gT → Prop} (h : f_X2_reckon sa b E d l1 l2 l3 l4 T Q) : gC (tP sa) lD b E (d + 1) mX2_reckon [.ref (b + 51), .int (zI l1), .int (zI l2), .int (zI l3), .long l4] T Q := by
  unfold f_X2_reckon at h
  refine ⟨Nat.le_of_ble_eq_true rfl, ?_⟩
  show gW (tP sa) lD b E (d + 1) mX2_reckon 0 [some (.ref (b + 51)), some (.int (zI l1)), some (.int (zI l2)), some (.int (zI l3)), some (.long l4), none] [] T Q
  refine g_iload_n dX2_reckon_0 rfl ?_
  refine g_iconst (v := zI (-1)) dX2_reckon_1 (by decide) ?_
  obtain ⟨a1, h⟩ := h
  refine g_icmp_neZ dX2_reckon_2 rfl a1 (by decide) (fun c2 => ?_) (fun c2 => ?_)
  · replace h := h.1 c2
    refine g_aload_n dX2_reckon_13 rfl ?_
    refine g_iconst (v := zI 2) dX2_reckon_14 (by decide) ?_
    refine g_iload_n dX2_reckon_15 rfl ?_
    refine g_i2l dX2_reckon_16 ?_
    refine g_callV [.ref (b + 51), .int (zI 2), .long ((zI l1).toInt64)] [] dX2_reckon_17 tG_2_91 tM_19 lD_51 rfl rfl rfl rfl (by decide) rfl ?_
    refine gC.mono h (Nat.le_refl _) ?_
    rintro _ T17 ⟨rfl, h⟩
    exact g_vret dX2_reckon_20 rfl h
  · replace h := h.2 c2
    refine g_aload_n dX2_reckon_5 rfl ?_
    refine g_getZ (v := vI T 51 15) dX2_reckon_6 tF_2_85 lD_51 rfl (zI_v T 51 15) ?_
    refine g_iconst (v := zI (-1)) dX2_reckon_9 (by decide) ?_
    refine g_icmp_eqZ dX2_reckon_10 rfl ⟨vI_lo _ _ _, vI_hi _ _ _⟩ (by decide) (fun c10 => ?_) (fun c10 => ?_)
    · replace h := h.1 c10
      refine g_aload_n dX2_reckon_21 rfl ?_
      refine g_dup dX2_reckon_22 rfl ?_
      refine g_getZ (v := vI T 51 12) dX2_reckon_23 tF_2_69 lD_51 rfl (zI_v T 51 12) ?_
      refine g_iconst (v := zI 1) dX2_reckon_26 (by decide) ?_
      refine g_isubZ dX2_reckon_27 ?_
      refine g_putI dX2_reckon_28 tF_2_69 lD_51 rfl rfl ⟨rfl, rfl⟩ rfl ?_
      refine g_iload_n dX2_reckon_31 rfl ?_
      obtain ⟨a2, h⟩ := h
      by_cases c9 : l2 = 6
      · replace h := h.1 c9
        refine g_tabC (c := 6) (off := 32) dX2_reckon_32 a2 c9 (by decide) rfl rfl ?_
        refine g_aload_n dX2_reckon_64 rfl ?_
        refine g_iconst (v := zI (-1)) dX2_reckon_65 (by decide) ?_
        refine g_lload dX2_reckon_66 rfl ?_
        refine g_aload_n dX2_reckon_68 rfl ?_
        refine g_getJv (v := T.2.1 51 16) dX2_reckon_69 tF_2_88 lD_51 rfl rfl ?_
        refine g_ladd dX2_reckon_72 ?_
        refine g_callV [.ref (b + 51), .int (zI (-1)), .long (l4 + (T.2.1 51 16))] [] dX2_reckon_73 tG_2_110 tM_21 lD_51 rfl rfl rfl rfl (by decide) rfl ?_
        refine gC.mono h (Nat.le_refl _) ?_
        rintro _ T73 ⟨rfl, h⟩
        refine g_goto dX2_reckon_76 rfl ?_
        exact g_vret dX2_reckon_152 rfl h
      have n0_32 := c9
      by_cases c9 : l2 = 7
      · replace h := h.2.1 c9
        refine g_tabC (c := 7) (off := 47) dX2_reckon_32 a2 c9 (by decide) rfl rfl ?_
        refine g_aload_n dX2_reckon_79 rfl ?_
        refine g_iconst (v := zI (-1)) dX2_reckon_80 (by decide) ?_
        refine g_lload dX2_reckon_81 rfl ?_
        refine g_aload_n dX2_reckon_83 rfl ?_
        refine g_getJv (v := T.2.1 51 16) dX2_reckon_84 tF_2_88 lD_51 rfl rfl ?_
        refine g_lsub dX2_reckon_87 ?_
        refine g_callV [.ref (b + 51), .int (zI (-1)), .long (l4 - (T.2.1 51 16))] [] dX2_reckon_88 tG_2_110 tM_21 lD_51 rfl rfl rfl rfl (by decide) rfl ?_
        refine gC.mono h (Nat.le_refl _) ?_
        rintro _ T88 ⟨rfl, h⟩
        refine g_goto dX2_reckon_91 rfl ?_
        exact g_vret dX2_reckon_152 rfl h
      have n1_32 := c9
      by_cases c9 : l2 = 8
      · replace h := h.2.2.1 c9
        refine g_tabC (c := 8) (off := 62) dX2_reckon_32 a2 c9 (by decide) rfl rfl ?_
        refine g_aload_n dX2_reckon_94 rfl ?_
        refine g_iconst (v := zI (-1)) dX2_reckon_95 (by decide) ?_
        refine g_lload dX2_reckon_96 rfl ?_
        refine g_aload_n dX2_reckon_98 rfl ?_
        refine g_getJv (v := T.2.1 51 16) dX2_reckon_99 tF_2_88 lD_51 rfl rfl ?_
        refine g_lmul dX2_reckon_102 ?_
        refine g_callV [.ref (b + 51), .int (zI (-1)), .long (l4 * (T.2.1 51 16))] [] dX2_reckon_103 tG_2_110 tM_21 lD_51 rfl rfl rfl rfl (by decide) rfl ?_
        refine gC.mono h (Nat.le_refl _) ?_
        rintro _ T103 ⟨rfl, h⟩
        refine g_goto dX2_reckon_106 rfl ?_
        exact g_vret dX2_reckon_152 rfl h
      have n2_32 := c9
      by_cases c9 : l2 = 9
      · replace h := h.2.2.2.1 c9
        refine g_tabC (c := 9) (off := 77) dX2_reckon_32 a2 c9 (by decide) rfl rfl ?_
        refine g_aload_n dX2_reckon_109 rfl ?_
        refine g_iconst (v := zI (-1)) dX2_reckon_110 (by decide) ?_
        refine g_lload dX2_reckon_111 rfl ?_
        refine g_aload_n dX2_reckon_113 rfl ?_
        refine g_getJv (v := T.2.1 51 16) dX2_reckon_114 tF_2_88 lD_51 rfl rfl ?_
        refine g_lcmp dX2_reckon_117 ?_
        refine g_if_neL dX2_reckon_118 rfl (fun c118 => ?_) (fun c118 => ?_)
        · replace h := h.1 c118
          refine g_lconst (v := 0) dX2_reckon_125 (by decide) ?_
          refine g_callV [.ref (b + 51), .int (zI (-1)), .long 0] [] dX2_reckon_126 tG_2_110 tM_21 lD_51 rfl rfl rfl rfl (by decide) rfl ?_
          refine gC.mono h (Nat.le_refl _) ?_
          rintro _ T126 ⟨rfl, h⟩
          refine g_goto dX2_reckon_129 rfl ?_
          exact g_vret dX2_reckon_152 rfl h
        · replace h := h.2 c118
          refine g_lconst (v := 1) dX2_reckon_121 (by decide) ?_
          refine g_goto dX2_reckon_122 rfl ?_
          refine g_callV [.ref (b + 51), .int (zI (-1)), .long 1] [] dX2_reckon_126 tG_2_110 tM_21 lD_51 rfl rfl rfl rfl (by decide) rfl ?_
          refine gC.mono h (Nat.le_refl _) ?_
          rintro _ T126 ⟨rfl, h⟩
          refine g_goto dX2_reckon_129 rfl ?_
          exact g_vret dX2_reckon_152 rfl h
      have n3_32 := c9
      replace h := h.2.2.2.2 ⟨n0_32, n1_32, n2_32, n3_32⟩
      have o7 : ¬ (l2 < 6 ∨ 9 < l2) → (#[32, 47, 62, 77] : Array Int)[(l2 - 6).toNat]? = some 100 := by
        intro o9
        exact absurd o9 (by omega)
      refine g_tabD dX2_reckon_32 a2 o7 rfl ?_
      refine g_aload_n dX2_reckon_132 rfl ?_
      refine g_iconst (v := zI (-1)) dX2_reckon_133 (by decide) ?_
      refine g_lload dX2_reckon_134 rfl ?_
      refine g_aload_n dX2_reckon_136 rfl ?_
      refine g_getJv (v := T.2.1 51 16) dX2_reckon_137 tF_2_88 lD_51 rfl rfl ?_
      refine g_lcmp dX2_reckon_140 ?_
      refine g_if_geL dX2_reckon_141 rfl (fun c141 => ?_) (fun c141 => ?_)
      · replace h := h.1 c141
        refine g_lconst (v := 0) dX2_reckon_148 (by decide) ?_
        refine g_callV [.ref (b + 51), .int (zI (-1)), .long 0] [] dX2_reckon_149 tG_2_110 tM_21 lD_51 rfl rfl rfl rfl (by decide) rfl ?_
        refine gC.mono h (Nat.le_refl _) ?_
        rintro _ T149 ⟨rfl, h⟩
        exact g_vret dX2_reckon_152 rfl h
      · replace h := h.2 c141
        refine g_lconst (v := 1) dX2_reckon_144 (by decide) ?_
        refine g_goto dX2_reckon_145 rfl ?_
        refine g_callV [.ref (b + 51), .int (zI (-1)), .long 1] [] dX2_reckon_149 tG_2_110 tM_21 lD_51 rfl rfl rfl rfl (by decide) rfl ?_
        refine gC.mono h (Nat.le_refl _) ?_
        rintro _ T149 ⟨rfl, h⟩
        exact g_vret dX2_reckon_152 rfl h
    · replace h := h.2 c10
      refine g_aload_n dX2_reckon_13 rfl ?_
      refine g_iconst (v := zI 2) dX2_reckon_14 (by decide) ?_
      refine g_iload_n dX2_reckon_15 rfl ?_
      refine g_i2l dX2_reckon_16 ?_
      refine g_callV [.ref (b + 51), .int (zI 2), .long ((zI l1).toInt64)] [] dX2_reckon_17 tG_2_91 tM_19 lD_51 rfl rfl rfl rfl (by decide) rfl ?_
      refine gC.mono h (Nat.le_refl _) ?_
      rintro _ T17 ⟨rfl, h⟩
      exact g_vret dX2_reckon_20 rfl h
def f_X3_newVariable (sa : Nat → Nat) (b : Nat) (E : Nat × mH) (d : Nat) (l0 : Nat) (l1 : Int) (l2 : Int) (T : gT) (Q : Option Value → gT → Prop) : Prop := ((100 ≤ (vI T l0 2) → Q (some (.int (zI (-1)))) T) ∧ (¬ 100 ≤ (vI T l0 2) → (-2147483648 ≤ l1 ∧ l1 < 2147483648) ∧ ((l1 < 0 → Q (some (.int (zI (-1)))) T) ∧ (¬ l1 < 0 → ((l1 < 200 → 0 ≤ l1 ∧ l1 < 200 ∧ 0 ≤ vI (gI T (l0 + 18) l1.toNat (zI (vI T l0 2))) l0 2 ∧ vI (gI T (l0 + 18) l1.toNat (zI (vI T l0 2))) l0 2 < 100 ∧ 0 ≤ vI (gI (gI T (l0 + 18) l1.toNat (zI (vI T l0 2))) (l0 + 8) (vI (gI T (l0 + 18) l1.toNat (zI (vI T l0 2))) l0 2).toNat (zI l2)) l0 2 ∧ vI (gI (gI T (l0 + 18) l1.toNat (zI (vI T l0 2))) (l0 + 8) (vI (gI T (l0 + 18) l1.toNat (zI (vI T l0 2))) l0 2).toNat (zI l2)) l0 2 < 100 ∧ 0 ≤ vI (gI (gI (gI T (l0 + 18) l1.toNat (zI (vI T l0 2))) (l0 + 8) (vI (gI T (l0 + 18) l1.toNat (zI (vI T l0 2))) l0 2).toNat (zI l2)) (l0 + 9) (vI (gI (gI T (l0 + 18) l1.toNat (zI (vI T l0 2))) (l0 + 8) (vI (gI T (l0 + 18) l1.toNat (zI (vI T l0 2))) l0 2).toNat (zI l2)) l0 2).toNat (zI 0)) l0 2 ∧ vI (gI (gI (gI T (l0 + 18) l1.toNat (zI (vI T l0 2))) (l0 + 8) (vI (gI T (l0 + 18) l1.toNat (zI (vI T l0 2))) l0 2).toNat (zI l2)) (l0 + 9) (vI (gI (gI T (l0 + 18) l1.toNat (zI (vI T l0 2))) (l0 + 8) (vI (gI T (l0 + 18) l1.toNat (zI (vI T l0 2))) l0 2).toNat (zI l2)) l0 2).toNat (zI 0)) l0 2 < 100 ∧ Q (some (.int (zI ((vI (gI (gI (gI (gI (gI T (l0 + 18) l1.toNat (zI (vI T l0 2))) (l0 + 8) (vI (gI T (l0 + 18) l1.toNat (zI (vI T l0 2))) l0 2).toNat (zI l2)) (l0 + 9) (vI (gI (gI T (l0 + 18) l1.toNat (zI (vI T l0 2))) (l0 + 8) (vI (gI T (l0 + 18) l1.toNat (zI (vI T l0 2))) l0 2).toNat (zI l2)) l0 2).toNat (zI 0)) (l0 + 11) (vI (gI (gI (gI T (l0 + 18) l1.toNat (zI (vI T l0 2))) (l0 + 8) (vI (gI T (l0 + 18) l1.toNat (zI (vI T l0 2))) l0 2).toNat (zI l2)) (l0 + 9) (vI (gI (gI T (l0 + 18) l1.toNat (zI (vI T l0 2))) (l0 + 8) (vI (gI T (l0 + 18) l1.toNat (zI (vI T l0 2))) l0 2).toNat (zI l2)) l0 2).toNat (zI 0)) l0 2).toNat (zI (-1))) l0 2 (zI ((vI (gI (gI (gI (gI T (l0 + 18) l1.toNat (zI (vI T l0 2))) (l0 + 8) (vI (gI T (l0 + 18) l1.toNat (zI (vI T l0 2))) l0 2).toNat (zI l2)) (l0 + 9) (vI (gI (gI T (l0 + 18) l1.toNat (zI (vI T l0 2))) (l0 + 8) (vI (gI T (l0 + 18) l1.toNat (zI (vI T l0 2))) l0 2).toNat (zI l2)) l0 2).toNat (zI 0)) (l0 + 11) (vI (gI (gI (gI T (l0 + 18) l1.toNat (zI (vI T l0 2))) (l0 + 8) (vI (gI T (l0 + 18) l1.toNat (zI (vI T l0 2))) l0 2).toNat (zI l2)) (l0 + 9) (vI (gI (gI T (l0 + 18) l1.toNat (zI (vI T l0 2))) (l0 + 8) (vI (gI T (l0 + 18) l1.toNat (zI (vI T l0 2))) l0 2).toNat (zI l2)) l0 2).toNat (zI 0)) l0 2).toNat (zI (-1))) l0 2) + 1))) l0 2) - 1)))) (gI (gI (gI (gI (gI T (l0 + 18) l1.toNat (zI (vI T l0 2))) (l0 + 8) (vI (gI T (l0 + 18) l1.toNat (zI (vI T l0 2))) l0 2).toNat (zI l2)) (l0 + 9) (vI (gI (gI T (l0 + 18) l1.toNat (zI (vI T l0 2))) (l0 + 8) (vI (gI T (l0 + 18) l1.toNat (zI (vI T l0 2))) l0 2).toNat (zI l2)) l0 2).toNat (zI 0)) (l0 + 11) (vI (gI (gI (gI T (l0 + 18) l1.toNat (zI (vI T l0 2))) (l0 + 8) (vI (gI T (l0 + 18) l1.toNat (zI (vI T l0 2))) l0 2).toNat (zI l2)) (l0 + 9) (vI (gI (gI T (l0 + 18) l1.toNat (zI (vI T l0 2))) (l0 + 8) (vI (gI T (l0 + 18) l1.toNat (zI (vI T l0 2))) l0 2).toNat (zI l2)) l0 2).toNat (zI 0)) l0 2).toNat (zI (-1))) l0 2 (zI ((vI (gI (gI (gI (gI T (l0 + 18) l1.toNat (zI (vI T l0 2))) (l0 + 8) (vI (gI T (l0 + 18) l1.toNat (zI (vI T l0 2))) l0 2).toNat (zI l2)) (l0 + 9) (vI (gI (gI T (l0 + 18) l1.toNat (zI (vI T l0 2))) (l0 + 8) (vI (gI T (l0 + 18) l1.toNat (zI (vI T l0 2))) l0 2).toNat (zI l2)) l0 2).toNat (zI 0)) (l0 + 11) (vI (gI (gI (gI T (l0 + 18) l1.toNat (zI (vI T l0 2))) (l0 + 8) (vI (gI T (l0 + 18) l1.toNat (zI (vI T l0 2))) l0 2).toNat (zI l2)) (l0 + 9) (vI (gI (gI T (l0 + 18) l1.toNat (zI (vI T l0 2))) (l0 + 8) (vI (gI T (l0 + 18) l1.toNat (zI (vI T l0 2))) l0 2).toNat (zI l2)) l0 2).toNat (zI 0)) l0 2).toNat (zI (-1))) l0 2) + 1)))) ∧ (¬ l1 < 200 → Q (some (.int (zI (-1)))) T))))))
set_option maxRecDepth 4000 in
theorem w_X3_newVariable {sa : Nat → Nat} {b : Nat} {E : Nat × mH} {d : Nat} {l0 : Nat} {l1 : Int} {l2 : Int} {T : gT} {Q : Option Value → gT → Prop} (hq_l0 : l0 = 2 ∨ l0 = 21) (h : f_X3_newVariable sa b E d l0 l1 l2 T Q) : gC (tP sa) lD b E d mX3_newVariable [.ref (b + l0), .int (zI l1), .int (zI l2)] T Q := by
  unfold f_X3_newVariable at h
  refine ⟨Nat.le_of_ble_eq_true rfl, ?_⟩
  show gW (tP sa) lD b E d mX3_newVariable 0 [some (.ref (b + l0)), some (.int (zI l1)), some (.int (zI l2))] [] T Q
  refine g_aload_n dX3_newVariable_0 rfl ?_
  refine g_getZ (v := vI T l0 2) dX3_newVariable_1 tF_3_80 (lP_0 hq_l0) rfl (zI_v _ _ _) ?_
  refine g_bipush (v := zI 100) dX3_newVariable_4 (by decide) ?_
  refine g_icmp_geZ dX3_newVariable_6 rfl ⟨vI_lo _ _ _, vI_hi _ _ _⟩ (by decide) (fun c6 => ?_) (fun c6 => ?_)
  · replace h := h.1 c6
    refine g_iconst (v := zI (-1)) dX3_newVariable_22 (by decide) ?_
    exact g_iret dX3_newVariable_23 rfl rfl h
  · replace h := h.2 c6
    refine g_iload_n dX3_newVariable_9 rfl ?_
    obtain ⟨a1, h⟩ := h
    refine g_if_ltZ dX3_newVariable_10 rfl a1  (fun c10 => ?_) (fun c10 => ?_)
    · replace h := h.1 c10
      refine g_iconst (v := zI (-1)) dX3_newVariable_22 (by decide) ?_
      exact g_iret dX3_newVariable_23 rfl rfl h
    · replace h := h.2 c10
      refine g_iload_n dX3_newVariable_13 rfl ?_
      refine g_aload_n dX3_newVariable_14 rfl ?_
      refine g_getR dX3_newVariable_15 tF_3_56 (lP_0 hq_l0) rfl ?_
      refine g_alenZ (z := 200) dX3_newVariable_18 (lP_18 hq_l0) rfl ?_
      refine g_icmp_ltZ dX3_newVariable_19 rfl a1 (by decide) (fun c19 => ?_) (fun c19 => ?_)
      · replace h := h.1 c19
        refine g_aload_n dX3_newVariable_24 rfl ?_
        refine g_getR dX3_newVariable_25 tF_3_56 (lP_0 hq_l0) rfl ?_
        refine g_iload_n dX3_newVariable_28 rfl ?_
        refine g_aload_n dX3_newVariable_29 rfl ?_
        refine g_getZ (v := vI T l0 2) dX3_newVariable_30 tF_3_80 (lP_0 hq_l0) rfl (zI_v _ _ _) ?_
        obtain ⟨a2, h⟩ := h
        obtain ⟨a3, h⟩ := h
        refine g_iastZ dX3_newVariable_33 (lP_18 hq_l0) a2 a3 (by decide) ?_
        refine g_aload_n dX3_newVariable_34 rfl ?_
        refine g_getR dX3_newVariable_35 tF_3_33 (lP_0 hq_l0) rfl ?_
        refine g_aload_n dX3_newVariable_38 rfl ?_
        refine g_getZ (v := vI (gI T (l0 + 18) l1.toNat (zI (vI T l0 2))) l0 2) dX3_newVariable_39 tF_3_80 (lP_0 hq_l0) rfl (zI_v _ _ _) ?_
        refine g_iload_n dX3_newVariable_42 rfl ?_
        obtain ⟨a4, h⟩ := h
        obtain ⟨a5, h⟩ := h
        refine g_iastZ dX3_newVariable_43 (lP_8 hq_l0) a4 a5 (by decide) ?_
        refine g_aload_n dX3_newVariable_44 rfl ?_
        refine g_getR dX3_newVariable_45 tF_3_36 (lP_0 hq_l0) rfl ?_
        refine g_aload_n dX3_newVariable_48 rfl ?_
        refine g_getZ (v := vI (gI (gI T (l0 + 18) l1.toNat (zI (vI T l0 2))) (l0 + 8) (vI (gI T (l0 + 18) l1.toNat (zI (vI T l0 2))) l0 2).toNat (zI l2)) l0 2) dX3_newVariable_49 tF_3_80 (lP_0 hq_l0) rfl (zI_v _ _ _) ?_
        refine g_iconst (v := zI 0) dX3_newVariable_52 (by decide) ?_
        obtain ⟨a6, h⟩ := h
        obtain ⟨a7, h⟩ := h
        refine g_iastZ dX3_newVariable_53 (lP_9 hq_l0) a6 a7 (by decide) ?_
        refine g_aload_n dX3_newVariable_54 rfl ?_
        refine g_getR dX3_newVariable_55 tF_3_42 (lP_0 hq_l0) rfl ?_
        refine g_aload_n dX3_newVariable_58 rfl ?_
        refine g_getZ (v := vI (gI (gI (gI T (l0 + 18) l1.toNat (zI (vI T l0 2))) (l0 + 8) (vI (gI T (l0 + 18) l1.toNat (zI (vI T l0 2))) l0 2).toNat (zI l2)) (l0 + 9) (vI (gI (gI T (l0 + 18) l1.toNat (zI (vI T l0 2))) (l0 + 8) (vI (gI T (l0 + 18) l1.toNat (zI (vI T l0 2))) l0 2).toNat (zI l2)) l0 2).toNat (zI 0)) l0 2) dX3_newVariable_59 tF_3_80 (lP_0 hq_l0) rfl (zI_v _ _ _) ?_
        refine g_iconst (v := zI (-1)) dX3_newVariable_62 (by decide) ?_
        obtain ⟨a8, h⟩ := h
        obtain ⟨a9, h⟩ := h
        refine g_iastZ dX3_newVariable_63 (lP_11 hq_l0) a8 a9 (by decide) ?_
        refine g_aload_n dX3_newVariable_64 rfl ?_
        refine g_dup dX3_newVariable_65 rfl ?_
        refine g_getZ (v := vI (gI (gI (gI (gI T (l0 + 18) l1.toNat (zI (vI T l0 2))) (l0 + 8) (vI (gI T (l0 + 18) l1.toNat (zI (vI T l0 2))) l0 2).toNat (zI l2)) (l0 + 9) (vI (gI (gI T (l0 + 18) l1.toNat (zI (vI T l0 2))) (l0 + 8) (vI (gI T (l0 + 18) l1.toNat (zI (vI T l0 2))) l0 2).toNat (zI l2)) l0 2).toNat (zI 0)) (l0 + 11) (vI (gI (gI (gI T (l0 + 18) l1.toNat (zI (vI T l0 2))) (l0 + 8) (vI (gI T (l0 + 18) l1.toNat (zI (vI T l0 2))) l0 2).toNat (zI l2)) (l0 + 9) (vI (gI (gI T (l0 + 18) l1.toNat (zI (vI T l0 2))) (l0 + 8) (vI (gI T (l0 + 18) l1.toNat (zI (vI T l0 2))) l0 2).toNat (zI l2)) l0 2).toNat (zI 0)) l0 2).toNat (zI (-1))) l0 2) dX3_newVariable_66 tF_3_80 (lP_0 hq_l0) rfl (zI_v _ _ _) ?_
        refine g_iconst (v := zI 1) dX3_newVariable_69 (by decide) ?_
        refine g_iaddZ dX3_newVariable_70 ?_
        refine g_putI dX3_newVariable_71 tF_3_80 (lP_0 hq_l0) rfl rfl ⟨rfl, rfl⟩ rfl ?_
        refine g_aload_n dX3_newVariable_74 rfl ?_
        refine g_getZ (v := vI (gI (gI (gI (gI (gI T (l0 + 18) l1.toNat (zI (vI T l0 2))) (l0 + 8) (vI (gI T (l0 + 18) l1.toNat (zI (vI T l0 2))) l0 2).toNat (zI l2)) (l0 + 9) (vI (gI (gI T (l0 + 18) l1.toNat (zI (vI T l0 2))) (l0 + 8) (vI (gI T (l0 + 18) l1.toNat (zI (vI T l0 2))) l0 2).toNat (zI l2)) l0 2).toNat (zI 0)) (l0 + 11) (vI (gI (gI (gI T (l0 + 18) l1.toNat (zI (vI T l0 2))) (l0 + 8) (vI (gI T (l0 + 18) l1.toNat (zI (vI T l0 2))) l0 2).toNat (zI l2)) (l0 + 9) (vI (gI (gI T (l0 + 18) l1.toNat (zI (vI T l0 2))) (l0 + 8) (vI (gI T (l0 + 18) l1.toNat (zI (vI T l0 2))) l0 2).toNat (zI l2)) l0 2).toNat (zI 0)) l0 2).toNat (zI (-1))) l0 2 (zI ((vI (gI (gI (gI (gI T (l0 + 18) l1.toNat (zI (vI T l0 2))) (l0 + 8) (vI (gI T (l0 + 18) l1.toNat (zI (vI T l0 2))) l0 2).toNat (zI l2)) (l0 + 9) (vI (gI (gI T (l0 + 18) l1.toNat (zI (vI T l0 2))) (l0 + 8) (vI (gI T (l0 + 18) l1.toNat (zI (vI T l0 2))) l0 2).toNat (zI l2)) l0 2).toNat (zI 0)) (l0 + 11) (vI (gI (gI (gI T (l0 + 18) l1.toNat (zI (vI T l0 2))) (l0 + 8) (vI (gI T (l0 + 18) l1.toNat (zI (vI T l0 2))) l0 2).toNat (zI l2)) (l0 + 9) (vI (gI (gI T (l0 + 18) l1.toNat (zI (vI T l0 2))) (l0 + 8) (vI (gI T (l0 + 18) l1.toNat (zI (vI T l0 2))) l0 2).toNat (zI l2)) l0 2).toNat (zI 0)) l0 2).toNat (zI (-1))) l0 2) + 1))) l0 2) dX3_newVariable_75 tF_3_80 (lP_0 hq_l0) rfl (zI_v _ _ _) ?_
        refine g_iconst (v := zI 1) dX3_newVariable_78 (by decide) ?_
        refine g_isubZ dX3_newVariable_79 ?_
        exact g_iret dX3_newVariable_80 rfl rfl h
      · replace h := h.2 c19
        refine g_iconst (v := zI (-1)) dX3_newVariable_22 (by decide) ?_
        exact g_iret dX3_newVariable_23 rfl rfl h
def f_X3_join (sa : Nat → Nat) (b : Nat) (E : Nat × mH) (d : Nat) (l0 : Nat) (l1 : Int) (l2 : Int) (T : gT) (Q : Option Value → gT → Prop) : Prop := 0 ≤ l1 ∧ l1 < 200 ∧ gW (tP sa) lD b E d mX3_join 23 [some (.ref (b + l0)), some (.int (zI l1)), some (.int (zI l2)), some (.int (zI 0))] [] (gI (gI (gI T (l0 + 4) l1.toNat (zI l2)) (l0 + 6) l1.toNat (zI (-1))) (l0 + 16) l1.toNat (zI 0)) Q
set_option maxRecDepth 4000 in
theorem w_X3_join {sa : Nat → Nat} {b : Nat} {E : Nat × mH} {d : Nat} {l0 : Nat} {l1 : Int} {l2 : Int} {T : gT} {Q : Option Value → gT → Prop} (hq_l0 : l0 = 2 ∨ l0 = 21) (h : f_X3_join sa b E d l0 l1 l2 T Q) : gC (tP sa) lD b E d mX3_join [.ref (b + l0), .int (zI l1), .int (zI l2)] T Q := by
  unfold f_X3_join at h
  refine ⟨Nat.le_of_ble_eq_true rfl, ?_⟩
  show gW (tP sa) lD b E d mX3_join 0 [some (.ref (b + l0)), some (.int (zI l1)), some (.int (zI l2)), none] [] T Q
  refine g_aload_n dX3_join_0 rfl ?_
  refine g_getR dX3_join_1 tF_3_21 (lP_0 hq_l0) rfl ?_
  refine g_iload_n dX3_join_4 rfl ?_
  refine g_iload_n dX3_join_5 rfl ?_
  obtain ⟨a1, h⟩ := h
  obtain ⟨a2, h⟩ := h
  refine g_iastZ dX3_join_6 (lP_4 hq_l0) a1 a2 (by decide) ?_
  refine g_aload_n dX3_join_7 rfl ?_
  refine g_getR dX3_join_8 tF_3_27 (lP_0 hq_l0) rfl ?_
  refine g_iload_n dX3_join_11 rfl ?_
  refine g_iconst (v := zI (-1)) dX3_join_12 (by decide) ?_
  refine g_iastZ dX3_join_13 (lP_6 hq_l0) a1 a2 (by decide) ?_
  refine g_aload_n dX3_join_14 rfl ?_
  refine g_getR dX3_join_15 tF_3_50 (lP_0 hq_l0) rfl ?_
  refine g_iload_n dX3_join_18 rfl ?_
  refine g_iconst (v := zI 0) dX3_join_19 (by decide) ?_
  refine g_iastZ dX3_join_20 (lP_16 hq_l0) a1 a2 (by decide) ?_
  refine g_iconst (v := zI 0) dX3_join_21 (by decide) ?_
  refine g_istore_n (L' := [some (.ref (b + l0)), some (.int (zI l1)), some (.int (zI l2)), some (.int (zI 0))]) dX3_join_22 rfl ?_
  exact h
def f_X3_join_23 (sa : Nat → Nat) (b : Nat) (E : Nat × mH) (d : Nat) (l0 : Nat) (l1 : Int) (l2 : Int) (l3 : Int) (T : gT) (Q : Option Value → gT → Prop) : Prop := (-2147483648 ≤ l3 ∧ l3 < 2147483648) ∧ ((3 ≤ l3 → (-2147483648 ≤ l2 ∧ l2 < 2147483648) ∧ ((¬ l2 = (-1) → 0 ≤ l2 ∧ l2 < 200 ∧ ((¬ (vI T (l0 + 5) l2.toNat) = (-1) → gW (tP sa) lD b E d mX3_join 79 [some (.ref (b + l0)), some (.int (zI l1)), some (.int (zI l2)), some (.int (zI l3))] [.int (zI (vI T (l0 + 5) l2.toNat)), .int (zI l1), .ref (b + (l0 + 6))] T Q) ∧ ((vI T (l0 + 5) l2.toNat) = (-1) → gW (tP sa) lD b E d mX3_join 79 [some (.ref (b + l0)), some (.int (zI l1)), some (.int (zI l2)), some (.int (zI l3))] [.int (zI (vI T (l0 + 6) l2.toNat)), .int (zI l1), .ref (b + (l0 + 6))] T Q))) ∧ (l2 = (-1) → Q none T))) ∧ (¬ 3 ≤ l3 → 0 ≤ l3 ∧ l3 < 3 ∧ 0 ≤ l1 ∧ l1 < 200 ∧ gW (tP sa) lD b E d mX3_join 23 [some (.ref (b + l0)), some (.int (zI l1)), some (.int (zI l2)), some (.int (zI (l3 + 1)))] [] (gI T (l0 + 13 + l3.toNat) l1.toNat (zI (-1))) Q))
set_option maxRecDepth 4000 in
theorem w_X3_join_23 {sa : Nat → Nat} {b : Nat} {E : Nat × mH} {d : Nat} {l0 : Nat} {l1 : Int} {l2 : Int} {l3 : Int} {T : gT} {Q : Option Value → gT → Prop} (hq_l0 : l0 = 2 ∨ l0 = 21) (h : f_X3_join_23 sa b E d l0 l1 l2 l3 T Q) : gW (tP sa) lD b E d mX3_join 23 [some (.ref (b + l0)), some (.int (zI l1)), some (.int (zI l2)), some (.int (zI l3))] [] T Q := by
  unfold f_X3_join_23 at h
  refine g_iload_n dX3_join_23 rfl ?_
  refine g_iconst (v := zI 3) dX3_join_24 (by decide) ?_
  obtain ⟨a1, h⟩ := h
  refine g_icmp_geZ dX3_join_25 rfl a1 (by decide) (fun c25 => ?_) (fun c25 => ?_)
  · replace h := h.1 c25
    refine g_iload_n dX3_join_43 rfl ?_
    refine g_iconst (v := zI (-1)) dX3_join_44 (by decide) ?_
    obtain ⟨a2, h⟩ := h
    refine g_icmp_neZ dX3_join_45 rfl a2 (by decide) (fun c45 => ?_) (fun c45 => ?_)
    · replace h := h.1 c45
      refine g_aload_n dX3_join_49 rfl ?_
      refine g_getR dX3_join_50 tF_3_27 (lP_0 hq_l0) rfl ?_
      refine g_iload_n dX3_join_53 rfl ?_
      refine g_aload_n dX3_join_54 rfl ?_
      refine g_getR dX3_join_55 tF_3_24 (lP_0 hq_l0) rfl ?_
      refine g_iload_n dX3_join_58 rfl ?_
      obtain ⟨a3, h⟩ := h
      obtain ⟨a4, h⟩ := h
      refine g_ialdZ (v := vI T (l0 + 5) l2.toNat) dX3_join_59 (lP_5 hq_l0) a3 a4 (by decide) (zI_v T (l0 + 5) l2.toNat) ?_
      refine g_iconst (v := zI (-1)) dX3_join_60 (by decide) ?_
      refine g_icmp_neZ dX3_join_61 rfl ⟨vI_lo _ _ _, vI_hi _ _ _⟩ (by decide) (fun c61 => ?_) (fun c61 => ?_)
      · replace h := h.1 c61
        refine g_aload_n dX3_join_73 rfl ?_
        refine g_getR dX3_join_74 tF_3_24 (lP_0 hq_l0) rfl ?_
        refine g_iload_n dX3_join_77 rfl ?_
        refine g_ialdZ (v := vI T (l0 + 5) l2.toNat) dX3_join_78 (lP_5 hq_l0) a3 a4 (by decide) (zI_v T (l0 + 5) l2.toNat) ?_
        exact h
      · replace h := h.2 c61
        refine g_aload_n dX3_join_64 rfl ?_
        refine g_getR dX3_join_65 tF_3_27 (lP_0 hq_l0) rfl ?_
        refine g_iload_n dX3_join_68 rfl ?_
        refine g_ialdZ (v := vI T (l0 + 6) l2.toNat) dX3_join_69 (lP_6 hq_l0) a3 a4 (by decide) (zI_v T (l0 + 6) l2.toNat) ?_
        refine g_goto dX3_join_70 rfl ?_
        exact h
    · replace h := h.2 c45
      exact g_vret dX3_join_48 rfl h
  · replace h := h.2 c25
    refine g_aload_n dX3_join_28 rfl ?_
    refine g_getR dX3_join_29 tF_3_47 (lP_0 hq_l0) rfl ?_
    refine g_iload_n dX3_join_32 rfl ?_
    obtain ⟨a5, h⟩ := h
    obtain ⟨a6, h⟩ := h
    have t7 : l3.toNat < 3 := by omega
    refine g_aaldZ dX3_join_33 (lP_12 hq_l0) a5 a6 (show (3 : Nat) < 2 ^ 31 by decide) (lP_o t7) ?_
    refine g_iload_n dX3_join_34 rfl ?_
    refine g_iconst (v := zI (-1)) dX3_join_35 (by decide) ?_
    obtain ⟨a8, h⟩ := h
    obtain ⟨a9, h⟩ := h
    refine g_iastZ dX3_join_36 (lP_p hq_l0 t7) a8 a9 (by decide) ?_
    refine g_iinc (x := zI l3) (v := zI (l3 + 1)) (L' := [some (.ref (b + l0)), some (.int (zI l1)), some (.int (zI l2)), some (.int (zI (l3 + 1)))]) dX3_join_37 rfl (zI_add _ _) rfl ?_
    refine g_goto dX3_join_40 rfl ?_
    exact h
def f_X3_join_79 (sa : Nat → Nat) (b : Nat) (E : Nat × mH) (d : Nat) (l0 : Nat) (l1 : Int) (l2 : Int) (l3 : Int) (s0 : Int) (s1 : Int) (T : gT) (Q : Option Value → gT → Prop) : Prop := 0 ≤ s1 ∧ s1 < 200 ∧ 0 ≤ l2 ∧ l2 < 200 ∧ ((3 ≤ (vI (gI T (l0 + 6) s1.toNat (zI s0)) (l0 + 16) l2.toNat) → Q none (gI T (l0 + 6) s1.toNat (zI s0))) ∧ (¬ 3 ≤ (vI (gI T (l0 + 6) s1.toNat (zI s0)) (l0 + 16) l2.toNat) → 0 ≤ vI (gI T (l0 + 6) s1.toNat (zI s0)) (l0 + 16) l2.toNat ∧ vI (gI T (l0 + 6) s1.toNat (zI s0)) (l0 + 16) l2.toNat < 3 ∧ Q none (gI (gI (gI T (l0 + 6) s1.toNat (zI s0)) (l0 + 13 + (vI (gI T (l0 + 6) s1.toNat (zI s0)) (l0 + 16) l2.toNat).toNat) l2.toNat (zI l1)) (l0 + 16) l2.toNat (zI ((vI (gI (gI T (l0 + 6) s1.toNat (zI s0)) (l0 + 13 + (vI (gI T (l0 + 6) s1.toNat (zI s0)) (l0 + 16) l2.toNat).toNat) l2.toNat (zI l1)) (l0 + 16) l2.toNat) + 1)))))
set_option maxRecDepth 4000 in
theorem w_X3_join_79 {sa : Nat → Nat} {b : Nat} {E : Nat × mH} {d : Nat} {l0 : Nat} {l1 : Int} {l2 : Int} {l3 : Int} {s0 : Int} {s1 : Int} {T : gT} {Q : Option Value → gT → Prop} (hq_l0 : l0 = 2 ∨ l0 = 21) (h : f_X3_join_79 sa b E d l0 l1 l2 l3 s0 s1 T Q) : gW (tP sa) lD b E d mX3_join 79 [some (.ref (b + l0)), some (.int (zI l1)), some (.int (zI l2)), some (.int (zI l3))] [.int (zI s0), .int (zI s1), .ref (b + (l0 + 6))] T Q := by
  unfold f_X3_join_79 at h
  obtain ⟨a1, h⟩ := h
  obtain ⟨a2, h⟩ := h
  refine g_iastZ dX3_join_79 (lP_6 hq_l0) a1 a2 (by decide) ?_
  refine g_aload_n dX3_join_80 rfl ?_
  refine g_getR dX3_join_81 tF_3_50 (lP_0 hq_l0) rfl ?_
  refine g_iload_n dX3_join_84 rfl ?_
  obtain ⟨a3, h⟩ := h
  obtain ⟨a4, h⟩ := h
  refine g_ialdZ (v := vI (gI T (l0 + 6) s1.toNat (zI s0)) (l0 + 16) l2.toNat) dX3_join_85 (lP_16 hq_l0) a3 a4 (by decide) (zI_v (gI T (l0 + 6) s1.toNat (zI s0)) (l0 + 16) l2.toNat) ?_
  refine g_iconst (v := zI 3) dX3_join_86 (by decide) ?_
  refine g_icmp_geZ dX3_join_87 rfl ⟨vI_lo _ _ _, vI_hi _ _ _⟩ (by decide) (fun c87 => ?_) (fun c87 => ?_)
  · replace h := h.1 c87
    exact g_vret dX3_join_114 rfl h
  · replace h := h.2 c87
    refine g_aload_n dX3_join_90 rfl ?_
    refine g_getR dX3_join_91 tF_3_47 (lP_0 hq_l0) rfl ?_
    refine g_aload_n dX3_join_94 rfl ?_
    refine g_getR dX3_join_95 tF_3_50 (lP_0 hq_l0) rfl ?_
    refine g_iload_n dX3_join_98 rfl ?_
    refine g_ialdZ (v := vI (gI T (l0 + 6) s1.toNat (zI s0)) (l0 + 16) l2.toNat) dX3_join_99 (lP_16 hq_l0) a3 a4 (by decide) (zI_v (gI T (l0 + 6) s1.toNat (zI s0)) (l0 + 16) l2.toNat) ?_
    obtain ⟨a5, h⟩ := h
    obtain ⟨a6, h⟩ := h
    have t7 : (vI (gI T (l0 + 6) s1.toNat (zI s0)) (l0 + 16) l2.toNat).toNat < 3 := by omega
    refine g_aaldZ dX3_join_100 (lP_12 hq_l0) a5 a6 (show (3 : Nat) < 2 ^ 31 by decide) (lP_o t7) ?_
    refine g_iload_n dX3_join_101 rfl ?_
    refine g_iload_n dX3_join_102 rfl ?_
    refine g_iastZ dX3_join_103 (lP_p hq_l0 t7) a3 a4 (by decide) ?_
    refine g_aload_n dX3_join_104 rfl ?_
    refine g_getR dX3_join_105 tF_3_50 (lP_0 hq_l0) rfl ?_
    refine g_iload_n dX3_join_108 rfl ?_
    refine g_dup2 dX3_join_109 rfl rfl ?_
    refine g_ialdZ (v := vI (gI (gI T (l0 + 6) s1.toNat (zI s0)) (l0 + 13 + (vI (gI T (l0 + 6) s1.toNat (zI s0)) (l0 + 16) l2.toNat).toNat) l2.toNat (zI l1)) (l0 + 16) l2.toNat) dX3_join_110 (lP_16 hq_l0) a3 a4 (by decide) (zI_v (gI (gI T (l0 + 6) s1.toNat (zI s0)) (l0 + 13 + (vI (gI T (l0 + 6) s1.toNat (zI s0)) (l0 + 16) l2.toNat).toNat) l2.toNat (zI l1)) (l0 + 16) l2.toNat) ?_
    refine g_iconst (v := zI 1) dX3_join_111 (by decide) ?_
    refine g_iaddZ dX3_join_112 ?_
    refine g_iastZ dX3_join_113 (lP_16 hq_l0) a3 a4 (by decide) ?_
    exact g_vret dX3_join_114 rfl h
def f_X3_variablesIn (sa : Nat → Nat) (b : Nat) (E : Nat × mH) (d : Nat) (l0 : Nat) (l1 : Int) (l2 : Int) (T : gT) (Q : Option Value → gT → Prop) : Prop := (-2147483648 ≤ l1 ∧ l1 < 2147483648) ∧ gW (tP sa) lD b E (d + 1) mX3_variablesIn 9 [some (.ref (b + l0)), some (.int (zI l1)), some (.int (zI l2)), some (.int (zI 0)), some (.int (zI (if l1 < 0 then 0 else l1)))] [] T Q
set_option maxRecDepth 4000 in
theorem w_X3_variablesIn {sa : Nat → Nat} {b : Nat} {E : Nat × mH} {d : Nat} {l0 : Nat} {l1 : Int} {l2 : Int} {T : gT} {Q : Option Value → gT → Prop} (hq_l0 : l0 = 2 ∨ l0 = 21) (h : f_X3_variablesIn sa b E d l0 l1 l2 T Q) : gC (tP sa) lD b E (d + 1) mX3_variablesIn [.ref (b + l0), .int (zI l1), .int (zI l2)] T Q := by
  unfold f_X3_variablesIn at h
  refine ⟨Nat.le_of_ble_eq_true rfl, ?_⟩
  show gW (tP sa) lD b E (d + 1) mX3_variablesIn 0 [some (.ref (b + l0)), some (.int (zI l1)), some (.int (zI l2)), none, none] [] T Q
  refine g_iconst (v := zI 0) dX3_variablesIn_0 (by decide) ?_
  refine g_istore_n (L' := [some (.ref (b + l0)), some (.int (zI l1)), some (.int (zI l2)), some (.int (zI 0)), none]) dX3_variablesIn_1 rfl ?_
  refine g_iload_n dX3_variablesIn_2 rfl ?_
  refine g_iconst (v := zI 0) dX3_variablesIn_3 (by decide) ?_
  obtain ⟨a1, h⟩ := h
  refine g_primS (st1 := [.int (zI (if l1 < 0 then 0 else l1))]) dX3_variablesIn_4 tG_3_63 rfl (fun S9 => congrArg (fun v9 => some (Value.int v9 :: _, S9)) (zI_max (x := l1) (y := 0) a1 (by decide))) rfl ?_
  refine g_istore (L' := [some (.ref (b + l0)), some (.int (zI l1)), some (.int (zI l2)), some (.int (zI 0)), some (.int (zI (if l1 < 0 then 0 else l1)))]) dX3_variablesIn_7 rfl ?_
  exact h
def f_X3_variablesIn_9 (sa : Nat → Nat) (b : Nat) (E : Nat × mH) (d : Nat) (l0 : Nat) (l1 : Int) (l2 : Int) (l3 : Int) (l4 : Int) (T : gT) (Q : Option Value → gT → Prop) : Prop := (-2147483648 ≤ l4 ∧ l4 < 2147483648) ∧ (-2147483648 ≤ l2 ∧ l2 < 2147483648) ∧ ((l2 ≤ l4 → Q (some (.int (zI l3))) T) ∧ (¬ l2 ≤ l4 → (((vI T l0 0) ≤ l4 → Q (some (.int (zI l3))) T) ∧ (¬ (vI T l0 0) ≤ l4 → gC (tP sa) lD b E d mX3_variablesOf [.ref (b + l0), .int (zI l4)] T (fun r T28 => pI r (fun v28 => gW (tP sa) lD b E (d + 1) mX3_variablesIn 9 [some (.ref (b + l0)), some (.int (zI l1)), some (.int (zI l2)), some (.int (zI (l3 + v28))), some (.int (zI (l4 + 1)))] [] T28 Q))))))
set_option maxRecDepth 4000 in
theorem w_X3_variablesIn_9 {sa : Nat → Nat} {b : Nat} {E : Nat × mH} {d : Nat} {l0 : Nat} {l1 : Int} {l2 : Int} {l3 : Int} {l4 : Int} {T : gT} {Q : Option Value → gT → Prop} (hq_l0 : l0 = 2 ∨ l0 = 21) (h : f_X3_variablesIn_9 sa b E d l0 l1 l2 l3 l4 T Q) : gW (tP sa) lD b E (d + 1) mX3_variablesIn 9 [some (.ref (b + l0)), some (.int (zI l1)), some (.int (zI l2)), some (.int (zI l3)), some (.int (zI l4))] [] T Q := by
  unfold f_X3_variablesIn_9 at h
  refine g_iload dX3_variablesIn_9 rfl ?_
  refine g_iload_n dX3_variablesIn_11 rfl ?_
  obtain ⟨a1, h⟩ := h
  obtain ⟨a2, h⟩ := h
  refine g_icmp_geZ dX3_variablesIn_12 rfl a1 a2 (fun c12 => ?_) (fun c12 => ?_)
  · replace h := h.1 c12
    refine g_iload_n dX3_variablesIn_39 rfl ?_
    exact g_iret dX3_variablesIn_40 rfl rfl h
  · replace h := h.2 c12
    refine g_iload dX3_variablesIn_15 rfl ?_
    refine g_aload_n dX3_variablesIn_17 rfl ?_
    refine g_getZ (v := vI T l0 0) dX3_variablesIn_18 tF_3_59 (lP_0 hq_l0) rfl (zI_v _ _ _) ?_
    refine g_icmp_geZ dX3_variablesIn_21 rfl a1 ⟨vI_lo _ _ _, vI_hi _ _ _⟩ (fun c21 => ?_) (fun c21 => ?_)
    · replace h := h.1 c21
      refine g_iload_n dX3_variablesIn_39 rfl ?_
      exact g_iret dX3_variablesIn_40 rfl rfl h
    · replace h := h.2 c21
      refine g_iload_n dX3_variablesIn_24 rfl ?_
      refine g_aload_n dX3_variablesIn_25 rfl ?_
      refine g_iload dX3_variablesIn_26 rfl ?_
      refine g_callV [.ref (b + l0), .int (zI l4)] [.int (zI l3)] dX3_variablesIn_28 tG_3_69 tM_43 (lP_0 hq_l0) rfl rfl rfl rfl (by decide) rfl ?_
      refine gC.mono h (Nat.le_refl _) ?_
      rintro _ T28 ⟨v28, rfl, h⟩
      refine g_iaddZ dX3_variablesIn_31 ?_
      refine g_istore_n (L' := [some (.ref (b + l0)), some (.int (zI l1)), some (.int (zI l2)), some (.int (zI (l3 + v28))), some (.int (zI l4))]) dX3_variablesIn_32 rfl ?_
      refine g_iinc (x := zI l4) (v := zI (l4 + 1)) (L' := [some (.ref (b + l0)), some (.int (zI l1)), some (.int (zI l2)), some (.int (zI (l3 + v28))), some (.int (zI (l4 + 1)))]) dX3_variablesIn_33 rfl (zI_add _ _) rfl ?_
      refine g_goto dX3_variablesIn_36 rfl ?_
      exact h
def f_X4_fail (sa : Nat → Nat) (b : Nat) (E : Nat × mH) (d : Nat) (l1 : Int) (T : gT) (Q : Option Value → gT → Prop) : Prop := ((¬ (vI T 40 3) = (-1) → Q none T) ∧ ((vI T 40 3) = (-1) → Q none (gI T 40 3 (zI l1))))
set_option maxRecDepth 4000 in
theorem w_X4_fail {sa : Nat → Nat} {b : Nat} {E : Nat × mH} {d : Nat} {l1 : Int} {T : gT} {Q : Option Value → gT → Prop} (h : f_X4_fail sa b E d l1 T Q) : gC (tP sa) lD b E d mX4_fail [.ref (b + 40), .int (zI l1)] T Q := by
  unfold f_X4_fail at h
  refine ⟨Nat.le_of_ble_eq_true rfl, ?_⟩
  show gW (tP sa) lD b E d mX4_fail 0 [some (.ref (b + 40)), some (.int (zI l1))] [] T Q
  refine g_aload_n dX4_fail_0 rfl ?_
  refine g_getZ (v := vI T 40 3) dX4_fail_1 tF_4_47 lD_40 rfl (zI_v T 40 3) ?_
  refine g_iconst (v := zI (-1)) dX4_fail_4 (by decide) ?_
  refine g_icmp_neZ dX4_fail_5 rfl ⟨vI_lo _ _ _, vI_hi _ _ _⟩ (by decide) (fun c5 => ?_) (fun c5 => ?_)
  · replace h := h.1 c5
    exact g_vret dX4_fail_13 rfl h
  · replace h := h.2 c5
    refine g_aload_n dX4_fail_8 rfl ?_
    refine g_iload_n dX4_fail_9 rfl ?_
    refine g_putI dX4_fail_10 tF_4_47 lD_40 rfl rfl ⟨rfl, rfl⟩ rfl ?_
    exact g_vret dX4_fail_13 rfl h
def f_X4_look (sa : Nat → Nat) (b : Nat) (E : Nat × mH) (d : Nat) (T : gT) (Q : Option Value → gT → Prop) : Prop := (((vI T 40 1) ≤ (vI T 40 2) → gC (tP sa) lD b E d mX4_byteAt [.ref (b + 40), .int (zI (vI T 40 2))] T (fun r T55 => pI r (fun v55 => Q (some (.int (zI v55))) T55))) ∧ (¬ (vI T 40 1) ≤ (vI T 40 2) → gC (tP sa) lD b E d mX4_byteAt [.ref (b + 40), .int (zI (vI T 40 2))] T (fun r T16 => pI r (fun v16 => (-2147483648 ≤ v16 ∧ v16 < 2147483648) ∧ ((v16 = 32 → gW (tP sa) lD b E (d + 1) mX4_look 0 [some (.ref (b + 40))] [] (gI T16 40 2 (zI ((vI T16 40 2) + 1))) Q) ∧ (¬ v16 = 32 → gC (tP sa) lD b E d mX4_byteAt [.ref (b + 40), .int (zI (vI T16 40 2))] T16 (fun r T29 => pI r (fun v29 => (-2147483648 ≤ v29 ∧ v29 < 2147483648) ∧ ((¬ v29 = 10 → gC (tP sa) lD b E d mX4_byteAt [.ref (b + 40), .int (zI (vI T29 40 2))] T29 (fun r T55 => pI r (fun v55 => Q (some (.int (zI v55))) T55))) ∧ (v29 = 10 → gW (tP sa) lD b E (d + 1) mX4_look 0 [some (.ref (b + 40))] [] (gI T29 40 2 (zI ((vI T29 40 2) + 1))) Q))))))))))
set_option maxRecDepth 4000 in
theorem w_X4_look {sa : Nat → Nat} {b : Nat} {E : Nat × mH} {d : Nat} {T : gT} {Q : Option Value → gT → Prop} (h : f_X4_look sa b E d T Q) : gC (tP sa) lD b E (d + 1) mX4_look [.ref (b + 40)] T Q := by
  unfold f_X4_look at h
  refine ⟨Nat.le_of_ble_eq_true rfl, ?_⟩
  show gW (tP sa) lD b E (d + 1) mX4_look 0 [some (.ref (b + 40))] [] T Q
  refine g_aload_n dX4_look_0 rfl ?_
  refine g_getZ (v := vI T 40 2) dX4_look_1 tF_4_44 lD_40 rfl (zI_v T 40 2) ?_
  refine g_aload_n dX4_look_4 rfl ?_
  refine g_getZ (v := vI T 40 1) dX4_look_5 tF_4_40 lD_40 rfl (zI_v T 40 1) ?_
  refine g_icmp_geZ dX4_look_8 rfl ⟨vI_lo _ _ _, vI_hi _ _ _⟩ ⟨vI_lo _ _ _, vI_hi _ _ _⟩ (fun c8 => ?_) (fun c8 => ?_)
  · replace h := h.1 c8
    refine g_aload_n dX4_look_50 rfl ?_
    refine g_aload_n dX4_look_51 rfl ?_
    refine g_getZ (v := vI T 40 2) dX4_look_52 tF_4_44 lD_40 rfl (zI_v T 40 2) ?_
    refine g_callV [.ref (b + 40), .int (zI (vI T 40 2))] [] dX4_look_55 tG_4_86 tM_47 lD_40 rfl rfl rfl rfl (by decide) rfl ?_
    refine gC.mono h (Nat.le_refl _) ?_
    rintro _ T55 ⟨v55, rfl, h⟩
    exact g_iret dX4_look_58 rfl rfl h
  · replace h := h.2 c8
    refine g_aload_n dX4_look_11 rfl ?_
    refine g_aload_n dX4_look_12 rfl ?_
    refine g_getZ (v := vI T 40 2) dX4_look_13 tF_4_44 lD_40 rfl (zI_v T 40 2) ?_
    refine g_callV [.ref (b + 40), .int (zI (vI T 40 2))] [] dX4_look_16 tG_4_86 tM_47 lD_40 rfl rfl rfl rfl (by decide) rfl ?_
    refine gC.mono h (Nat.le_refl _) ?_
    rintro _ T16 ⟨v16, rfl, h⟩
    refine g_bipush (v := zI 32) dX4_look_19 (by decide) ?_
    obtain ⟨a1, h⟩ := h
    refine g_icmp_eqZ dX4_look_21 rfl a1 (by decide) (fun c21 => ?_) (fun c21 => ?_)
    · replace h := h.1 c21
      refine g_aload_n dX4_look_37 rfl ?_
      refine g_dup dX4_look_38 rfl ?_
      refine g_getZ (v := vI T16 40 2) dX4_look_39 tF_4_44 lD_40 rfl (zI_v T16 40 2) ?_
      refine g_iconst (v := zI 1) dX4_look_42 (by decide) ?_
      refine g_iaddZ dX4_look_43 ?_
      refine g_putI dX4_look_44 tF_4_44 lD_40 rfl rfl ⟨rfl, rfl⟩ rfl ?_
      refine g_goto dX4_look_47 rfl ?_
      exact h
    · replace h := h.2 c21
      refine g_aload_n dX4_look_24 rfl ?_
      refine g_aload_n dX4_look_25 rfl ?_
      refine g_getZ (v := vI T16 40 2) dX4_look_26 tF_4_44 lD_40 rfl (zI_v T16 40 2) ?_
      refine g_callV [.ref (b + 40), .int (zI (vI T16 40 2))] [] dX4_look_29 tG_4_86 tM_47 lD_40 rfl rfl rfl rfl (by decide) rfl ?_
      refine gC.mono h (Nat.le_refl _) ?_
      rintro _ T29 ⟨v29, rfl, h⟩
      refine g_bipush (v := zI 10) dX4_look_32 (by decide) ?_
      obtain ⟨a2, h⟩ := h
      refine g_icmp_neZ dX4_look_34 rfl a2 (by decide) (fun c34 => ?_) (fun c34 => ?_)
      · replace h := h.1 c34
        refine g_aload_n dX4_look_50 rfl ?_
        refine g_aload_n dX4_look_51 rfl ?_
        refine g_getZ (v := vI T29 40 2) dX4_look_52 tF_4_44 lD_40 rfl (zI_v T29 40 2) ?_
        refine g_callV [.ref (b + 40), .int (zI (vI T29 40 2))] [] dX4_look_55 tG_4_86 tM_47 lD_40 rfl rfl rfl rfl (by decide) rfl ?_
        refine gC.mono h (Nat.le_refl _) ?_
        rintro _ T55 ⟨v55, rfl, h⟩
        exact g_iret dX4_look_58 rfl rfl h
      · replace h := h.2 c34
        refine g_aload_n dX4_look_37 rfl ?_
        refine g_dup dX4_look_38 rfl ?_
        refine g_getZ (v := vI T29 40 2) dX4_look_39 tF_4_44 lD_40 rfl (zI_v T29 40 2) ?_
        refine g_iconst (v := zI 1) dX4_look_42 (by decide) ?_
        refine g_iaddZ dX4_look_43 ?_
        refine g_putI dX4_look_44 tF_4_44 lD_40 rfl rfl ⟨rfl, rfl⟩ rfl ?_
        refine g_goto dX4_look_47 rfl ?_
        exact h
def f_X4_look_0 (sa : Nat → Nat) (b : Nat) (E : Nat × mH) (d : Nat) (T : gT) (Q : Option Value → gT → Prop) : Prop := (((vI T 40 1) ≤ (vI T 40 2) → gC (tP sa) lD b E d mX4_byteAt [.ref (b + 40), .int (zI (vI T 40 2))] T (fun r T55 => pI r (fun v55 => Q (some (.int (zI v55))) T55))) ∧ (¬ (vI T 40 1) ≤ (vI T 40 2) → gC (tP sa) lD b E d mX4_byteAt [.ref (b + 40), .int (zI (vI T 40 2))] T (fun r T16 => pI r (fun v16 => (-2147483648 ≤ v16 ∧ v16 < 2147483648) ∧ ((v16 = 32 → gW (tP sa) lD b E (d + 1) mX4_look 0 [some (.ref (b + 40))] [] (gI T16 40 2 (zI ((vI T16 40 2) + 1))) Q) ∧ (¬ v16 = 32 → gC (tP sa) lD b E d mX4_byteAt [.ref (b + 40), .int (zI (vI T16 40 2))] T16 (fun r T29 => pI r (fun v29 => (-2147483648 ≤ v29 ∧ v29 < 2147483648) ∧ ((¬ v29 = 10 → gC (tP sa) lD b E d mX4_byteAt [.ref (b + 40), .int (zI (vI T29 40 2))] T29 (fun r T55 => pI r (fun v55 => Q (some (.int (zI v55))) T55))) ∧ (v29 = 10 → gW (tP sa) lD b E (d + 1) mX4_look 0 [some (.ref (b + 40))] [] (gI T29 40 2 (zI ((vI T29 40 2) + 1))) Q))))))))))
set_option maxRecDepth 4000 in
theorem w_X4_look_0 {sa : Nat → Nat} {b : Nat} {E : Nat × mH} {d : Nat} {T : gT} {Q : Option Value → gT → Prop} (h : f_X4_look_0 sa b E d T Q) : gW (tP sa) lD b E (d + 1) mX4_look 0 [some (.ref (b + 40))] [] T Q := by
  unfold f_X4_look_0 at h
  refine g_aload_n dX4_look_0 rfl ?_
  refine g_getZ (v := vI T 40 2) dX4_look_1 tF_4_44 lD_40 rfl (zI_v T 40 2) ?_
  refine g_aload_n dX4_look_4 rfl ?_
  refine g_getZ (v := vI T 40 1) dX4_look_5 tF_4_40 lD_40 rfl (zI_v T 40 1) ?_
  refine g_icmp_geZ dX4_look_8 rfl ⟨vI_lo _ _ _, vI_hi _ _ _⟩ ⟨vI_lo _ _ _, vI_hi _ _ _⟩ (fun c8 => ?_) (fun c8 => ?_)
  · replace h := h.1 c8
    refine g_aload_n dX4_look_50 rfl ?_
    refine g_aload_n dX4_look_51 rfl ?_
    refine g_getZ (v := vI T 40 2) dX4_look_52 tF_4_44 lD_40 rfl (zI_v T 40 2) ?_
    refine g_callV [.ref (b + 40), .int (zI (vI T 40 2))] [] dX4_look_55 tG_4_86 tM_47 lD_40 rfl rfl rfl rfl (by decide) rfl ?_
    refine gC.mono h (Nat.le_refl _) ?_
    rintro _ T55 ⟨v55, rfl, h⟩
    exact g_iret dX4_look_58 rfl rfl h
  · replace h := h.2 c8
    refine g_aload_n dX4_look_11 rfl ?_
    refine g_aload_n dX4_look_12 rfl ?_
    refine g_getZ (v := vI T 40 2) dX4_look_13 tF_4_44 lD_40 rfl (zI_v T 40 2) ?_
    refine g_callV [.ref (b + 40), .int (zI (vI T 40 2))] [] dX4_look_16 tG_4_86 tM_47 lD_40 rfl rfl rfl rfl (by decide) rfl ?_
    refine gC.mono h (Nat.le_refl _) ?_
    rintro _ T16 ⟨v16, rfl, h⟩
    refine g_bipush (v := zI 32) dX4_look_19 (by decide) ?_
    obtain ⟨a1, h⟩ := h
    refine g_icmp_eqZ dX4_look_21 rfl a1 (by decide) (fun c21 => ?_) (fun c21 => ?_)
    · replace h := h.1 c21
      refine g_aload_n dX4_look_37 rfl ?_
      refine g_dup dX4_look_38 rfl ?_
      refine g_getZ (v := vI T16 40 2) dX4_look_39 tF_4_44 lD_40 rfl (zI_v T16 40 2) ?_
      refine g_iconst (v := zI 1) dX4_look_42 (by decide) ?_
      refine g_iaddZ dX4_look_43 ?_
      refine g_putI dX4_look_44 tF_4_44 lD_40 rfl rfl ⟨rfl, rfl⟩ rfl ?_
      refine g_goto dX4_look_47 rfl ?_
      exact h
    · replace h := h.2 c21
      refine g_aload_n dX4_look_24 rfl ?_
      refine g_aload_n dX4_look_25 rfl ?_
      refine g_getZ (v := vI T16 40 2) dX4_look_26 tF_4_44 lD_40 rfl (zI_v T16 40 2) ?_
      refine g_callV [.ref (b + 40), .int (zI (vI T16 40 2))] [] dX4_look_29 tG_4_86 tM_47 lD_40 rfl rfl rfl rfl (by decide) rfl ?_
      refine gC.mono h (Nat.le_refl _) ?_
      rintro _ T29 ⟨v29, rfl, h⟩
      refine g_bipush (v := zI 10) dX4_look_32 (by decide) ?_
      obtain ⟨a2, h⟩ := h
      refine g_icmp_neZ dX4_look_34 rfl a2 (by decide) (fun c34 => ?_) (fun c34 => ?_)
      · replace h := h.1 c34
        refine g_aload_n dX4_look_50 rfl ?_
        refine g_aload_n dX4_look_51 rfl ?_
        refine g_getZ (v := vI T29 40 2) dX4_look_52 tF_4_44 lD_40 rfl (zI_v T29 40 2) ?_
        refine g_callV [.ref (b + 40), .int (zI (vI T29 40 2))] [] dX4_look_55 tG_4_86 tM_47 lD_40 rfl rfl rfl rfl (by decide) rfl ?_
        refine gC.mono h (Nat.le_refl _) ?_
        rintro _ T55 ⟨v55, rfl, h⟩
        exact g_iret dX4_look_58 rfl rfl h
      · replace h := h.2 c34
        refine g_aload_n dX4_look_37 rfl ?_
        refine g_dup dX4_look_38 rfl ?_
        refine g_getZ (v := vI T29 40 2) dX4_look_39 tF_4_44 lD_40 rfl (zI_v T29 40 2) ?_
        refine g_iconst (v := zI 1) dX4_look_42 (by decide) ?_
        refine g_iaddZ dX4_look_43 ?_
        refine g_putI dX4_look_44 tF_4_44 lD_40 rfl rfl ⟨rfl, rfl⟩ rfl ?_
        refine g_goto dX4_look_47 rfl ?_
        exact h
def f_X4_meaningOf (sa : Nat → Nat) (b : Nat) (E : Nat × mH) (d : Nat) (l1 : Int) (T : gT) (Q : Option Value → gT → Prop) : Prop := gW (tP sa) lD b E d mX4_meaningOf 7 [some (.ref (b + 40)), some (.int (zI l1)), some (.int (zI ((vI T 40 9) - 1)))] [] T Q
set_option maxRecDepth 4000 in
theorem w_X4_meaningOf {sa : Nat → Nat} {b : Nat} {E : Nat × mH} {d : Nat} {l1 : Int} {T : gT} {Q : Option Value → gT → Prop} (h : f_X4_meaningOf sa b E d l1 T Q) : gC (tP sa) lD b E d mX4_meaningOf [.ref (b + 40), .int (zI l1)] T Q := by
  unfold f_X4_meaningOf at h
  refine ⟨Nat.le_of_ble_eq_true rfl, ?_⟩
  show gW (tP sa) lD b E d mX4_meaningOf 0 [some (.ref (b + 40)), some (.int (zI l1)), none] [] T Q
  refine g_aload_n dX4_meaningOf_0 rfl ?_
  refine g_getZ (v := vI T 40 9) dX4_meaningOf_1 tF_4_65 lD_40 rfl (zI_v T 40 9) ?_
  refine g_iconst (v := zI 1) dX4_meaningOf_4 (by decide) ?_
  refine g_isubZ dX4_meaningOf_5 ?_
  refine g_istore_n (L' := [some (.ref (b + 40)), some (.int (zI l1)), some (.int (zI ((vI T 40 9) - 1)))]) dX4_meaningOf_6 rfl ?_
  exact h
def f_X4_meaningOf_7 (sa : Nat → Nat) (b : Nat) (E : Nat × mH) (d : Nat) (l1 : Int) (l2 : Int) (T : gT) (Q : Option Value → gT → Prop) : Prop := (-2147483648 ≤ l2 ∧ l2 < 2147483648) ∧ ((l2 < 0 → Q (some (.int (zI (-1)))) T) ∧ (¬ l2 < 0 → 0 ≤ l2 ∧ l2 < 100 ∧ (-2147483648 ≤ l1 ∧ l1 < 2147483648) ∧ ((¬ (vI T 41 l2.toNat) = l1 → gW (tP sa) lD b E d mX4_meaningOf 7 [some (.ref (b + 40)), some (.int (zI l1)), some (.int (zI (l2 - 1)))] [] T Q) ∧ ((vI T 41 l2.toNat) = l1 → Q (some (.int (zI (vI T 42 l2.toNat)))) T))))
set_option maxRecDepth 4000 in
theorem w_X4_meaningOf_7 {sa : Nat → Nat} {b : Nat} {E : Nat × mH} {d : Nat} {l1 : Int} {l2 : Int} {T : gT} {Q : Option Value → gT → Prop} (h : f_X4_meaningOf_7 sa b E d l1 l2 T Q) : gW (tP sa) lD b E d mX4_meaningOf 7 [some (.ref (b + 40)), some (.int (zI l1)), some (.int (zI l2))] [] T Q := by
  unfold f_X4_meaningOf_7 at h
  refine g_iload_n dX4_meaningOf_7 rfl ?_
  obtain ⟨a1, h⟩ := h
  refine g_if_ltZ dX4_meaningOf_8 rfl a1  (fun c8 => ?_) (fun c8 => ?_)
  · replace h := h.1 c8
    refine g_iconst (v := zI (-1)) dX4_meaningOf_34 (by decide) ?_
    exact g_iret dX4_meaningOf_35 rfl rfl h
  · replace h := h.2 c8
    refine g_aload_n dX4_meaningOf_11 rfl ?_
    refine g_getR dX4_meaningOf_12 tF_4_9 lD_40 rfl ?_
    refine g_iload_n dX4_meaningOf_15 rfl ?_
    obtain ⟨a2, h⟩ := h
    obtain ⟨a3, h⟩ := h
    refine g_ialdZ (v := vI T 41 l2.toNat) dX4_meaningOf_16 lD_41 a2 a3 (by decide) (zI_v T 41 l2.toNat) ?_
    refine g_iload_n dX4_meaningOf_17 rfl ?_
    obtain ⟨a4, h⟩ := h
    refine g_icmp_neZ dX4_meaningOf_18 rfl ⟨vI_lo _ _ _, vI_hi _ _ _⟩ a4 (fun c18 => ?_) (fun c18 => ?_)
    · replace h := h.1 c18
      refine g_iinc (x := zI l2) (v := zI (l2 - 1)) (L' := [some (.ref (b + 40)), some (.int (zI l1)), some (.int (zI (l2 - 1)))]) dX4_meaningOf_28 rfl ((zI_add _ _).trans (congrArg zI (show _ = l2 - 1 by omega))) rfl ?_
      refine g_goto dX4_meaningOf_31 rfl ?_
      exact h
    · replace h := h.2 c18
      refine g_aload_n dX4_meaningOf_21 rfl ?_
      refine g_getR dX4_meaningOf_22 tF_4_15 lD_40 rfl ?_
      refine g_iload_n dX4_meaningOf_25 rfl ?_
      refine g_ialdZ (v := vI T 42 l2.toNat) dX4_meaningOf_26 lD_42 a2 a3 (by decide) (zI_v T 42 l2.toNat) ?_
      exact g_iret dX4_meaningOf_27 rfl rfl h
def f_X4_nameLet (sa : Nat → Nat) (b : Nat) (E : Nat × mH) (d : Nat) (l1 : Int) (T : gT) (Q : Option Value → gT → Prop) : Prop := (((vI T 40 14) ≤ 0 → Q none T) ∧ (¬ (vI T 40 14) ≤ 0 → 0 ≤ (vI T 40 14) - 1 ∧ (vI T 40 14) - 1 < 40 ∧ Q none (gI T 46 ((vI T 40 14) - 1).toNat (zI l1))))
set_option maxRecDepth 4000 in
theorem w_X4_nameLet {sa : Nat → Nat} {b : Nat} {E : Nat × mH} {d : Nat} {l1 : Int} {T : gT} {Q : Option Value → gT → Prop} (h : f_X4_nameLet sa b E d l1 T Q) : gC (tP sa) lD b E d mX4_nameLet [.ref (b + 40), .int (zI l1)] T Q := by
  unfold f_X4_nameLet at h
  refine ⟨Nat.le_of_ble_eq_true rfl, ?_⟩
  show gW (tP sa) lD b E d mX4_nameLet 0 [some (.ref (b + 40)), some (.int (zI l1))] [] T Q
  refine g_aload_n dX4_nameLet_0 rfl ?_
  refine g_getZ (v := vI T 40 14) dX4_nameLet_1 tF_4_68 lD_40 rfl (zI_v T 40 14) ?_
  refine g_if_leZ dX4_nameLet_4 rfl ⟨vI_lo _ _ _, vI_hi _ _ _⟩  (fun c4 => ?_) (fun c4 => ?_)
  · replace h := h.1 c4
    exact g_vret dX4_nameLet_19 rfl h
  · replace h := h.2 c4
    refine g_aload_n dX4_nameLet_7 rfl ?_
    refine g_getR dX4_nameLet_8 tF_4_27 lD_40 rfl ?_
    refine g_aload_n dX4_nameLet_11 rfl ?_
    refine g_getZ (v := vI T 40 14) dX4_nameLet_12 tF_4_68 lD_40 rfl (zI_v T 40 14) ?_
    refine g_iconst (v := zI 1) dX4_nameLet_15 (by decide) ?_
    refine g_isubZ dX4_nameLet_16 ?_
    refine g_iload_n dX4_nameLet_17 rfl ?_
    obtain ⟨a1, h⟩ := h
    obtain ⟨a2, h⟩ := h
    refine g_iastZ dX4_nameLet_18 lD_46 a1 a2 (by decide) ?_
    exact g_vret dX4_nameLet_19 rfl h
def f_X4_takeFormKind (sa : Nat → Nat) (b : Nat) (E : Nat × mH) (d : Nat) (T : gT) (Q : Option Value → gT → Prop) : Prop := gC (tP sa) lD b E d mX4_look [.ref (b + 40)] T (fun r T1 => pI r (fun v1 => gW (tP sa) lD b E (d + 1) mX4_takeFormKind 7 [some (.ref (b + 40)), some (.int (zI v1)), some (.int (zI 0)), none] [] T1 Q))
set_option maxRecDepth 4000 in
theorem w_X4_takeFormKind {sa : Nat → Nat} {b : Nat} {E : Nat × mH} {d : Nat} {T : gT} {Q : Option Value → gT → Prop} (hE : mSta sa b E) (h : f_X4_takeFormKind sa b E d T Q) : gC (tP sa) lD b E (d + 1) mX4_takeFormKind [.ref (b + 40)] T Q := by
  unfold f_X4_takeFormKind at h
  have hE9 := hE
  obtain ⟨⟨ha_100, f100, hk_100, hf_100⟩, ⟨ha_101, f101, hk_101, hf_101⟩⟩ := hE
  refine ⟨Nat.le_of_ble_eq_true rfl, ?_⟩
  show gW (tP sa) lD b E (d + 1) mX4_takeFormKind 0 [some (.ref (b + 40)), none, none, none] [] T Q
  refine g_aload_n dX4_takeFormKind_0 rfl ?_
  refine g_callV [.ref (b + 40)] [] dX4_takeFormKind_1 tG_4_78 tM_48 lD_40 rfl rfl rfl rfl (by decide) rfl ?_
  refine gC.mono h (Nat.le_refl _) ?_
  rintro _ T1 ⟨v1, rfl, h⟩
  refine g_istore_n (L' := [some (.ref (b + 40)), some (.int (zI v1)), none, none]) dX4_takeFormKind_4 rfl ?_
  refine g_iconst (v := zI 0) dX4_takeFormKind_5 (by decide) ?_
  refine g_istore_n (L' := [some (.ref (b + 40)), some (.int (zI v1)), some (.int (zI 0)), none]) dX4_takeFormKind_6 rfl ?_
  exact h
def f_X4_takeFormKind_7 (sa : Nat → Nat) (b : Nat) (E : Nat × mH) (d : Nat) (l1 : Int) (l2 : Int) (T : gT) (Q : Option Value → gT → Prop) : Prop := (-2147483648 ≤ l2 ∧ l2 < 2147483648) ∧ ((5 ≤ l2 → gC (tP sa) lD b E d mX4_wordEnd [.ref (b + 40)] T (fun r T78 => pI r (fun v78 => gC (tP sa) lD b E d mX4_isWord [.ref (b + 40), .int (zI v78), .ref (sa 0)] T78 (fun r T86 => pI r (fun v86 => (-2147483648 ≤ v86 ∧ v86 < 2147483648) ∧ ((v86 = 0 → gC (tP sa) lD b E d mX4_isWord [.ref (b + 40), .int (zI v78), .ref (sa 1)] T86 (fun r T100 => pI r (fun v100 => (-2147483648 ≤ v100 ∧ v100 < 2147483648) ∧ ((v100 = 0 → gC (tP sa) lD b E d mX4_isWord [.ref (b + 40), .int (zI v78), .ref (sa 2)] T100 (fun r T114 => pI r (fun v114 => (-2147483648 ≤ v114 ∧ v114 < 2147483648) ∧ ((v114 = 0 → Q (some (.int (zI 11))) (gI T114 40 2 (zI (vI T114 40 2)))) ∧ (¬ v114 = 0 → Q (some (.int (zI 3))) (gI T114 40 2 (zI v78))))))) ∧ (¬ v100 = 0 → Q (some (.int (zI 5))) (gI T100 40 2 (zI v78))))))) ∧ (¬ v86 = 0 → Q (some (.int (zI 4))) (gI T86 40 2 (zI v78))))))))) ∧ (¬ 5 ≤ l2 → (-2147483648 ≤ l1 ∧ l1 < 2147483648) ∧ ((¬ l1 = 45 → gW (tP sa) lD b E (d + 1) mX4_takeFormKind 41 [some (.ref (b + 40)), some (.int (zI l1)), some (.int (zI l2)), none] [] T Q) ∧ (l1 = 45 → gC (tP sa) lD b E d mX4_byteAt [.ref (b + 40), .int (zI ((vI T 40 2) + 1))] T (fun r T28 => pI r (fun v28 => (-2147483648 ≤ v28 ∧ v28 < 2147483648) ∧ ((¬ (zD v28 = true) → gW (tP sa) lD b E (d + 1) mX4_takeFormKind 41 [some (.ref (b + 40)), some (.int (zI l1)), some (.int (zI l2)), none] [] T28 Q) ∧ ((zD v28 = true) → gW (tP sa) lD b E (d + 1) mX4_takeFormKind 42 [some (.ref (b + 40)), some (.int (zI l1)), some (.int (zI l2)), none] [.int (zI 1)] T28 Q))))))))
set_option maxRecDepth 4000 in
theorem w_X4_takeFormKind_7 {sa : Nat → Nat} {b : Nat} {E : Nat × mH} {d : Nat} {l1 : Int} {l2 : Int} {T : gT} {Q : Option Value → gT → Prop} (hE : mSta sa b E) (h : f_X4_takeFormKind_7 sa b E d l1 l2 T Q) : gW (tP sa) lD b E (d + 1) mX4_takeFormKind 7 [some (.ref (b + 40)), some (.int (zI l1)), some (.int (zI l2)), none] [] T Q := by
  unfold f_X4_takeFormKind_7 at h
  have hE9 := hE
  obtain ⟨⟨ha_100, f100, hk_100, hf_100⟩, ⟨ha_101, f101, hk_101, hf_101⟩⟩ := hE
  refine g_iload_n dX4_takeFormKind_7 rfl ?_
  refine g_getstatic dX4_takeFormKind_8 (tZ_4_141 sa) ?_
  refine g_clenZ (z := 5) dX4_takeFormKind_11 ha_101 hk_101 rfl ?_
  obtain ⟨a1, h⟩ := h
  refine g_icmp_geZ dX4_takeFormKind_12 rfl a1 (by decide) (fun c12 => ?_) (fun c12 => ?_)
  · replace h := h.1 c12
    refine g_aload_n dX4_takeFormKind_77 rfl ?_
    refine g_callV [.ref (b + 40)] [] dX4_takeFormKind_78 tG_4_144 tM_60 lD_40 rfl rfl rfl rfl (by decide) rfl ?_
    refine gC.mono h (Nat.le_refl _) ?_
    rintro _ T78 ⟨v78, rfl, h⟩
    refine g_istore_n (L' := [some (.ref (b + 40)), some (.int (zI l1)), some (.int (zI v78)), none]) dX4_takeFormKind_81 rfl ?_
    refine g_aload_n dX4_takeFormKind_82 rfl ?_
    refine g_iload_n dX4_takeFormKind_83 rfl ?_
    refine g_ldc dX4_takeFormKind_84 (tK_4_147 sa) rfl ?_
    refine g_callV [.ref (b + 40), .int (zI v78), .ref (sa 0)] [] dX4_takeFormKind_86 tG_4_149 tM_59 lD_40 rfl rfl rfl rfl (by decide) rfl ?_
    refine gC.mono h (Nat.le_refl _) ?_
    rintro _ T86 ⟨v86, rfl, h⟩
    obtain ⟨a2, h⟩ := h
    refine g_if_eqZ dX4_takeFormKind_89 rfl a2  (fun c89 => ?_) (fun c89 => ?_)
    · replace h := h.1 c89
      refine g_aload_n dX4_takeFormKind_96 rfl ?_
      refine g_iload_n dX4_takeFormKind_97 rfl ?_
      refine g_ldc dX4_takeFormKind_98 (tK_4_153 sa) rfl ?_
      refine g_callV [.ref (b + 40), .int (zI v78), .ref (sa 1)] [] dX4_takeFormKind_100 tG_4_149 tM_59 lD_40 rfl rfl rfl rfl (by decide) rfl ?_
      refine gC.mono h (Nat.le_refl _) ?_
      rintro _ T100 ⟨v100, rfl, h⟩
      obtain ⟨a3, h⟩ := h
      refine g_if_eqZ dX4_takeFormKind_103 rfl a3  (fun c103 => ?_) (fun c103 => ?_)
      · replace h := h.1 c103
        refine g_aload_n dX4_takeFormKind_110 rfl ?_
        refine g_iload_n dX4_takeFormKind_111 rfl ?_
        refine g_ldc dX4_takeFormKind_112 (tK_4_155 sa) rfl ?_
        refine g_callV [.ref (b + 40), .int (zI v78), .ref (sa 2)] [] dX4_takeFormKind_114 tG_4_149 tM_59 lD_40 rfl rfl rfl rfl (by decide) rfl ?_
        refine gC.mono h (Nat.le_refl _) ?_
        rintro _ T114 ⟨v114, rfl, h⟩
        obtain ⟨a4, h⟩ := h
        refine g_if_eqZ dX4_takeFormKind_117 rfl a4  (fun c117 => ?_) (fun c117 => ?_)
        · replace h := h.1 c117
          refine g_bipush (v := zI 11) dX4_takeFormKind_124 (by decide) ?_
          refine g_istore_n (L' := [some (.ref (b + 40)), some (.int (zI l1)), some (.int (zI v78)), some (.int (zI 11))]) dX4_takeFormKind_126 rfl ?_
          refine g_aload_n dX4_takeFormKind_127 rfl ?_
          refine g_iload_n dX4_takeFormKind_128 rfl ?_
          refine g_bipush (v := zI 11) dX4_takeFormKind_129 (by decide) ?_
          refine g_icmp_no dX4_takeFormKind_131 rfl (by decide) ?_
          refine g_aload_n dX4_takeFormKind_134 rfl ?_
          refine g_getZ (v := vI T114 40 2) dX4_takeFormKind_135 tF_4_44 lD_40 rfl (zI_v T114 40 2) ?_
          refine g_goto dX4_takeFormKind_138 rfl ?_
          refine g_putI dX4_takeFormKind_142 tF_4_44 lD_40 rfl rfl ⟨rfl, rfl⟩ rfl ?_
          refine g_iload_n dX4_takeFormKind_145 rfl ?_
          exact g_iret dX4_takeFormKind_146 rfl rfl h
        · replace h := h.2 c117
          refine g_iconst (v := zI 3) dX4_takeFormKind_120 (by decide) ?_
          refine g_goto dX4_takeFormKind_121 rfl ?_
          refine g_istore_n (L' := [some (.ref (b + 40)), some (.int (zI l1)), some (.int (zI v78)), some (.int (zI 3))]) dX4_takeFormKind_126 rfl ?_
          refine g_aload_n dX4_takeFormKind_127 rfl ?_
          refine g_iload_n dX4_takeFormKind_128 rfl ?_
          refine g_bipush (v := zI 11) dX4_takeFormKind_129 (by decide) ?_
          refine g_icmp_y dX4_takeFormKind_131 rfl (by decide) ?_
          refine g_iload_n dX4_takeFormKind_141 rfl ?_
          refine g_putI dX4_takeFormKind_142 tF_4_44 lD_40 rfl rfl ⟨rfl, rfl⟩ rfl ?_
          refine g_iload_n dX4_takeFormKind_145 rfl ?_
          exact g_iret dX4_takeFormKind_146 rfl rfl h
      · replace h := h.2 c103
        refine g_iconst (v := zI 5) dX4_takeFormKind_106 (by decide) ?_
        refine g_goto dX4_takeFormKind_107 rfl ?_
        refine g_istore_n (L' := [some (.ref (b + 40)), some (.int (zI l1)), some (.int (zI v78)), some (.int (zI 5))]) dX4_takeFormKind_126 rfl ?_
        refine g_aload_n dX4_takeFormKind_127 rfl ?_
        refine g_iload_n dX4_takeFormKind_128 rfl ?_
        refine g_bipush (v := zI 11) dX4_takeFormKind_129 (by decide) ?_
        refine g_icmp_y dX4_takeFormKind_131 rfl (by decide) ?_
        refine g_iload_n dX4_takeFormKind_141 rfl ?_
        refine g_putI dX4_takeFormKind_142 tF_4_44 lD_40 rfl rfl ⟨rfl, rfl⟩ rfl ?_
        refine g_iload_n dX4_takeFormKind_145 rfl ?_
        exact g_iret dX4_takeFormKind_146 rfl rfl h
    · replace h := h.2 c89
      refine g_iconst (v := zI 4) dX4_takeFormKind_92 (by decide) ?_
      refine g_goto dX4_takeFormKind_93 rfl ?_
      refine g_istore_n (L' := [some (.ref (b + 40)), some (.int (zI l1)), some (.int (zI v78)), some (.int (zI 4))]) dX4_takeFormKind_126 rfl ?_
      refine g_aload_n dX4_takeFormKind_127 rfl ?_
      refine g_iload_n dX4_takeFormKind_128 rfl ?_
      refine g_bipush (v := zI 11) dX4_takeFormKind_129 (by decide) ?_
      refine g_icmp_y dX4_takeFormKind_131 rfl (by decide) ?_
      refine g_iload_n dX4_takeFormKind_141 rfl ?_
      refine g_putI dX4_takeFormKind_142 tF_4_44 lD_40 rfl rfl ⟨rfl, rfl⟩ rfl ?_
      refine g_iload_n dX4_takeFormKind_145 rfl ?_
      exact g_iret dX4_takeFormKind_146 rfl rfl h
  · replace h := h.2 c12
    refine g_iload_n dX4_takeFormKind_15 rfl ?_
    refine g_bipush (v := zI 45) dX4_takeFormKind_16 (by decide) ?_
    obtain ⟨a5, h⟩ := h
    refine g_icmp_neZ dX4_takeFormKind_18 rfl a5 (by decide) (fun c18 => ?_) (fun c18 => ?_)
    · replace h := h.1 c18
      exact h
    · replace h := h.2 c18
      refine g_aload_n dX4_takeFormKind_21 rfl ?_
      refine g_aload_n dX4_takeFormKind_22 rfl ?_
      refine g_getZ (v := vI T 40 2) dX4_takeFormKind_23 tF_4_44 lD_40 rfl (zI_v T 40 2) ?_
      refine g_iconst (v := zI 1) dX4_takeFormKind_26 (by decide) ?_
      refine g_iaddZ dX4_takeFormKind_27 ?_
      refine g_callV [.ref (b + 40), .int (zI ((vI T 40 2) + 1))] [] dX4_takeFormKind_28 tG_4_86 tM_47 lD_40 rfl rfl rfl rfl (by decide) rfl ?_
      refine gC.mono h (Nat.le_refl _) ?_
      rintro _ T28 ⟨v28, rfl, h⟩
      obtain ⟨a6, h⟩ := h
      refine g_callS [.int (zI v28)] [] dX4_takeFormKind_31 tG_4_97 tM_50 rfl rfl rfl rfl (by decide) ?_
      refine gC.mono (c4_zD sa b E _ _ a6) (Nat.le_refl _) ?_
      rintro _ _ ⟨rfl, h9⟩
      obtain rfl := h9.symm
      refine g_if_eqB dX4_takeFormKind_34 rfl (fun c34 => ?_) (fun c34 => ?_)
      · replace h := h.1 c34
        exact h
      · replace h := h.2 c34
        refine g_iconst (v := zI 1) dX4_takeFormKind_37 (by decide) ?_
        refine g_goto dX4_takeFormKind_38 rfl ?_
        exact h
def f_X4_takeFormKind_41 (sa : Nat → Nat) (b : Nat) (E : Nat × mH) (d : Nat) (l1 : Int) (l2 : Int) (T : gT) (Q : Option Value → gT → Prop) : Prop := gW (tP sa) lD b E (d + 1) mX4_takeFormKind 42 [some (.ref (b + 40)), some (.int (zI l1)), some (.int (zI l2)), none] [.int (zI 0)] T Q
set_option maxRecDepth 4000 in
theorem w_X4_takeFormKind_41 {sa : Nat → Nat} {b : Nat} {E : Nat × mH} {d : Nat} {l1 : Int} {l2 : Int} {T : gT} {Q : Option Value → gT → Prop} (hE : mSta sa b E) (h : f_X4_takeFormKind_41 sa b E d l1 l2 T Q) : gW (tP sa) lD b E (d + 1) mX4_takeFormKind 41 [some (.ref (b + 40)), some (.int (zI l1)), some (.int (zI l2)), none] [] T Q := by
  unfold f_X4_takeFormKind_41 at h
  have hE9 := hE
  obtain ⟨⟨ha_100, f100, hk_100, hf_100⟩, ⟨ha_101, f101, hk_101, hf_101⟩⟩ := hE
  refine g_iconst (v := zI 0) dX4_takeFormKind_41 (by decide) ?_
  exact h
def f_X4_takeFormKind_42 (sa : Nat → Nat) (b : Nat) (E : Nat × mH) (d : Nat) (l1 : Int) (l2 : Int) (s0 : Int) (T : gT) (Q : Option Value → gT → Prop) : Prop := 0 ≤ l2 ∧ l2 < 5 ∧ (-2147483648 ≤ l1 ∧ l1 < 2147483648) ∧ (-2147483648 ≤ ((stB.getD l2.toNat 0 : Nat) : Int) ∧ ((stB.getD l2.toNat 0 : Nat) : Int) < 2147483648) ∧ ((¬ l1 = ((stB.getD l2.toNat 0 : Nat) : Int) → gW (tP sa) lD b E (d + 1) mX4_takeFormKind 7 [some (.ref (b + 40)), some (.int (zI l1)), some (.int (zI (l2 + 1))), some (.int (zI s0))] [] T Q) ∧ (l1 = ((stB.getD l2.toNat 0 : Nat) : Int) → (-2147483648 ≤ s0 ∧ s0 < 2147483648) ∧ ((¬ s0 = 0 → gW (tP sa) lD b E (d + 1) mX4_takeFormKind 7 [some (.ref (b + 40)), some (.int (zI l1)), some (.int (zI (l2 + 1))), some (.int (zI s0))] [] T Q) ∧ (s0 = 0 → Q (some (.int (zI (6 + l2)))) (gI T 40 2 (zI ((vI T 40 2) + 1)))))))
set_option maxRecDepth 4000 in
theorem w_X4_takeFormKind_42 {sa : Nat → Nat} {b : Nat} {E : Nat × mH} {d : Nat} {l1 : Int} {l2 : Int} {s0 : Int} {T : gT} {Q : Option Value → gT → Prop} (hE : mSta sa b E) (h : f_X4_takeFormKind_42 sa b E d l1 l2 s0 T Q) : gW (tP sa) lD b E (d + 1) mX4_takeFormKind 42 [some (.ref (b + 40)), some (.int (zI l1)), some (.int (zI l2)), none] [.int (zI s0)] T Q := by
  unfold f_X4_takeFormKind_42 at h
  have hE9 := hE
  obtain ⟨⟨ha_100, f100, hk_100, hf_100⟩, ⟨ha_101, f101, hk_101, hf_101⟩⟩ := hE
  refine g_istore_n (L' := [some (.ref (b + 40)), some (.int (zI l1)), some (.int (zI l2)), some (.int (zI s0))]) dX4_takeFormKind_42 rfl ?_
  refine g_iload_n dX4_takeFormKind_43 rfl ?_
  refine g_getstatic dX4_takeFormKind_44 (tZ_4_141 sa) ?_
  refine g_iload_n dX4_takeFormKind_47 rfl ?_
  obtain ⟨a1, h⟩ := h
  obtain ⟨a2, h⟩ := h
  refine g_cald dX4_takeFormKind_48 ha_101 hk_101 (zI_ix a1 a2 (by decide)) ?_
  rw [hf_101 _ (by omega)]
  obtain ⟨a3, h⟩ := h
  obtain ⟨a4, h⟩ := h
  refine g_icmp_neZ dX4_takeFormKind_49 rfl a3 a4 (fun c49 => ?_) (fun c49 => ?_)
  · replace h := h.1 c49
    refine g_iinc (x := zI l2) (v := zI (l2 + 1)) (L' := [some (.ref (b + 40)), some (.int (zI l1)), some (.int (zI (l2 + 1))), some (.int (zI s0))]) dX4_takeFormKind_71 rfl (zI_add _ _) rfl ?_
    refine g_goto dX4_takeFormKind_74 rfl ?_
    exact h
  · replace h := h.2 c49
    refine g_iload_n dX4_takeFormKind_52 rfl ?_
    obtain ⟨a5, h⟩ := h
    refine g_if_neZ dX4_takeFormKind_53 rfl a5  (fun c53 => ?_) (fun c53 => ?_)
    · replace h := h.1 c53
      refine g_iinc (x := zI l2) (v := zI (l2 + 1)) (L' := [some (.ref (b + 40)), some (.int (zI l1)), some (.int (zI (l2 + 1))), some (.int (zI s0))]) dX4_takeFormKind_71 rfl (zI_add _ _) rfl ?_
      refine g_goto dX4_takeFormKind_74 rfl ?_
      exact h
    · replace h := h.2 c53
      refine g_aload_n dX4_takeFormKind_56 rfl ?_
      refine g_dup dX4_takeFormKind_57 rfl ?_
      refine g_getZ (v := vI T 40 2) dX4_takeFormKind_58 tF_4_44 lD_40 rfl (zI_v T 40 2) ?_
      refine g_iconst (v := zI 1) dX4_takeFormKind_61 (by decide) ?_
      refine g_iaddZ dX4_takeFormKind_62 ?_
      refine g_putI dX4_takeFormKind_63 tF_4_44 lD_40 rfl rfl ⟨rfl, rfl⟩ rfl ?_
      refine g_bipush (v := zI 6) dX4_takeFormKind_66 (by decide) ?_
      refine g_iload_n dX4_takeFormKind_68 rfl ?_
      refine g_iaddZ dX4_takeFormKind_69 ?_
      exact g_iret dX4_takeFormKind_70 rfl rfl h
def f_X4_takeFormKind_7b (sa : Nat → Nat) (b : Nat) (E : Nat × mH) (d : Nat) (l1 : Int) (l2 : Int) (l3 : Int) (T : gT) (Q : Option Value → gT → Prop) : Prop := (-2147483648 ≤ l2 ∧ l2 < 2147483648) ∧ ((5 ≤ l2 → gC (tP sa) lD b E d mX4_wordEnd [.ref (b + 40)] T (fun r T78 => pI r (fun v78 => gC (tP sa) lD b E d mX4_isWord [.ref (b + 40), .int (zI v78), .ref (sa 0)] T78 (fun r T86 => pI r (fun v86 => (-2147483648 ≤ v86 ∧ v86 < 2147483648) ∧ ((v86 = 0 → gC (tP sa) lD b E d mX4_isWord [.ref (b + 40), .int (zI v78), .ref (sa 1)] T86 (fun r T100 => pI r (fun v100 => (-2147483648 ≤ v100 ∧ v100 < 2147483648) ∧ ((v100 = 0 → gC (tP sa) lD b E d mX4_isWord [.ref (b + 40), .int (zI v78), .ref (sa 2)] T100 (fun r T114 => pI r (fun v114 => (-2147483648 ≤ v114 ∧ v114 < 2147483648) ∧ ((v114 = 0 → Q (some (.int (zI 11))) (gI T114 40 2 (zI (vI T114 40 2)))) ∧ (¬ v114 = 0 → Q (some (.int (zI 3))) (gI T114 40 2 (zI v78))))))) ∧ (¬ v100 = 0 → Q (some (.int (zI 5))) (gI T100 40 2 (zI v78))))))) ∧ (¬ v86 = 0 → Q (some (.int (zI 4))) (gI T86 40 2 (zI v78))))))))) ∧ (¬ 5 ≤ l2 → (-2147483648 ≤ l1 ∧ l1 < 2147483648) ∧ ((¬ l1 = 45 → gW (tP sa) lD b E (d + 1) mX4_takeFormKind 41 [some (.ref (b + 40)), some (.int (zI l1)), some (.int (zI l2)), some (.int (zI l3))] [] T Q) ∧ (l1 = 45 → gC (tP sa) lD b E d mX4_byteAt [.ref (b + 40), .int (zI ((vI T 40 2) + 1))] T (fun r T28 => pI r (fun v28 => (-2147483648 ≤ v28 ∧ v28 < 2147483648) ∧ ((¬ (zD v28 = true) → gW (tP sa) lD b E (d + 1) mX4_takeFormKind 41 [some (.ref (b + 40)), some (.int (zI l1)), some (.int (zI l2)), some (.int (zI l3))] [] T28 Q) ∧ ((zD v28 = true) → gW (tP sa) lD b E (d + 1) mX4_takeFormKind 42 [some (.ref (b + 40)), some (.int (zI l1)), some (.int (zI l2)), some (.int (zI l3))] [.int (zI 1)] T28 Q))))))))
set_option maxRecDepth 4000 in
theorem w_X4_takeFormKind_7b {sa : Nat → Nat} {b : Nat} {E : Nat × mH} {d : Nat} {l1 : Int} {l2 : Int} {l3 : Int} {T : gT} {Q : Option Value → gT → Prop} (hE : mSta sa b E) (h : f_X4_takeFormKind_7b sa b E d l1 l2 l3 T Q) : gW (tP sa) lD b E (d + 1) mX4_takeFormKind 7 [some (.ref (b + 40)), some (.int (zI l1)), some (.int (zI l2)), some (.int (zI l3))] [] T Q := by
  unfold f_X4_takeFormKind_7b at h
  have hE9 := hE
  obtain ⟨⟨ha_100, f100, hk_100, hf_100⟩, ⟨ha_101, f101, hk_101, hf_101⟩⟩ := hE
  refine g_iload_n dX4_takeFormKind_7 rfl ?_
  refine g_getstatic dX4_takeFormKind_8 (tZ_4_141 sa) ?_
  refine g_clenZ (z := 5) dX4_takeFormKind_11 ha_101 hk_101 rfl ?_
  obtain ⟨a1, h⟩ := h
  refine g_icmp_geZ dX4_takeFormKind_12 rfl a1 (by decide) (fun c12 => ?_) (fun c12 => ?_)
  · replace h := h.1 c12
    refine g_aload_n dX4_takeFormKind_77 rfl ?_
    refine g_callV [.ref (b + 40)] [] dX4_takeFormKind_78 tG_4_144 tM_60 lD_40 rfl rfl rfl rfl (by decide) rfl ?_
    refine gC.mono h (Nat.le_refl _) ?_
    rintro _ T78 ⟨v78, rfl, h⟩
    refine g_istore_n (L' := [some (.ref (b + 40)), some (.int (zI l1)), some (.int (zI v78)), some (.int (zI l3))]) dX4_takeFormKind_81 rfl ?_
    refine g_aload_n dX4_takeFormKind_82 rfl ?_
    refine g_iload_n dX4_takeFormKind_83 rfl ?_
    refine g_ldc dX4_takeFormKind_84 (tK_4_147 sa) rfl ?_
    refine g_callV [.ref (b + 40), .int (zI v78), .ref (sa 0)] [] dX4_takeFormKind_86 tG_4_149 tM_59 lD_40 rfl rfl rfl rfl (by decide) rfl ?_
    refine gC.mono h (Nat.le_refl _) ?_
    rintro _ T86 ⟨v86, rfl, h⟩
    obtain ⟨a2, h⟩ := h
    refine g_if_eqZ dX4_takeFormKind_89 rfl a2  (fun c89 => ?_) (fun c89 => ?_)
    · replace h := h.1 c89
      refine g_aload_n dX4_takeFormKind_96 rfl ?_
      refine g_iload_n dX4_takeFormKind_97 rfl ?_
      refine g_ldc dX4_takeFormKind_98 (tK_4_153 sa) rfl ?_
      refine g_callV [.ref (b + 40), .int (zI v78), .ref (sa 1)] [] dX4_takeFormKind_100 tG_4_149 tM_59 lD_40 rfl rfl rfl rfl (by decide) rfl ?_
      refine gC.mono h (Nat.le_refl _) ?_
      rintro _ T100 ⟨v100, rfl, h⟩
      obtain ⟨a3, h⟩ := h
      refine g_if_eqZ dX4_takeFormKind_103 rfl a3  (fun c103 => ?_) (fun c103 => ?_)
      · replace h := h.1 c103
        refine g_aload_n dX4_takeFormKind_110 rfl ?_
        refine g_iload_n dX4_takeFormKind_111 rfl ?_
        refine g_ldc dX4_takeFormKind_112 (tK_4_155 sa) rfl ?_
        refine g_callV [.ref (b + 40), .int (zI v78), .ref (sa 2)] [] dX4_takeFormKind_114 tG_4_149 tM_59 lD_40 rfl rfl rfl rfl (by decide) rfl ?_
        refine gC.mono h (Nat.le_refl _) ?_
        rintro _ T114 ⟨v114, rfl, h⟩
        obtain ⟨a4, h⟩ := h
        refine g_if_eqZ dX4_takeFormKind_117 rfl a4  (fun c117 => ?_) (fun c117 => ?_)
        · replace h := h.1 c117
          refine g_bipush (v := zI 11) dX4_takeFormKind_124 (by decide) ?_
          refine g_istore_n (L' := [some (.ref (b + 40)), some (.int (zI l1)), some (.int (zI v78)), some (.int (zI 11))]) dX4_takeFormKind_126 rfl ?_
          refine g_aload_n dX4_takeFormKind_127 rfl ?_
          refine g_iload_n dX4_takeFormKind_128 rfl ?_
          refine g_bipush (v := zI 11) dX4_takeFormKind_129 (by decide) ?_
          refine g_icmp_no dX4_takeFormKind_131 rfl (by decide) ?_
          refine g_aload_n dX4_takeFormKind_134 rfl ?_
          refine g_getZ (v := vI T114 40 2) dX4_takeFormKind_135 tF_4_44 lD_40 rfl (zI_v T114 40 2) ?_
          refine g_goto dX4_takeFormKind_138 rfl ?_
          refine g_putI dX4_takeFormKind_142 tF_4_44 lD_40 rfl rfl ⟨rfl, rfl⟩ rfl ?_
          refine g_iload_n dX4_takeFormKind_145 rfl ?_
          exact g_iret dX4_takeFormKind_146 rfl rfl h
        · replace h := h.2 c117
          refine g_iconst (v := zI 3) dX4_takeFormKind_120 (by decide) ?_
          refine g_goto dX4_takeFormKind_121 rfl ?_
          refine g_istore_n (L' := [some (.ref (b + 40)), some (.int (zI l1)), some (.int (zI v78)), some (.int (zI 3))]) dX4_takeFormKind_126 rfl ?_
          refine g_aload_n dX4_takeFormKind_127 rfl ?_
          refine g_iload_n dX4_takeFormKind_128 rfl ?_
          refine g_bipush (v := zI 11) dX4_takeFormKind_129 (by decide) ?_
          refine g_icmp_y dX4_takeFormKind_131 rfl (by decide) ?_
          refine g_iload_n dX4_takeFormKind_141 rfl ?_
          refine g_putI dX4_takeFormKind_142 tF_4_44 lD_40 rfl rfl ⟨rfl, rfl⟩ rfl ?_
          refine g_iload_n dX4_takeFormKind_145 rfl ?_
          exact g_iret dX4_takeFormKind_146 rfl rfl h
      · replace h := h.2 c103
        refine g_iconst (v := zI 5) dX4_takeFormKind_106 (by decide) ?_
        refine g_goto dX4_takeFormKind_107 rfl ?_
        refine g_istore_n (L' := [some (.ref (b + 40)), some (.int (zI l1)), some (.int (zI v78)), some (.int (zI 5))]) dX4_takeFormKind_126 rfl ?_
        refine g_aload_n dX4_takeFormKind_127 rfl ?_
        refine g_iload_n dX4_takeFormKind_128 rfl ?_
        refine g_bipush (v := zI 11) dX4_takeFormKind_129 (by decide) ?_
        refine g_icmp_y dX4_takeFormKind_131 rfl (by decide) ?_
        refine g_iload_n dX4_takeFormKind_141 rfl ?_
        refine g_putI dX4_takeFormKind_142 tF_4_44 lD_40 rfl rfl ⟨rfl, rfl⟩ rfl ?_
        refine g_iload_n dX4_takeFormKind_145 rfl ?_
        exact g_iret dX4_takeFormKind_146 rfl rfl h
    · replace h := h.2 c89
      refine g_iconst (v := zI 4) dX4_takeFormKind_92 (by decide) ?_
      refine g_goto dX4_takeFormKind_93 rfl ?_
      refine g_istore_n (L' := [some (.ref (b + 40)), some (.int (zI l1)), some (.int (zI v78)), some (.int (zI 4))]) dX4_takeFormKind_126 rfl ?_
      refine g_aload_n dX4_takeFormKind_127 rfl ?_
      refine g_iload_n dX4_takeFormKind_128 rfl ?_
      refine g_bipush (v := zI 11) dX4_takeFormKind_129 (by decide) ?_
      refine g_icmp_y dX4_takeFormKind_131 rfl (by decide) ?_
      refine g_iload_n dX4_takeFormKind_141 rfl ?_
      refine g_putI dX4_takeFormKind_142 tF_4_44 lD_40 rfl rfl ⟨rfl, rfl⟩ rfl ?_
      refine g_iload_n dX4_takeFormKind_145 rfl ?_
      exact g_iret dX4_takeFormKind_146 rfl rfl h
  · replace h := h.2 c12
    refine g_iload_n dX4_takeFormKind_15 rfl ?_
    refine g_bipush (v := zI 45) dX4_takeFormKind_16 (by decide) ?_
    obtain ⟨a5, h⟩ := h
    refine g_icmp_neZ dX4_takeFormKind_18 rfl a5 (by decide) (fun c18 => ?_) (fun c18 => ?_)
    · replace h := h.1 c18
      exact h
    · replace h := h.2 c18
      refine g_aload_n dX4_takeFormKind_21 rfl ?_
      refine g_aload_n dX4_takeFormKind_22 rfl ?_
      refine g_getZ (v := vI T 40 2) dX4_takeFormKind_23 tF_4_44 lD_40 rfl (zI_v T 40 2) ?_
      refine g_iconst (v := zI 1) dX4_takeFormKind_26 (by decide) ?_
      refine g_iaddZ dX4_takeFormKind_27 ?_
      refine g_callV [.ref (b + 40), .int (zI ((vI T 40 2) + 1))] [] dX4_takeFormKind_28 tG_4_86 tM_47 lD_40 rfl rfl rfl rfl (by decide) rfl ?_
      refine gC.mono h (Nat.le_refl _) ?_
      rintro _ T28 ⟨v28, rfl, h⟩
      obtain ⟨a6, h⟩ := h
      refine g_callS [.int (zI v28)] [] dX4_takeFormKind_31 tG_4_97 tM_50 rfl rfl rfl rfl (by decide) ?_
      refine gC.mono (c4_zD sa b E _ _ a6) (Nat.le_refl _) ?_
      rintro _ _ ⟨rfl, h9⟩
      obtain rfl := h9.symm
      refine g_if_eqB dX4_takeFormKind_34 rfl (fun c34 => ?_) (fun c34 => ?_)
      · replace h := h.1 c34
        exact h
      · replace h := h.2 c34
        refine g_iconst (v := zI 1) dX4_takeFormKind_37 (by decide) ?_
        refine g_goto dX4_takeFormKind_38 rfl ?_
        exact h
def f_X4_takeFormKind_41b (sa : Nat → Nat) (b : Nat) (E : Nat × mH) (d : Nat) (l1 : Int) (l2 : Int) (l3 : Int) (T : gT) (Q : Option Value → gT → Prop) : Prop := gW (tP sa) lD b E (d + 1) mX4_takeFormKind 42 [some (.ref (b + 40)), some (.int (zI l1)), some (.int (zI l2)), some (.int (zI l3))] [.int (zI 0)] T Q
set_option maxRecDepth 4000 in
theorem w_X4_takeFormKind_41b {sa : Nat → Nat} {b : Nat} {E : Nat × mH} {d : Nat} {l1 : Int} {l2 : Int} {l3 : Int} {T : gT} {Q : Option Value → gT → Prop} (hE : mSta sa b E) (h : f_X4_takeFormKind_41b sa b E d l1 l2 l3 T Q) : gW (tP sa) lD b E (d + 1) mX4_takeFormKind 41 [some (.ref (b + 40)), some (.int (zI l1)), some (.int (zI l2)), some (.int (zI l3))] [] T Q := by
  unfold f_X4_takeFormKind_41b at h
  have hE9 := hE
  obtain ⟨⟨ha_100, f100, hk_100, hf_100⟩, ⟨ha_101, f101, hk_101, hf_101⟩⟩ := hE
  refine g_iconst (v := zI 0) dX4_takeFormKind_41 (by decide) ?_
  exact h
def f_X4_takeFormKind_42b (sa : Nat → Nat) (b : Nat) (E : Nat × mH) (d : Nat) (l1 : Int) (l2 : Int) (l3 : Int) (s0 : Int) (T : gT) (Q : Option Value → gT → Prop) : Prop := 0 ≤ l2 ∧ l2 < 5 ∧ (-2147483648 ≤ l1 ∧ l1 < 2147483648) ∧ (-2147483648 ≤ ((stB.getD l2.toNat 0 : Nat) : Int) ∧ ((stB.getD l2.toNat 0 : Nat) : Int) < 2147483648) ∧ ((¬ l1 = ((stB.getD l2.toNat 0 : Nat) : Int) → gW (tP sa) lD b E (d + 1) mX4_takeFormKind 7 [some (.ref (b + 40)), some (.int (zI l1)), some (.int (zI (l2 + 1))), some (.int (zI s0))] [] T Q) ∧ (l1 = ((stB.getD l2.toNat 0 : Nat) : Int) → (-2147483648 ≤ s0 ∧ s0 < 2147483648) ∧ ((¬ s0 = 0 → gW (tP sa) lD b E (d + 1) mX4_takeFormKind 7 [some (.ref (b + 40)), some (.int (zI l1)), some (.int (zI (l2 + 1))), some (.int (zI s0))] [] T Q) ∧ (s0 = 0 → Q (some (.int (zI (6 + l2)))) (gI T 40 2 (zI ((vI T 40 2) + 1)))))))
set_option maxRecDepth 4000 in
theorem w_X4_takeFormKind_42b {sa : Nat → Nat} {b : Nat} {E : Nat × mH} {d : Nat} {l1 : Int} {l2 : Int} {l3 : Int} {s0 : Int} {T : gT} {Q : Option Value → gT → Prop} (hE : mSta sa b E) (h : f_X4_takeFormKind_42b sa b E d l1 l2 l3 s0 T Q) : gW (tP sa) lD b E (d + 1) mX4_takeFormKind 42 [some (.ref (b + 40)), some (.int (zI l1)), some (.int (zI l2)), some (.int (zI l3))] [.int (zI s0)] T Q := by
  unfold f_X4_takeFormKind_42b at h
  have hE9 := hE
  obtain ⟨⟨ha_100, f100, hk_100, hf_100⟩, ⟨ha_101, f101, hk_101, hf_101⟩⟩ := hE
  refine g_istore_n (L' := [some (.ref (b + 40)), some (.int (zI l1)), some (.int (zI l2)), some (.int (zI s0))]) dX4_takeFormKind_42 rfl ?_
  refine g_iload_n dX4_takeFormKind_43 rfl ?_
  refine g_getstatic dX4_takeFormKind_44 (tZ_4_141 sa) ?_
  refine g_iload_n dX4_takeFormKind_47 rfl ?_
  obtain ⟨a1, h⟩ := h
  obtain ⟨a2, h⟩ := h
  refine g_cald dX4_takeFormKind_48 ha_101 hk_101 (zI_ix a1 a2 (by decide)) ?_
  rw [hf_101 _ (by omega)]
  obtain ⟨a3, h⟩ := h
  obtain ⟨a4, h⟩ := h
  refine g_icmp_neZ dX4_takeFormKind_49 rfl a3 a4 (fun c49 => ?_) (fun c49 => ?_)
  · replace h := h.1 c49
    refine g_iinc (x := zI l2) (v := zI (l2 + 1)) (L' := [some (.ref (b + 40)), some (.int (zI l1)), some (.int (zI (l2 + 1))), some (.int (zI s0))]) dX4_takeFormKind_71 rfl (zI_add _ _) rfl ?_
    refine g_goto dX4_takeFormKind_74 rfl ?_
    exact h
  · replace h := h.2 c49
    refine g_iload_n dX4_takeFormKind_52 rfl ?_
    obtain ⟨a5, h⟩ := h
    refine g_if_neZ dX4_takeFormKind_53 rfl a5  (fun c53 => ?_) (fun c53 => ?_)
    · replace h := h.1 c53
      refine g_iinc (x := zI l2) (v := zI (l2 + 1)) (L' := [some (.ref (b + 40)), some (.int (zI l1)), some (.int (zI (l2 + 1))), some (.int (zI s0))]) dX4_takeFormKind_71 rfl (zI_add _ _) rfl ?_
      refine g_goto dX4_takeFormKind_74 rfl ?_
      exact h
    · replace h := h.2 c53
      refine g_aload_n dX4_takeFormKind_56 rfl ?_
      refine g_dup dX4_takeFormKind_57 rfl ?_
      refine g_getZ (v := vI T 40 2) dX4_takeFormKind_58 tF_4_44 lD_40 rfl (zI_v T 40 2) ?_
      refine g_iconst (v := zI 1) dX4_takeFormKind_61 (by decide) ?_
      refine g_iaddZ dX4_takeFormKind_62 ?_
      refine g_putI dX4_takeFormKind_63 tF_4_44 lD_40 rfl rfl ⟨rfl, rfl⟩ rfl ?_
      refine g_bipush (v := zI 6) dX4_takeFormKind_66 (by decide) ?_
      refine g_iload_n dX4_takeFormKind_68 rfl ?_
      refine g_iaddZ dX4_takeFormKind_69 ?_
      exact g_iret dX4_takeFormKind_70 rfl rfl h
def f_X5_putBlank (sa : Nat → Nat) (b : Nat) (E : Nat × mH) (d : Nat) (l1 : Nat) (l2 : Int) (T : gT) (Q : Option Value → gT → Prop) : Prop := (-2147483648 ≤ l2 ∧ l2 < 2147483648) ∧ (((aI T (l1 + 1) 200 (aI T (l1 + 4) 200 l2)) = 2 → (((aI T (l1 + 4) 200 l2) = (-1) → Q none T) ∧ (¬ (aI T (l1 + 4) 200 l2) = (-1) → Q none T))) ∧ (¬ (aI T (l1 + 1) 200 (aI T (l1 + 4) 200 l2)) = 2 → ((¬ (aI T (l1 + 1) 200 (aI T (l1 + 4) 200 l2)) = 11 → (((aI T (l1 + 4) 200 l2) = (-1) → Q none T) ∧ (¬ (aI T (l1 + 4) 200 l2) = (-1) → gC (tP sa) lD b E d mX5_putByte [.ref (b + 63), .int (zI 32)] T (fun r T62 => pV r (Q none T62))))) ∧ ((aI T (l1 + 1) 200 (aI T (l1 + 4) 200 l2)) = 11 → ((¬ (aP T l1 (aI T (l1 + 4) 200 l2) 0) = l2 → (((aI T (l1 + 4) 200 l2) = (-1) → Q none T) ∧ (¬ (aI T (l1 + 4) 200 l2) = (-1) → gC (tP sa) lD b E d mX5_putByte [.ref (b + 63), .int (zI 32)] T (fun r T62 => pV r (Q none T62))))) ∧ ((aP T l1 (aI T (l1 + 4) 200 l2) 0) = l2 → (((aI T (l1 + 4) 200 l2) = (-1) → Q none T) ∧ (¬ (aI T (l1 + 4) 200 l2) = (-1) → Q none T))))))))
set_option maxRecDepth 4000 in
theorem w_X5_putBlank {sa : Nat → Nat} {b : Nat} {E : Nat × mH} {d : Nat} {l1 : Nat} {l2 : Int} {T : gT} {Q : Option Value → gT → Prop} (hq_l1 : l1 = 2 ∨ l1 = 21) (h : f_X5_putBlank sa b E d l1 l2 T Q) : gC (tP sa) lD b E (d + 1) mX5_putBlank [.ref (b + 63), .ref (b + l1), .int (zI l2)] T Q := by
  unfold f_X5_putBlank at h
  refine ⟨Nat.le_of_ble_eq_true rfl, ?_⟩
  show gW (tP sa) lD b E (d + 1) mX5_putBlank 0 [some (.ref (b + 63)), some (.ref (b + l1)), some (.int (zI l2)), none, none, none] [] T Q
  refine g_aload_n dX5_putBlank_0 rfl ?_
  refine g_getR dX5_putBlank_1 tF_5_57 (lP_0 hq_l1) rfl ?_
  refine g_iload_n dX5_putBlank_4 rfl ?_
  obtain ⟨a1, h⟩ := h
  refine g_callS [.ref (b + (l1 + 4)), .int (zI l2)] [] dX5_putBlank_5 tG_5_61 tM_96 rfl rfl rfl rfl (by decide) ?_
  refine gC.mono (c_aI sa b E _ _ (lP_4 hq_l1) (by decide) a1) (Nat.le_refl _) ?_
  rintro _ _ ⟨rfl, h9⟩
  obtain rfl := h9.symm
  refine g_istore_n (L' := [some (.ref (b + 63)), some (.ref (b + l1)), some (.int (zI l2)), some (.int (zI (aI T (l1 + 4) 200 l2))), none, none]) dX5_putBlank_8 rfl ?_
  refine g_aload_n dX5_putBlank_9 rfl ?_
  refine g_getR dX5_putBlank_10 tF_5_65 (lP_0 hq_l1) rfl ?_
  refine g_iload_n dX5_putBlank_13 rfl ?_
  refine g_callS [.ref (b + (l1 + 1)), .int (zI (aI T (l1 + 4) 200 l2))] [] dX5_putBlank_14 tG_5_61 tM_96 rfl rfl rfl rfl (by decide) ?_
  refine gC.mono (c_aI sa b E _ _ (lP_1 hq_l1) (by decide) (aI_rg _ _ _ _)) (Nat.le_refl _) ?_
  rintro _ _ ⟨rfl, h9⟩
  obtain rfl := h9.symm
  refine g_istore (L' := [some (.ref (b + 63)), some (.ref (b + l1)), some (.int (zI l2)), some (.int (zI (aI T (l1 + 4) 200 l2))), some (.int (zI (aI T (l1 + 1) 200 (aI T (l1 + 4) 200 l2)))), none]) dX5_putBlank_17 rfl ?_
  refine g_iload dX5_putBlank_19 rfl ?_
  refine g_iconst (v := zI 2) dX5_putBlank_21 (by decide) ?_
  refine g_icmp_eqZ dX5_putBlank_22 rfl (aI_rg _ _ _ _) (by decide) (fun c22 => ?_) (fun c22 => ?_)
  · replace h := h.1 c22
    refine g_iconst (v := zI 1) dX5_putBlank_42 (by decide) ?_
    refine g_goto dX5_putBlank_43 rfl ?_
    refine g_istore (L' := [some (.ref (b + 63)), some (.ref (b + l1)), some (.int (zI l2)), some (.int (zI (aI T (l1 + 4) 200 l2))), some (.int (zI (aI T (l1 + 1) 200 (aI T (l1 + 4) 200 l2)))), some (.int (zI 1))]) dX5_putBlank_47 rfl ?_
    refine g_iload_n dX5_putBlank_49 rfl ?_
    refine g_iconst (v := zI (-1)) dX5_putBlank_50 (by decide) ?_
    refine g_icmp_eqZ dX5_putBlank_51 rfl (aI_rg _ _ _ _) (by decide) (fun c51 => ?_) (fun c51 => ?_)
    · replace h := h.1 c51
      exact g_vret dX5_putBlank_65 rfl h
    · replace h := h.2 c51
      refine g_iload dX5_putBlank_54 rfl ?_
      refine g_if_y dX5_putBlank_56 rfl (by decide) ?_
      exact g_vret dX5_putBlank_65 rfl h
  · replace h := h.2 c22
    refine g_iload dX5_putBlank_25 rfl ?_
    refine g_bipush (v := zI 11) dX5_putBlank_27 (by decide) ?_
    refine g_icmp_neZ dX5_putBlank_29 rfl (aI_rg _ _ _ _) (by decide) (fun c29 => ?_) (fun c29 => ?_)
    · replace h := h.1 c29
      refine g_iconst (v := zI 0) dX5_putBlank_46 (by decide) ?_
      refine g_istore (L' := [some (.ref (b + 63)), some (.ref (b + l1)), some (.int (zI l2)), some (.int (zI (aI T (l1 + 4) 200 l2))), some (.int (zI (aI T (l1 + 1) 200 (aI T (l1 + 4) 200 l2)))), some (.int (zI 0))]) dX5_putBlank_47 rfl ?_
      refine g_iload_n dX5_putBlank_49 rfl ?_
      refine g_iconst (v := zI (-1)) dX5_putBlank_50 (by decide) ?_
      refine g_icmp_eqZ dX5_putBlank_51 rfl (aI_rg _ _ _ _) (by decide) (fun c51 => ?_) (fun c51 => ?_)
      · replace h := h.1 c51
        exact g_vret dX5_putBlank_65 rfl h
      · replace h := h.2 c51
        refine g_iload dX5_putBlank_54 rfl ?_
        refine g_if_no dX5_putBlank_56 rfl (by decide) ?_
        refine g_aload_n dX5_putBlank_59 rfl ?_
        refine g_bipush (v := zI 32) dX5_putBlank_60 (by decide) ?_
        refine g_callV [.ref (b + 63), .int (zI 32)] [] dX5_putBlank_62 tG_5_43 tM_71 lD_63 rfl rfl rfl rfl (by decide) rfl ?_
        refine gC.mono h (Nat.le_refl _) ?_
        rintro _ T62 ⟨rfl, h⟩
        exact g_vret dX5_putBlank_65 rfl h
    · replace h := h.2 c29
      refine g_aload_n dX5_putBlank_32 rfl ?_
      refine g_iload_n dX5_putBlank_33 rfl ?_
      refine g_iconst (v := zI 0) dX5_putBlank_34 (by decide) ?_
      refine g_callV [.ref (b + l1), .int (zI (aI T (l1 + 4) 200 l2)), .int (zI 0)] [] dX5_putBlank_35 tG_5_68 tM_39 (lP_0 hq_l1) rfl rfl rfl rfl (by decide) rfl ?_
      refine gC.mono (c_part sa b E _ _ hq_l1 (aI_rg _ _ _ _) (by decide)) (Nat.le_refl _) ?_
      rintro _ _ ⟨rfl, h9⟩
      obtain rfl := h9.symm
      refine g_iload_n dX5_putBlank_38 rfl ?_
      refine g_icmp_neZ dX5_putBlank_39 rfl (aP_rg _ _ _ _) a1 (fun c39 => ?_) (fun c39 => ?_)
      · replace h := h.1 c39
        refine g_iconst (v := zI 0) dX5_putBlank_46 (by decide) ?_
        refine g_istore (L' := [some (.ref (b + 63)), some (.ref (b + l1)), some (.int (zI l2)), some (.int (zI (aI T (l1 + 4) 200 l2))), some (.int (zI (aI T (l1 + 1) 200 (aI T (l1 + 4) 200 l2)))), some (.int (zI 0))]) dX5_putBlank_47 rfl ?_
        refine g_iload_n dX5_putBlank_49 rfl ?_
        refine g_iconst (v := zI (-1)) dX5_putBlank_50 (by decide) ?_
        refine g_icmp_eqZ dX5_putBlank_51 rfl (aI_rg _ _ _ _) (by decide) (fun c51 => ?_) (fun c51 => ?_)
        · replace h := h.1 c51
          exact g_vret dX5_putBlank_65 rfl h
        · replace h := h.2 c51
          refine g_iload dX5_putBlank_54 rfl ?_
          refine g_if_no dX5_putBlank_56 rfl (by decide) ?_
          refine g_aload_n dX5_putBlank_59 rfl ?_
          refine g_bipush (v := zI 32) dX5_putBlank_60 (by decide) ?_
          refine g_callV [.ref (b + 63), .int (zI 32)] [] dX5_putBlank_62 tG_5_43 tM_71 lD_63 rfl rfl rfl rfl (by decide) rfl ?_
          refine gC.mono h (Nat.le_refl _) ?_
          rintro _ T62 ⟨rfl, h⟩
          exact g_vret dX5_putBlank_65 rfl h
      · replace h := h.2 c39
        refine g_iconst (v := zI 1) dX5_putBlank_42 (by decide) ?_
        refine g_goto dX5_putBlank_43 rfl ?_
        refine g_istore (L' := [some (.ref (b + 63)), some (.ref (b + l1)), some (.int (zI l2)), some (.int (zI (aI T (l1 + 4) 200 l2))), some (.int (zI (aI T (l1 + 1) 200 (aI T (l1 + 4) 200 l2)))), some (.int (zI 1))]) dX5_putBlank_47 rfl ?_
        refine g_iload_n dX5_putBlank_49 rfl ?_
        refine g_iconst (v := zI (-1)) dX5_putBlank_50 (by decide) ?_
        refine g_icmp_eqZ dX5_putBlank_51 rfl (aI_rg _ _ _ _) (by decide) (fun c51 => ?_) (fun c51 => ?_)
        · replace h := h.1 c51
          exact g_vret dX5_putBlank_65 rfl h
        · replace h := h.2 c51
          refine g_iload dX5_putBlank_54 rfl ?_
          refine g_if_y dX5_putBlank_56 rfl (by decide) ?_
          exact g_vret dX5_putBlank_65 rfl h
def f_X6_told (sa : Nat → Nat) (b : Nat) (E : Nat × mH) (d : Nat) (l1 : Int) (T : gT) (Q : Option Value → gT → Prop) : Prop := (∃ r1 : Nat, (r1 = 2 ∨ r1 = 21) ∧ vI T 0 2 = (r1 : Int) ∧ ((¬ (vI T r1 0) = 0 → (-2147483648 ≤ l1 ∧ l1 < 2147483648) ∧ ((l1 = 0 → (∃ r61 : Nat, (r61 = 2 ∨ r61 = 21) ∧ vI T 0 2 = (r61 : Int) ∧ Q (some (.int (zI (vI T r61 0)))) T)) ∧ (l1 = 1 → (∃ r69 : Nat, (r69 = 2 ∨ r69 = 21) ∧ vI T 0 2 = (r69 : Int) ∧ Q (some (.int (zI (vI T r69 1)))) T)) ∧ (l1 = 2 → (∃ r77 : Nat, (r77 = 2 ∨ r77 = 21) ∧ vI T 0 2 = (r77 : Int) ∧ Q (some (.int (zI (vI T r77 2)))) T)) ∧ (l1 = 3 → gC (tP sa) lD b E d mX6_countExprs [.ref (b + 0), .int (zI 0)] T (fun r T86 => pI r (fun v86 => Q (some (.int (zI v86))) T86))) ∧ (l1 = 4 → gC (tP sa) lD b E d mX6_countExprs [.ref (b + 0), .int (zI 1)] T (fun r T92 => pI r (fun v92 => Q (some (.int (zI v92))) T92))) ∧ (l1 = 5 → gC (tP sa) lD b E d mX6_countExprs [.ref (b + 0), .int (zI 2)] T (fun r T98 => pI r (fun v98 => Q (some (.int (zI v98))) T98))) ∧ (l1 = 6 → gC (tP sa) lD b E d mX6_countExprs [.ref (b + 0), .int (zI 3)] T (fun r T104 => pI r (fun v104 => Q (some (.int (zI v104))) T104))) ∧ (l1 = 7 → Q (some (.int (zI (vI T 51 0)))) T) ∧ ((¬ l1 = 0 ∧ ¬ l1 = 1 ∧ ¬ l1 = 2 ∧ ¬ l1 = 3 ∧ ¬ l1 = 4 ∧ ¬ l1 = 5 ∧ ¬ l1 = 6 ∧ ¬ l1 = 7) → Q (some (.int (zI (-2)))) T))) ∧ ((vI T r1 0) = 0 → Q (some (.int (zI (-2)))) T)))
set_option maxRecDepth 4000 in
theorem w_X6_told {sa : Nat → Nat} {b : Nat} {E : Nat × mH} {d : Nat} {l1 : Int} {T : gT} {Q : Option Value → gT → Prop} (h : f_X6_told sa b E d l1 T Q) : gC (tP sa) lD b E (d + 1) mX6_told [.ref (b + 0), .int (zI l1)] T Q := by
  unfold f_X6_told at h
  refine ⟨Nat.le_of_ble_eq_true rfl, ?_⟩
  show gW (tP sa) lD b E (d + 1) mX6_told 0 [some (.ref (b + 0)), some (.int (zI l1))] [] T Q
  refine g_aload_n dX6_told_0 rfl ?_
  obtain ⟨r1, hq_r1, e_r1, h⟩ := h
  refine g_getVZ (o := r1) dX6_told_1 tF_6_16 lD_0 rfl e_r1 (q_lt hq_r1) ?_
  refine g_getZ (v := vI T r1 0) dX6_told_4 tF_6_74 (lP_0 hq_r1) rfl (zI_v _ _ _) ?_
  refine g_if_neZ dX6_told_7 rfl ⟨vI_lo _ _ _, vI_hi _ _ _⟩  (fun c7 => ?_) (fun c7 => ?_)
  · replace h := h.1 c7
    refine g_iload_n dX6_told_13 rfl ?_
    obtain ⟨a1, h⟩ := h
    by_cases c9 : l1 = 0
    · replace h := h.1 c9
      refine g_tabC (c := 0) (off := 46) dX6_told_14 a1 c9 (by decide) rfl rfl ?_
      refine g_aload_n dX6_told_60 rfl ?_
      obtain ⟨r61, hq_r61, e_r61, h⟩ := h
      refine g_getVZ (o := r61) dX6_told_61 tF_6_16 lD_0 rfl e_r61 (q_lt hq_r61) ?_
      refine g_getZ (v := vI T r61 0) dX6_told_64 tF_6_74 (lP_0 hq_r61) rfl (zI_v _ _ _) ?_
      exact g_iret dX6_told_67 rfl rfl h
    have n0_14 := c9
    by_cases c9 : l1 = 1
    · replace h := h.2.1 c9
      refine g_tabC (c := 1) (off := 54) dX6_told_14 a1 c9 (by decide) rfl rfl ?_
      refine g_aload_n dX6_told_68 rfl ?_
      obtain ⟨r69, hq_r69, e_r69, h⟩ := h
      refine g_getVZ (o := r69) dX6_told_69 tF_6_16 lD_0 rfl e_r69 (q_lt hq_r69) ?_
      refine g_getZ (v := vI T r69 1) dX6_told_72 tF_6_77 (lP_0 hq_r69) rfl (zI_v _ _ _) ?_
      exact g_iret dX6_told_75 rfl rfl h
    have n1_14 := c9
    by_cases c9 : l1 = 2
    · replace h := h.2.2.1 c9
      refine g_tabC (c := 2) (off := 62) dX6_told_14 a1 c9 (by decide) rfl rfl ?_
      refine g_aload_n dX6_told_76 rfl ?_
      obtain ⟨r77, hq_r77, e_r77, h⟩ := h
      refine g_getVZ (o := r77) dX6_told_77 tF_6_16 lD_0 rfl e_r77 (q_lt hq_r77) ?_
      refine g_getZ (v := vI T r77 2) dX6_told_80 tF_6_80 (lP_0 hq_r77) rfl (zI_v _ _ _) ?_
      exact g_iret dX6_told_83 rfl rfl h
    have n2_14 := c9
    by_cases c9 : l1 = 3
    · replace h := h.2.2.2.1 c9
      refine g_tabC (c := 3) (off := 70) dX6_told_14 a1 c9 (by decide) rfl rfl ?_
      refine g_aload_n dX6_told_84 rfl ?_
      refine g_iconst (v := zI 0) dX6_told_85 (by decide) ?_
      refine g_callV [.ref (b + 0), .int (zI 0)] [] dX6_told_86 tG_6_83 tM_107 lD_0 rfl rfl rfl rfl (by decide) rfl ?_
      refine gC.mono h (Nat.le_refl _) ?_
      rintro _ T86 ⟨v86, rfl, h⟩
      exact g_iret dX6_told_89 rfl rfl h
    have n3_14 := c9
    by_cases c9 : l1 = 4
    · replace h := h.2.2.2.2.1 c9
      refine g_tabC (c := 4) (off := 76) dX6_told_14 a1 c9 (by decide) rfl rfl ?_
      refine g_aload_n dX6_told_90 rfl ?_
      refine g_iconst (v := zI 1) dX6_told_91 (by decide) ?_
      refine g_callV [.ref (b + 0), .int (zI 1)] [] dX6_told_92 tG_6_83 tM_107 lD_0 rfl rfl rfl rfl (by decide) rfl ?_
      refine gC.mono h (Nat.le_refl _) ?_
      rintro _ T92 ⟨v92, rfl, h⟩
      exact g_iret dX6_told_95 rfl rfl h
    have n4_14 := c9
    by_cases c9 : l1 = 5
    · replace h := h.2.2.2.2.2.1 c9
      refine g_tabC (c := 5) (off := 82) dX6_told_14 a1 c9 (by decide) rfl rfl ?_
      refine g_aload_n dX6_told_96 rfl ?_
      refine g_iconst (v := zI 2) dX6_told_97 (by decide) ?_
      refine g_callV [.ref (b + 0), .int (zI 2)] [] dX6_told_98 tG_6_83 tM_107 lD_0 rfl rfl rfl rfl (by decide) rfl ?_
      refine gC.mono h (Nat.le_refl _) ?_
      rintro _ T98 ⟨v98, rfl, h⟩
      exact g_iret dX6_told_101 rfl rfl h
    have n5_14 := c9
    by_cases c9 : l1 = 6
    · replace h := h.2.2.2.2.2.2.1 c9
      refine g_tabC (c := 6) (off := 88) dX6_told_14 a1 c9 (by decide) rfl rfl ?_
      refine g_aload_n dX6_told_102 rfl ?_
      refine g_iconst (v := zI 3) dX6_told_103 (by decide) ?_
      refine g_callV [.ref (b + 0), .int (zI 3)] [] dX6_told_104 tG_6_83 tM_107 lD_0 rfl rfl rfl rfl (by decide) rfl ?_
      refine gC.mono h (Nat.le_refl _) ?_
      rintro _ T104 ⟨v104, rfl, h⟩
      exact g_iret dX6_told_107 rfl rfl h
    have n6_14 := c9
    by_cases c9 : l1 = 7
    · replace h := h.2.2.2.2.2.2.2.1 c9
      refine g_tabC (c := 7) (off := 94) dX6_told_14 a1 c9 (by decide) rfl rfl ?_
      refine g_aload_n dX6_told_108 rfl ?_
      refine g_getR dX6_told_109 tF_6_40 lD_0 rfl ?_
      refine g_getZ (v := vI T 51 0) dX6_told_112 tF_6_87 lD_51 rfl (zI_v T 51 0) ?_
      exact g_iret dX6_told_115 rfl rfl h
    have n7_14 := c9
    replace h := h.2.2.2.2.2.2.2.2 ⟨n0_14, n1_14, n2_14, n3_14, n4_14, n5_14, n6_14, n7_14⟩
    have o7 : ¬ (l1 < 0 ∨ 7 < l1) → (#[46, 54, 62, 70, 76, 82, 88, 94] : Array Int)[(l1 - 0).toNat]? = some 102 := by
      intro o9
      exact absurd o9 (by omega)
    refine g_tabD dX6_told_14 a1 o7 rfl ?_
    refine g_bipush (v := zI (-2)) dX6_told_116 (by decide) ?_
    exact g_iret dX6_told_118 rfl rfl h
  · replace h := h.2 c7
    refine g_bipush (v := zI (-2)) dX6_told_10 (by decide) ?_
    exact g_iret dX6_told_12 rfl rfl h
def f_X6_single (sa : Nat → Nat) (b : Nat) (E : Nat × mH) (d : Nat) (l1 : Int) (T : gT) (Q : Option Value → gT → Prop) : Prop := gC (tP sa) lD b E d mX6_isOfKind [.ref (b + 0), .int (zI l1), .int (zI 11)] T (fun r T4 => pI r (fun v4 => (-2147483648 ≤ v4 ∧ v4 < 2147483648) ∧ ((v4 = 0 → Q (some (.int (zI (-2)))) T4) ∧ (¬ v4 = 0 → gC (tP sa) lD b E d mX6_onlyFunction [.ref (b + 0), .int (zI l1)] T4 (fun r T12 => pI r (fun v12 => Q (some (.int (zI v12))) T12))))))
set_option maxRecDepth 4000 in
theorem w_X6_single {sa : Nat → Nat} {b : Nat} {E : Nat × mH} {d : Nat} {l1 : Int} {T : gT} {Q : Option Value → gT → Prop} (h : f_X6_single sa b E d l1 T Q) : gC (tP sa) lD b E (d + 1) mX6_single [.ref (b + 0), .int (zI l1)] T Q := by
  unfold f_X6_single at h
  refine ⟨Nat.le_of_ble_eq_true rfl, ?_⟩
  show gW (tP sa) lD b E (d + 1) mX6_single 0 [some (.ref (b + 0)), some (.int (zI l1))] [] T Q
  refine g_aload_n dX6_single_0 rfl ?_
  refine g_iload_n dX6_single_1 rfl ?_
  refine g_bipush (v := zI 11) dX6_single_2 (by decide) ?_
  refine g_callV [.ref (b + 0), .int (zI l1), .int (zI 11)] [] dX6_single_4 tG_6_143 tM_100 lD_0 rfl rfl rfl rfl (by decide) rfl ?_
  refine gC.mono h (Nat.le_refl _) ?_
  rintro _ T4 ⟨v4, rfl, h⟩
  obtain ⟨a1, h⟩ := h
  refine g_if_eqZ dX6_single_7 rfl a1  (fun c7 => ?_) (fun c7 => ?_)
  · replace h := h.1 c7
    refine g_bipush (v := zI (-2)) dX6_single_18 (by decide) ?_
    exact g_iret dX6_single_20 rfl rfl h
  · replace h := h.2 c7
    refine g_aload_n dX6_single_10 rfl ?_
    refine g_iload_n dX6_single_11 rfl ?_
    refine g_callV [.ref (b + 0), .int (zI l1)] [] dX6_single_12 tG_6_147 tM_103 lD_0 rfl rfl rfl rfl (by decide) rfl ?_
    refine gC.mono h (Nat.le_refl _) ?_
    rintro _ T12 ⟨v12, rfl, h⟩
    refine g_goto dX6_single_15 rfl ?_
    exact g_iret dX6_single_20 rfl rfl h
def f_X6_result (sa : Nat → Nat) (b : Nat) (E : Nat × mH) (d : Nat) (T : gT) (Q : Option Value → gT → Prop) : Prop := Q (some (.long (T.2.1 51 2))) T
set_option maxRecDepth 4000 in
theorem w_X6_result {sa : Nat → Nat} {b : Nat} {E : Nat × mH} {d : Nat} {T : gT} {Q : Option Value → gT → Prop} (h : f_X6_result sa b E d T Q) : gC (tP sa) lD b E d mX6_result [.ref (b + 0)] T Q := by
  unfold f_X6_result at h
  refine ⟨Nat.le_of_ble_eq_true rfl, ?_⟩
  show gW (tP sa) lD b E d mX6_result 0 [some (.ref (b + 0))] [] T Q
  refine g_aload_n dX6_result_0 rfl ?_
  refine g_getR dX6_result_1 tF_6_40 lD_0 rfl ?_
  refine g_getJv (v := T.2.1 51 2) dX6_result_4 tF_6_157 lD_51 rfl rfl ?_
  exact g_lret dX6_result_7 rfl h
def f_X6_used (sa : Nat → Nat) (b : Nat) (E : Nat × mH) (d : Nat) (l1 : Int) (T : gT) (Q : Option Value → gT → Prop) : Prop := gC (tP sa) lD b E d mX6_isOfKind [.ref (b + 0), .int (zI l1), .int (zI 11)] T (fun r T4 => pI r (fun v4 => (-2147483648 ≤ v4 ∧ v4 < 2147483648) ∧ ((v4 = 0 → Q (some (.long 0)) T4) ∧ (¬ v4 = 0 → 0 ≤ l1 ∧ l1 < 200 ∧ Q (some (.long (T4.2.1 52 l1.toNat))) T4))))
set_option maxRecDepth 4000 in
theorem w_X6_used {sa : Nat → Nat} {b : Nat} {E : Nat × mH} {d : Nat} {l1 : Int} {T : gT} {Q : Option Value → gT → Prop} (h : f_X6_used sa b E d l1 T Q) : gC (tP sa) lD b E (d + 1) mX6_used [.ref (b + 0), .int (zI l1)] T Q := by
  unfold f_X6_used at h
  refine ⟨Nat.le_of_ble_eq_true rfl, ?_⟩
  show gW (tP sa) lD b E (d + 1) mX6_used 0 [some (.ref (b + 0)), some (.int (zI l1))] [] T Q
  refine g_aload_n dX6_used_0 rfl ?_
  refine g_iload_n dX6_used_1 rfl ?_
  refine g_bipush (v := zI 11) dX6_used_2 (by decide) ?_
  refine g_callV [.ref (b + 0), .int (zI l1), .int (zI 11)] [] dX6_used_4 tG_6_143 tM_100 lD_0 rfl rfl rfl rfl (by decide) rfl ?_
  refine gC.mono h (Nat.le_refl _) ?_
  rintro _ T4 ⟨v4, rfl, h⟩
  obtain ⟨a1, h⟩ := h
  refine g_if_eqZ dX6_used_7 rfl a1  (fun c7 => ?_) (fun c7 => ?_)
  · replace h := h.1 c7
    refine g_lconst (v := 0) dX6_used_22 (by decide) ?_
    exact g_lret dX6_used_23 rfl h
  · replace h := h.2 c7
    refine g_aload_n dX6_used_10 rfl ?_
    refine g_getR dX6_used_11 tF_6_40 lD_0 rfl ?_
    refine g_getR dX6_used_14 tF_6_161 lD_51 rfl ?_
    refine g_iload_n dX6_used_17 rfl ?_
    obtain ⟨a2, h⟩ := h
    obtain ⟨a3, h⟩ := h
    refine g_laldZ (v := T4.2.1 52 l1.toNat) dX6_used_18 lD_52 a2 a3 (by decide) rfl ?_
    refine g_goto dX6_used_19 rfl ?_
    exact g_lret dX6_used_23 rfl h
def f_X6_drop (sa : Nat → Nat) (b : Nat) (E : Nat × mH) (d : Nat) (l1 : Int) (T : gT) (Q : Option Value → gT → Prop) : Prop := gC (tP sa) lD b E (d + 1) mX6_isOfKind [.ref (b + 0), .int (zI l1), .int (zI 5)] T (fun r T3 => pI r (fun v3 => (-2147483648 ≤ v3 ∧ v3 < 2147483648) ∧ ((¬ v3 = 0 → gC (tP sa) lD b E (d + 1) mX6_isDroppable [.ref (b + 0), .int (zI l1)] T3 (fun r T14 => pI r (fun v14 => (-2147483648 ≤ v14 ∧ v14 < 2147483648) ∧ ((¬ v14 = 0 → (∃ r23 : Nat, (r23 = 2 ∨ r23 = 21) ∧ vI T14 0 3 = (r23 : Int) ∧ (∃ r31 : Nat, (r31 = 2 ∨ r31 = 21) ∧ vI (gI T14 r23 0 (zI 0)) 0 3 = (r31 : Int) ∧ (∃ r35 : Nat, (r35 = 2 ∨ r35 = 21) ∧ vI (gI T14 r23 0 (zI 0)) 0 2 = (r35 : Int) ∧ gC (tP sa) lD b E (d + 1) mX3_addCopies [.ref (b + r31), .ref (b + r35), .int (zI 0), .int (zI l1), .int (zI 0)] (gI T14 r23 0 (zI 0)) (fun r T41 => pV r ((∃ r45 : Nat, (r45 = 2 ∨ r45 = 21) ∧ vI T41 0 3 = (r45 : Int) ∧ (∃ r49 : Nat, (r49 = 2 ∨ r49 = 21) ∧ vI T41 0 2 = (r49 : Int) ∧ (∃ r53 : Nat, (r53 = 2 ∨ r53 = 21) ∧ vI T41 0 2 = (r53 : Int) ∧ (-2147483648 ≤ l1 ∧ l1 < 2147483648) ∧ (∃ r62 : Nat, (r62 = 2 ∨ r62 = 21) ∧ vI T41 0 2 = (r62 : Int) ∧ gC (tP sa) lD b E (d + 1) mX3_addCopies [.ref (b + r45), .ref (b + r49), .int (zI (aP T41 r53 l1 1)), .int (zI (aI T41 (r62 + 17) 200 l1)), .int (zI 0)] T41 (fun r T70 => pV r ((∃ r74 : Nat, (r74 = 2 ∨ r74 = 21) ∧ vI T70 0 3 = (r74 : Int) ∧ (∃ r78 : Nat, (r78 = 2 ∨ r78 = 21) ∧ vI T70 0 2 = (r78 : Int) ∧ (∃ r82 : Nat, (r82 = 2 ∨ r82 = 21) ∧ vI T70 0 2 = (r82 : Int) ∧ (∃ r90 : Nat, (r90 = 2 ∨ r90 = 21) ∧ vI T70 0 2 = (r90 : Int) ∧ gC (tP sa) lD b E (d + 1) mX3_addCopies [.ref (b + r74), .ref (b + r78), .int (zI (aI T70 (r82 + 17) 200 l1)), .int (zI (vI T70 r90 0)), .int (zI 0)] T70 (fun r T97 => pV r (gC (tP sa) lD b E (d + 1) mX6_takeSpare [.ref (b + 0)] T97 (fun r T101 => pV r ((∃ r105 : Nat, (r105 = 2 ∨ r105 = 21) ∧ vI T101 0 2 = (r105 : Int) ∧ Q (some (.int (zI (vI T101 r105 0)))) T101))))))))))))))))))))) ∧ (v14 = 0 → Q (some (.int (zI (-1)))) T14))))) ∧ (v3 = 0 → Q (some (.int (zI (-2)))) T3))))
set_option maxRecDepth 4000 in
theorem w_X6_drop {sa : Nat → Nat} {b : Nat} {E : Nat × mH} {d : Nat} {l1 : Int} {T : gT} {Q : Option Value → gT → Prop} (h : f_X6_drop sa b E d l1 T Q) : gC (tP sa) lD b E (d + 1 + 1) mX6_drop [.ref (b + 0), .int (zI l1)] T Q := by
  unfold f_X6_drop at h
  refine ⟨Nat.le_of_ble_eq_true rfl, ?_⟩
  show gW (tP sa) lD b E (d + 1 + 1) mX6_drop 0 [some (.ref (b + 0)), some (.int (zI l1))] [] T Q
  refine g_aload_n dX6_drop_0 rfl ?_
  refine g_iload_n dX6_drop_1 rfl ?_
  refine g_iconst (v := zI 5) dX6_drop_2 (by decide) ?_
  refine g_callV [.ref (b + 0), .int (zI l1), .int (zI 5)] [] dX6_drop_3 tG_6_143 tM_100 lD_0 rfl rfl rfl rfl (by decide) rfl ?_
  refine gC.mono h (Nat.le_refl _) ?_
  rintro _ T3 ⟨v3, rfl, h⟩
  obtain ⟨a1, h⟩ := h
  refine g_if_neZ dX6_drop_6 rfl a1  (fun c6 => ?_) (fun c6 => ?_)
  · replace h := h.1 c6
    refine g_aload_n dX6_drop_12 rfl ?_
    refine g_iload_n dX6_drop_13 rfl ?_
    refine g_callV [.ref (b + 0), .int (zI l1)] [] dX6_drop_14 tG_6_182 tM_105 lD_0 rfl rfl rfl rfl (by decide) rfl ?_
    refine gC.mono h (Nat.le_refl _) ?_
    rintro _ T14 ⟨v14, rfl, h⟩
    obtain ⟨a2, h⟩ := h
    refine g_if_neZ dX6_drop_17 rfl a2  (fun c17 => ?_) (fun c17 => ?_)
    · replace h := h.1 c17
      refine g_aload_n dX6_drop_22 rfl ?_
      obtain ⟨r23, hq_r23, e_r23, h⟩ := h
      refine g_getVZ (o := r23) dX6_drop_23 tF_6_20 lD_0 rfl e_r23 (q_lt hq_r23) ?_
      refine g_iconst (v := zI 0) dX6_drop_26 (by decide) ?_
      refine g_putI dX6_drop_27 tF_6_74 (lP_0 hq_r23) rfl rfl ⟨rfl, rfl⟩ rfl ?_
      refine g_aload_n dX6_drop_30 rfl ?_
      obtain ⟨r31, hq_r31, e_r31, h⟩ := h
      refine g_getVZ (o := r31) dX6_drop_31 tF_6_20 lD_0 rfl e_r31 (q_lt hq_r31) ?_
      refine g_aload_n dX6_drop_34 rfl ?_
      obtain ⟨r35, hq_r35, e_r35, h⟩ := h
      refine g_getVZ (o := r35) dX6_drop_35 tF_6_16 lD_0 rfl e_r35 (q_lt hq_r35) ?_
      refine g_iconst (v := zI 0) dX6_drop_38 (by decide) ?_
      refine g_iload_n dX6_drop_39 rfl ?_
      refine g_iconst (v := zI 0) dX6_drop_40 (by decide) ?_
      refine g_callV [.ref (b + r31), .ref (b + r35), .int (zI 0), .int (zI l1), .int (zI 0)] [] dX6_drop_41 tG_6_171 tM_30 (lP_0 hq_r31) rfl rfl rfl rfl (by decide) rfl ?_
      refine gC.mono h (Nat.le_refl _) ?_
      rintro _ T41 ⟨rfl, h⟩
      refine g_aload_n dX6_drop_44 rfl ?_
      obtain ⟨r45, hq_r45, e_r45, h⟩ := h
      refine g_getVZ (o := r45) dX6_drop_45 tF_6_20 lD_0 rfl e_r45 (q_lt hq_r45) ?_
      refine g_aload_n dX6_drop_48 rfl ?_
      obtain ⟨r49, hq_r49, e_r49, h⟩ := h
      refine g_getVZ (o := r49) dX6_drop_49 tF_6_16 lD_0 rfl e_r49 (q_lt hq_r49) ?_
      refine g_aload_n dX6_drop_52 rfl ?_
      obtain ⟨r53, hq_r53, e_r53, h⟩ := h
      refine g_getVZ (o := r53) dX6_drop_53 tF_6_16 lD_0 rfl e_r53 (q_lt hq_r53) ?_
      refine g_iload_n dX6_drop_56 rfl ?_
      refine g_iconst (v := zI 1) dX6_drop_57 (by decide) ?_
      obtain ⟨a3, h⟩ := h
      refine g_callV [.ref (b + r53), .int (zI l1), .int (zI 1)] [.ref (b + r49), .ref (b + r45)] dX6_drop_58 tG_6_104 tM_39 (lP_0 hq_r53) rfl rfl rfl rfl (by decide) rfl ?_
      refine gC.mono (c_part sa b E _ _ hq_r53 a3 (by decide)) (Nat.le_refl _) ?_
      rintro _ _ ⟨rfl, h9⟩
      obtain rfl := h9.symm
      refine g_aload_n dX6_drop_61 rfl ?_
      obtain ⟨r62, hq_r62, e_r62, h⟩ := h
      refine g_getVZ (o := r62) dX6_drop_62 tF_6_16 lD_0 rfl e_r62 (q_lt hq_r62) ?_
      refine g_iload_n dX6_drop_65 rfl ?_
      refine g_callV [.ref (b + r62), .int (zI l1)] [.int (zI (aP T41 r53 l1 1)), .ref (b + r49), .ref (b + r45)] dX6_drop_66 tG_6_179 tM_40 (lP_0 hq_r62) rfl rfl rfl rfl (by decide) rfl ?_
      refine gC.mono (c_endOf sa b E _ _ hq_r62 a3) (Nat.le_refl _) ?_
      rintro _ _ ⟨rfl, h9⟩
      obtain rfl := h9.symm
      refine g_iconst (v := zI 0) dX6_drop_69 (by decide) ?_
      refine g_callV [.ref (b + r45), .ref (b + r49), .int (zI (aP T41 r53 l1 1)), .int (zI (aI T41 (r62 + 17) 200 l1)), .int (zI 0)] [] dX6_drop_70 tG_6_171 tM_30 (lP_0 hq_r45) rfl rfl rfl rfl (by decide) rfl ?_
      refine gC.mono h (Nat.le_refl _) ?_
      rintro _ T70 ⟨rfl, h⟩
      refine g_aload_n dX6_drop_73 rfl ?_
      obtain ⟨r74, hq_r74, e_r74, h⟩ := h
      refine g_getVZ (o := r74) dX6_drop_74 tF_6_20 lD_0 rfl e_r74 (q_lt hq_r74) ?_
      refine g_aload_n dX6_drop_77 rfl ?_
      obtain ⟨r78, hq_r78, e_r78, h⟩ := h
      refine g_getVZ (o := r78) dX6_drop_78 tF_6_16 lD_0 rfl e_r78 (q_lt hq_r78) ?_
      refine g_aload_n dX6_drop_81 rfl ?_
      obtain ⟨r82, hq_r82, e_r82, h⟩ := h
      refine g_getVZ (o := r82) dX6_drop_82 tF_6_16 lD_0 rfl e_r82 (q_lt hq_r82) ?_
      refine g_iload_n dX6_drop_85 rfl ?_
      refine g_callV [.ref (b + r82), .int (zI l1)] [.ref (b + r78), .ref (b + r74)] dX6_drop_86 tG_6_179 tM_40 (lP_0 hq_r82) rfl rfl rfl rfl (by decide) rfl ?_
      refine gC.mono (c_endOf sa b E _ _ hq_r82 a3) (Nat.le_refl _) ?_
      rintro _ _ ⟨rfl, h9⟩
      obtain rfl := h9.symm
      refine g_aload_n dX6_drop_89 rfl ?_
      obtain ⟨r90, hq_r90, e_r90, h⟩ := h
      refine g_getVZ (o := r90) dX6_drop_90 tF_6_16 lD_0 rfl e_r90 (q_lt hq_r90) ?_
      refine g_getZ (v := vI T70 r90 0) dX6_drop_93 tF_6_74 (lP_0 hq_r90) rfl (zI_v _ _ _) ?_
      refine g_iconst (v := zI 0) dX6_drop_96 (by decide) ?_
      refine g_callV [.ref (b + r74), .ref (b + r78), .int (zI (aI T70 (r82 + 17) 200 l1)), .int (zI (vI T70 r90 0)), .int (zI 0)] [] dX6_drop_97 tG_6_171 tM_30 (lP_0 hq_r74) rfl rfl rfl rfl (by decide) rfl ?_
      refine gC.mono h (Nat.le_refl _) ?_
      rintro _ T97 ⟨rfl, h⟩
      refine g_aload_n dX6_drop_100 rfl ?_
      refine g_callV [.ref (b + 0)] [] dX6_drop_101 tG_6_71 tM_98 lD_0 rfl rfl rfl rfl (by decide) rfl ?_
      refine gC.mono h (Nat.le_refl _) ?_
      rintro _ T101 ⟨rfl, h⟩
      refine g_aload_n dX6_drop_104 rfl ?_
      obtain ⟨r105, hq_r105, e_r105, h⟩ := h
      refine g_getVZ (o := r105) dX6_drop_105 tF_6_16 lD_0 rfl e_r105 (q_lt hq_r105) ?_
      refine g_getZ (v := vI T101 r105 0) dX6_drop_108 tF_6_74 (lP_0 hq_r105) rfl (zI_v _ _ _) ?_
      exact g_iret dX6_drop_111 rfl rfl h
    · replace h := h.2 c17
      refine g_iconst (v := zI (-1)) dX6_drop_20 (by decide) ?_
      exact g_iret dX6_drop_21 rfl rfl h
  · replace h := h.2 c6
    refine g_bipush (v := zI (-2)) dX6_drop_9 (by decide) ?_
    exact g_iret dX6_drop_11 rfl rfl h
def f_X6_isFunction (sa : Nat → Nat) (b : Nat) (E : Nat × mH) (d : Nat) (l1 : Int) (T : gT) (Q : Option Value → gT → Prop) : Prop := (-2147483648 ≤ l1 ∧ l1 < 2147483648) ∧ ((l1 < 0 → Q (some (.int (zI 0))) T) ∧ (¬ l1 < 0 → (∃ r6 : Nat, (r6 = 2 ∨ r6 = 21) ∧ vI T 0 2 = (r6 : Int) ∧ (((vI T r6 1) ≤ l1 → Q (some (.int (zI 0))) T) ∧ (¬ (vI T r6 1) ≤ l1 → Q (some (.int (zI 1))) T)))))
set_option maxRecDepth 4000 in
theorem w_X6_isFunction {sa : Nat → Nat} {b : Nat} {E : Nat × mH} {d : Nat} {l1 : Int} {T : gT} {Q : Option Value → gT → Prop} (h : f_X6_isFunction sa b E d l1 T Q) : gC (tP sa) lD b E d mX6_isFunction [.ref (b + 0), .int (zI l1)] T Q := by
  unfold f_X6_isFunction at h
  refine ⟨Nat.le_of_ble_eq_true rfl, ?_⟩
  show gW (tP sa) lD b E d mX6_isFunction 0 [some (.ref (b + 0)), some (.int (zI l1))] [] T Q
  refine g_iload_n dX6_isFunction_0 rfl ?_
  obtain ⟨a1, h⟩ := h
  refine g_if_ltZ dX6_isFunction_1 rfl a1  (fun c1 => ?_) (fun c1 => ?_)
  · replace h := h.1 c1
    refine g_iconst (v := zI 0) dX6_isFunction_19 (by decide) ?_
    exact g_iret dX6_isFunction_20 rfl rfl h
  · replace h := h.2 c1
    refine g_iload_n dX6_isFunction_4 rfl ?_
    refine g_aload_n dX6_isFunction_5 rfl ?_
    obtain ⟨r6, hq_r6, e_r6, h⟩ := h
    refine g_getVZ (o := r6) dX6_isFunction_6 tF_6_16 lD_0 rfl e_r6 (q_lt hq_r6) ?_
    refine g_getZ (v := vI T r6 1) dX6_isFunction_9 tF_6_77 (lP_0 hq_r6) rfl (zI_v _ _ _) ?_
    refine g_icmp_geZ dX6_isFunction_12 rfl a1 ⟨vI_lo _ _ _, vI_hi _ _ _⟩ (fun c12 => ?_) (fun c12 => ?_)
    · replace h := h.1 c12
      refine g_iconst (v := zI 0) dX6_isFunction_19 (by decide) ?_
      exact g_iret dX6_isFunction_20 rfl rfl h
    · replace h := h.2 c12
      refine g_iconst (v := zI 1) dX6_isFunction_15 (by decide) ?_
      refine g_goto dX6_isFunction_16 rfl ?_
      exact g_iret dX6_isFunction_20 rfl rfl h
def f_X6_onlyFunction (sa : Nat → Nat) (b : Nat) (E : Nat × mH) (d : Nat) (l1 : Int) (T : gT) (Q : Option Value → gT → Prop) : Prop := gC (tP sa) lD b E d mX6_operatorFlow [.ref (b + 0), .int (zI l1)] T (fun r T2 => pJ r (fun v2 => gW (tP sa) lD b E (d + 1) mX6_onlyFunction 9 [some (.ref (b + 0)), some (.int (zI l1)), some (.long v2), none, some (.int (zI 0))] [] T2 Q))
set_option maxRecDepth 4000 in
theorem w_X6_onlyFunction {sa : Nat → Nat} {b : Nat} {E : Nat × mH} {d : Nat} {l1 : Int} {T : gT} {Q : Option Value → gT → Prop} (h : f_X6_onlyFunction sa b E d l1 T Q) : gC (tP sa) lD b E (d + 1) mX6_onlyFunction [.ref (b + 0), .int (zI l1)] T Q := by
  unfold f_X6_onlyFunction at h
  refine ⟨Nat.le_of_ble_eq_true rfl, ?_⟩
  show gW (tP sa) lD b E (d + 1) mX6_onlyFunction 0 [some (.ref (b + 0)), some (.int (zI l1)), none, none, none] [] T Q
  refine g_aload_n dX6_onlyFunction_0 rfl ?_
  refine g_iload_n dX6_onlyFunction_1 rfl ?_
  refine g_callV [.ref (b + 0), .int (zI l1)] [] dX6_onlyFunction_2 tG_6_214 tM_102 lD_0 rfl rfl rfl rfl (by decide) rfl ?_
  refine gC.mono h (Nat.le_refl _) ?_
  rintro _ T2 ⟨v2, rfl, h⟩
  refine g_lstore_n (L' := [some (.ref (b + 0)), some (.int (zI l1)), some (.long v2), none, none]) dX6_onlyFunction_5 rfl ?_
  refine g_iconst (v := zI 0) dX6_onlyFunction_6 (by decide) ?_
  refine g_istore (L' := [some (.ref (b + 0)), some (.int (zI l1)), some (.long v2), none, some (.int (zI 0))]) dX6_onlyFunction_7 rfl ?_
  exact h
def f_X6_onlyFunction_9 (sa : Nat → Nat) (b : Nat) (E : Nat × mH) (d : Nat) (l1 : Int) (l2 : Int64) (l4 : Int) (T : gT) (Q : Option Value → gT → Prop) : Prop := (∃ r12 : Nat, (r12 = 2 ∨ r12 = 21) ∧ vI T 0 2 = (r12 : Int) ∧ (-2147483648 ≤ l4 ∧ l4 < 2147483648) ∧ (((vI T r12 1) ≤ l4 → Q (some (.int (zI (-1)))) T) ∧ (¬ (vI T r12 1) ≤ l4 → ((¬ l2 = (1 <<< ((zI l4).toInt64 &&& 63)) → gW (tP sa) lD b E (d + 1) mX6_onlyFunction 9 [some (.ref (b + 0)), some (.int (zI l1)), some (.long l2), none, some (.int (zI (l4 + 1)))] [] T Q) ∧ (l2 = (1 <<< ((zI l4).toInt64 &&& 63)) → Q (some (.int (zI l4))) T)))))
set_option maxRecDepth 4000 in
theorem w_X6_onlyFunction_9 {sa : Nat → Nat} {b : Nat} {E : Nat × mH} {d : Nat} {l1 : Int} {l2 : Int64} {l4 : Int} {T : gT} {Q : Option Value → gT → Prop} (h : f_X6_onlyFunction_9 sa b E d l1 l2 l4 T Q) : gW (tP sa) lD b E (d + 1) mX6_onlyFunction 9 [some (.ref (b + 0)), some (.int (zI l1)), some (.long l2), none, some (.int (zI l4))] [] T Q := by
  unfold f_X6_onlyFunction_9 at h
  refine g_iload dX6_onlyFunction_9 rfl ?_
  refine g_aload_n dX6_onlyFunction_11 rfl ?_
  obtain ⟨r12, hq_r12, e_r12, h⟩ := h
  refine g_getVZ (o := r12) dX6_onlyFunction_12 tF_6_16 lD_0 rfl e_r12 (q_lt hq_r12) ?_
  refine g_getZ (v := vI T r12 1) dX6_onlyFunction_15 tF_6_77 (lP_0 hq_r12) rfl (zI_v _ _ _) ?_
  obtain ⟨a1, h⟩ := h
  refine g_icmp_geZ dX6_onlyFunction_18 rfl a1 ⟨vI_lo _ _ _, vI_hi _ _ _⟩ (fun c18 => ?_) (fun c18 => ?_)
  · replace h := h.1 c18
    refine g_iconst (v := zI (-1)) dX6_onlyFunction_39 (by decide) ?_
    exact g_iret dX6_onlyFunction_40 rfl rfl h
  · replace h := h.2 c18
    refine g_lload_n dX6_onlyFunction_21 rfl ?_
    refine g_lconst (v := 1) dX6_onlyFunction_22 (by decide) ?_
    refine g_iload dX6_onlyFunction_23 rfl ?_
    refine g_lshl dX6_onlyFunction_25 ?_
    refine g_lcmp dX6_onlyFunction_26 ?_
    refine g_if_neL dX6_onlyFunction_27 rfl (fun c27 => ?_) (fun c27 => ?_)
    · replace h := h.1 c27
      refine g_iinc (x := zI l4) (v := zI (l4 + 1)) (L' := [some (.ref (b + 0)), some (.int (zI l1)), some (.long l2), none, some (.int (zI (l4 + 1)))]) dX6_onlyFunction_33 rfl (zI_add _ _) rfl ?_
      refine g_goto dX6_onlyFunction_36 rfl ?_
      exact h
    · replace h := h.2 c27
      refine g_iload dX6_onlyFunction_30 rfl ?_
      exact g_iret dX6_onlyFunction_32 rfl rfl h
def f_X6_hasRoom (sa : Nat → Nat) (b : Nat) (E : Nat × mH) (d : Nat) (l1 : Int) (l2 : Int) (l3 : Int) (T : gT) (Q : Option Value → gT → Prop) : Prop := (∃ r1 : Nat, (r1 = 2 ∨ r1 = 21) ∧ vI T 0 2 = (r1 : Int) ∧ (-2147483648 ≤ l3 ∧ l3 < 2147483648) ∧ (∃ r11 : Nat, (r11 = 2 ∨ r11 = 21) ∧ vI T 0 2 = (r11 : Int) ∧ (∃ r29 : Nat, (r29 = 2 ∨ r29 = 21) ∧ vI T 0 2 = (r29 : Int) ∧ (∃ r36 : Nat, (r36 = 2 ∨ r36 = 21) ∧ vI T 0 2 = (r36 : Int) ∧ gC (tP sa) lD b E (d + 1) mX3_functionsIn [.ref (b + r36), .int (zI l1), .int (zI l2)] T (fun r T41 => pI r (fun v41 => (∃ r46 : Nat, (r46 = 2 ∨ r46 = 21) ∧ vI T41 0 2 = (r46 : Int) ∧ gC (tP sa) lD b E (d + 1) mX3_functionsIn [.ref (b + r46), .int (zI l3), .int (zI (aI T (r1 + 17) 200 l3))] T41 (fun r T52 => pI r (fun v52 => (∃ r59 : Nat, (r59 = 2 ∨ r59 = 21) ∧ vI T52 0 2 = (r59 : Int) ∧ (∃ r66 : Nat, (r66 = 2 ∨ r66 = 21) ∧ vI T52 0 2 = (r66 : Int) ∧ gC (tP sa) lD b E (d + 1) mX3_variablesIn [.ref (b + r66), .int (zI l1), .int (zI l2)] T52 (fun r T71 => pI r (fun v71 => (∃ r76 : Nat, (r76 = 2 ∨ r76 = 21) ∧ vI T71 0 2 = (r76 : Int) ∧ gC (tP sa) lD b E (d + 1) mX3_variablesIn [.ref (b + r76), .int (zI l3), .int (zI (aI T (r1 + 17) 200 l3))] T71 (fun r T82 => pI r (fun v82 => (-2147483648 ≤ ((vI T r11 0) - (l2 - l1)) + ((aI T (r1 + 17) 200 l3) - l3) ∧ ((vI T r11 0) - (l2 - l1)) + ((aI T (r1 + 17) 200 l3) - l3) < 2147483648) ∧ ((200 < (((vI T r11 0) - (l2 - l1)) + ((aI T (r1 + 17) 200 l3) - l3)) → Q (some (.int (zI 0))) T82) ∧ (¬ 200 < (((vI T r11 0) - (l2 - l1)) + ((aI T (r1 + 17) 200 l3) - l3)) → (-2147483648 ≤ ((vI T r29 1) - v41) + v52 ∧ ((vI T r29 1) - v41) + v52 < 2147483648) ∧ ((50 < (((vI T r29 1) - v41) + v52) → Q (some (.int (zI 0))) T82) ∧ (¬ 50 < (((vI T r29 1) - v41) + v52) → (-2147483648 ≤ (((vI T52 r59 2) - v71) + v82) + 1 ∧ (((vI T52 r59 2) - v71) + v82) + 1 < 2147483648) ∧ ((100 < ((((vI T52 r59 2) - v71) + v82) + 1) → Q (some (.int (zI 0))) T82) ∧ (¬ 100 < ((((vI T52 r59 2) - v71) + v82) + 1) → Q (some (.int (zI 1))) T82))))))))))))))))))))))
set_option maxRecDepth 4000 in
theorem w_X6_hasRoom {sa : Nat → Nat} {b : Nat} {E : Nat × mH} {d : Nat} {l1 : Int} {l2 : Int} {l3 : Int} {T : gT} {Q : Option Value → gT → Prop} (h : f_X6_hasRoom sa b E d l1 l2 l3 T Q) : gC (tP sa) lD b E (d + 1 + 1) mX6_hasRoom [.ref (b + 0), .int (zI l1), .int (zI l2), .int (zI l3)] T Q := by
  unfold f_X6_hasRoom at h
  refine ⟨Nat.le_of_ble_eq_true rfl, ?_⟩
  show gW (tP sa) lD b E (d + 1 + 1) mX6_hasRoom 0 [some (.ref (b + 0)), some (.int (zI l1)), some (.int (zI l2)), some (.int (zI l3)), none, none, none, none] [] T Q
  refine g_aload_n dX6_hasRoom_0 rfl ?_
  obtain ⟨r1, hq_r1, e_r1, h⟩ := h
  refine g_getVZ (o := r1) dX6_hasRoom_1 tF_6_16 lD_0 rfl e_r1 (q_lt hq_r1) ?_
  refine g_iload_n dX6_hasRoom_4 rfl ?_
  obtain ⟨a1, h⟩ := h
  refine g_callV [.ref (b + r1), .int (zI l3)] [] dX6_hasRoom_5 tG_6_179 tM_40 (lP_0 hq_r1) rfl rfl rfl rfl (by decide) rfl ?_
  refine gC.mono (c_endOf sa b E _ _ hq_r1 a1) (Nat.le_refl _) ?_
  rintro _ _ ⟨rfl, h9⟩
  obtain rfl := h9.symm
  refine g_istore (L' := [some (.ref (b + 0)), some (.int (zI l1)), some (.int (zI l2)), some (.int (zI l3)), some (.int (zI (aI T (r1 + 17) 200 l3))), none, none, none]) dX6_hasRoom_8 rfl ?_
  refine g_aload_n dX6_hasRoom_10 rfl ?_
  obtain ⟨r11, hq_r11, e_r11, h⟩ := h
  refine g_getVZ (o := r11) dX6_hasRoom_11 tF_6_16 lD_0 rfl e_r11 (q_lt hq_r11) ?_
  refine g_getZ (v := vI T r11 0) dX6_hasRoom_14 tF_6_74 (lP_0 hq_r11) rfl (zI_v _ _ _) ?_
  refine g_iload_n dX6_hasRoom_17 rfl ?_
  refine g_iload_n dX6_hasRoom_18 rfl ?_
  refine g_isubZ dX6_hasRoom_19 ?_
  refine g_isubZ dX6_hasRoom_20 ?_
  refine g_iload dX6_hasRoom_21 rfl ?_
  refine g_iload_n dX6_hasRoom_23 rfl ?_
  refine g_isubZ dX6_hasRoom_24 ?_
  refine g_iaddZ dX6_hasRoom_25 ?_
  refine g_istore (L' := [some (.ref (b + 0)), some (.int (zI l1)), some (.int (zI l2)), some (.int (zI l3)), some (.int (zI (aI T (r1 + 17) 200 l3))), some (.int (zI (((vI T r11 0) - (l2 - l1)) + ((aI T (r1 + 17) 200 l3) - l3)))), none, none]) dX6_hasRoom_26 rfl ?_
  refine g_aload_n dX6_hasRoom_28 rfl ?_
  obtain ⟨r29, hq_r29, e_r29, h⟩ := h
  refine g_getVZ (o := r29) dX6_hasRoom_29 tF_6_16 lD_0 rfl e_r29 (q_lt hq_r29) ?_
  refine g_getZ (v := vI T r29 1) dX6_hasRoom_32 tF_6_77 (lP_0 hq_r29) rfl (zI_v _ _ _) ?_
  refine g_aload_n dX6_hasRoom_35 rfl ?_
  obtain ⟨r36, hq_r36, e_r36, h⟩ := h
  refine g_getVZ (o := r36) dX6_hasRoom_36 tF_6_16 lD_0 rfl e_r36 (q_lt hq_r36) ?_
  refine g_iload_n dX6_hasRoom_39 rfl ?_
  refine g_iload_n dX6_hasRoom_40 rfl ?_
  refine g_callV [.ref (b + r36), .int (zI l1), .int (zI l2)] [.int (zI (vI T r29 1))] dX6_hasRoom_41 tG_6_221 tM_41 (lP_0 hq_r36) rfl rfl rfl rfl (by decide) rfl ?_
  refine gC.mono h (Nat.le_refl _) ?_
  rintro _ T41 ⟨v41, rfl, h⟩
  refine g_isubZ dX6_hasRoom_44 ?_
  refine g_aload_n dX6_hasRoom_45 rfl ?_
  obtain ⟨r46, hq_r46, e_r46, h⟩ := h
  refine g_getVZ (o := r46) dX6_hasRoom_46 tF_6_16 lD_0 rfl e_r46 (q_lt hq_r46) ?_
  refine g_iload_n dX6_hasRoom_49 rfl ?_
  refine g_iload dX6_hasRoom_50 rfl ?_
  refine g_callV [.ref (b + r46), .int (zI l3), .int (zI (aI T (r1 + 17) 200 l3))] [.int (zI ((vI T r29 1) - v41))] dX6_hasRoom_52 tG_6_221 tM_41 (lP_0 hq_r46) rfl rfl rfl rfl (by decide) rfl ?_
  refine gC.mono h (Nat.le_refl _) ?_
  rintro _ T52 ⟨v52, rfl, h⟩
  refine g_iaddZ dX6_hasRoom_55 ?_
  refine g_istore (L' := [some (.ref (b + 0)), some (.int (zI l1)), some (.int (zI l2)), some (.int (zI l3)), some (.int (zI (aI T (r1 + 17) 200 l3))), some (.int (zI (((vI T r11 0) - (l2 - l1)) + ((aI T (r1 + 17) 200 l3) - l3)))), some (.int (zI (((vI T r29 1) - v41) + v52))), none]) dX6_hasRoom_56 rfl ?_
  refine g_aload_n dX6_hasRoom_58 rfl ?_
  obtain ⟨r59, hq_r59, e_r59, h⟩ := h
  refine g_getVZ (o := r59) dX6_hasRoom_59 tF_6_16 lD_0 rfl e_r59 (q_lt hq_r59) ?_
  refine g_getZ (v := vI T52 r59 2) dX6_hasRoom_62 tF_6_80 (lP_0 hq_r59) rfl (zI_v _ _ _) ?_
  refine g_aload_n dX6_hasRoom_65 rfl ?_
  obtain ⟨r66, hq_r66, e_r66, h⟩ := h
  refine g_getVZ (o := r66) dX6_hasRoom_66 tF_6_16 lD_0 rfl e_r66 (q_lt hq_r66) ?_
  refine g_iload_n dX6_hasRoom_69 rfl ?_
  refine g_iload_n dX6_hasRoom_70 rfl ?_
  refine g_callV [.ref (b + r66), .int (zI l1), .int (zI l2)] [.int (zI (vI T52 r59 2))] dX6_hasRoom_71 tG_6_224 tM_42 (lP_0 hq_r66) rfl rfl rfl rfl (by decide) rfl ?_
  refine gC.mono h (Nat.le_refl _) ?_
  rintro _ T71 ⟨v71, rfl, h⟩
  refine g_isubZ dX6_hasRoom_74 ?_
  refine g_aload_n dX6_hasRoom_75 rfl ?_
  obtain ⟨r76, hq_r76, e_r76, h⟩ := h
  refine g_getVZ (o := r76) dX6_hasRoom_76 tF_6_16 lD_0 rfl e_r76 (q_lt hq_r76) ?_
  refine g_iload_n dX6_hasRoom_79 rfl ?_
  refine g_iload dX6_hasRoom_80 rfl ?_
  refine g_callV [.ref (b + r76), .int (zI l3), .int (zI (aI T (r1 + 17) 200 l3))] [.int (zI ((vI T52 r59 2) - v71))] dX6_hasRoom_82 tG_6_224 tM_42 (lP_0 hq_r76) rfl rfl rfl rfl (by decide) rfl ?_
  refine gC.mono h (Nat.le_refl _) ?_
  rintro _ T82 ⟨v82, rfl, h⟩
  refine g_iaddZ dX6_hasRoom_85 ?_
  refine g_iconst (v := zI 1) dX6_hasRoom_86 (by decide) ?_
  refine g_iaddZ dX6_hasRoom_87 ?_
  refine g_istore (L' := [some (.ref (b + 0)), some (.int (zI l1)), some (.int (zI l2)), some (.int (zI l3)), some (.int (zI (aI T (r1 + 17) 200 l3))), some (.int (zI (((vI T r11 0) - (l2 - l1)) + ((aI T (r1 + 17) 200 l3) - l3)))), some (.int (zI (((vI T r29 1) - v41) + v52))), some (.int (zI ((((vI T52 r59 2) - v71) + v82) + 1)))]) dX6_hasRoom_88 rfl ?_
  refine g_iload dX6_hasRoom_90 rfl ?_
  refine g_sipush (v := zI 200) dX6_hasRoom_92 (by decide) ?_
  obtain ⟨a2, h⟩ := h
  refine g_icmp_gtZ dX6_hasRoom_95 rfl a2 (by decide) (fun c95 => ?_) (fun c95 => ?_)
  · replace h := h.1 c95
    refine g_iconst (v := zI 0) dX6_hasRoom_116 (by decide) ?_
    exact g_iret dX6_hasRoom_117 rfl rfl h
  · replace h := h.2 c95
    refine g_iload dX6_hasRoom_98 rfl ?_
    refine g_bipush (v := zI 50) dX6_hasRoom_100 (by decide) ?_
    obtain ⟨a3, h⟩ := h
    refine g_icmp_gtZ dX6_hasRoom_102 rfl a3 (by decide) (fun c102 => ?_) (fun c102 => ?_)
    · replace h := h.1 c102
      refine g_iconst (v := zI 0) dX6_hasRoom_116 (by decide) ?_
      exact g_iret dX6_hasRoom_117 rfl rfl h
    · replace h := h.2 c102
      refine g_iload dX6_hasRoom_105 rfl ?_
      refine g_bipush (v := zI 100) dX6_hasRoom_107 (by decide) ?_
      obtain ⟨a4, h⟩ := h
      refine g_icmp_gtZ dX6_hasRoom_109 rfl a4 (by decide) (fun c109 => ?_) (fun c109 => ?_)
      · replace h := h.1 c109
        refine g_iconst (v := zI 0) dX6_hasRoom_116 (by decide) ?_
        exact g_iret dX6_hasRoom_117 rfl rfl h
      · replace h := h.2 c109
        refine g_iconst (v := zI 1) dX6_hasRoom_112 (by decide) ?_
        refine g_goto dX6_hasRoom_113 rfl ?_
        exact g_iret dX6_hasRoom_117 rfl rfl h
