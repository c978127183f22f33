/-! THE REFERENCE: its blocks, 2 (printed by wip/whole/phi7.py) -/
def f_X7_binding (sa : Nat → Nat) (b : Nat) (E : Nat × mH) (d : Nat) (T : gT) (Q : Option Value → gT → Prop) : Prop := gC (tP sa) lM b E d mX7_blanks [.ref (b + 0)] T (fun r T1 => pV r (gC (tP sa) lM b E d mX7_name [.ref (b + 0)] T1 (fun r T10 => pI r (fun v10 => (((vI T10 0 22) = 0 → 0 ≤ 1 - (vI T10 0 3) ∧ 1 - (vI T10 0 3) < 2 ∧ ((¬ (vI T10 3 (1 - (vI T10 0 3)).toNat) = 100 → 0 ≤ vI T10 0 27 ∧ vI T10 0 27 < 200 ∧ 0 ≤ ((vI T10 0 27) + 1) - 1 ∧ ((vI T10 0 27) + 1) - 1 < 200 ∧ Q (some (.int (zI (vI (gI (gI (gI (gI T10 13 (vI T10 0 27).toNat (zI v10)) 14 (vI T10 0 27).toNat (zI (vI T10 3 (1 - (vI T10 0 3)).toNat))) 3 (1 - (vI T10 0 3)).toNat (zI ((vI T10 3 (1 - (vI T10 0 3)).toNat) + 1))) 0 27 (zI ((vI T10 0 27) + 1))) 14 (((vI T10 0 27) + 1) - 1).toNat)))) (gI (gI (gI (gI T10 13 (vI T10 0 27).toNat (zI v10)) 14 (vI T10 0 27).toNat (zI (vI T10 3 (1 - (vI T10 0 3)).toNat))) 3 (1 - (vI T10 0 3)).toNat (zI ((vI T10 3 (1 - (vI T10 0 3)).toNat) + 1))) 0 27 (zI ((vI T10 0 27) + 1)))) ∧ ((vI T10 3 (1 - (vI T10 0 3)).toNat) = 100 → gC (tP sa) lM b E d mX7_fail [.ref (b + 0), .int (zI (vI T1 0 20))] T10 (fun r T41 => pI r (fun v41 => Q (some (.int (zI v41))) T41))))) ∧ (¬ (vI T10 0 22) = 0 → Q (some (.int (zI 0))) T10))))))
set_option maxRecDepth 4000 in
theorem w_X7_binding {sa : Nat → Nat} {b : Nat} {E : Nat × mH} {d : Nat} {T : gT} {Q : Option Value → gT → Prop} (h : f_X7_binding sa b E d T Q) : gC (tP sa) lM b E (d + 1) mX7_binding [.ref (b + 0)] T Q := by
  unfold f_X7_binding at h
  refine ⟨Nat.le_of_ble_eq_true rfl, ?_⟩
  show gW (tP sa) lM b E (d + 1) mX7_binding 0 [some (.ref (b + 0)), none, none] [] T Q
  refine g_aload_n dX7_binding_0 rfl ?_
  refine g_callV [.ref (b + 0)] [] dX7_binding_1 tG_7_148 tM_118 lM_0 rfl rfl rfl rfl (by decide) rfl ?_
  refine gC.mono h (Nat.le_refl _) ?_
  rintro _ T1 ⟨rfl, h⟩
  refine g_aload_n dX7_binding_4 rfl ?_
  refine g_getZ (v := vI T1 0 20) dX7_binding_5 tF_7_112 lM_0 rfl (zI_v T1 0 20) ?_
  refine g_istore_n (L' := [some (.ref (b + 0)), some (.int (zI (vI T1 0 20))), none]) dX7_binding_8 rfl ?_
  refine g_aload_n dX7_binding_9 rfl ?_
  refine g_callV [.ref (b + 0)] [] dX7_binding_10 tG_7_155 tM_124 lM_0 rfl rfl rfl rfl (by decide) rfl ?_
  refine gC.mono h (Nat.le_refl _) ?_
  rintro _ T10 ⟨v10, rfl, h⟩
  refine g_istore_n (L' := [some (.ref (b + 0)), some (.int (zI (vI T1 0 20))), some (.int (zI v10))]) dX7_binding_13 rfl ?_
  refine g_aload_n dX7_binding_14 rfl ?_
  refine g_getZ (v := vI T10 0 22) dX7_binding_15 tF_7_122 lM_0 rfl (zI_v T10 0 22) ?_
  refine g_if_eqZ dX7_binding_18 rfl ⟨vI_lo _ _ _, vI_hi _ _ _⟩  (fun c18 => ?_) (fun c18 => ?_)
  · replace h := h.1 c18
    refine g_aload_n dX7_binding_23 rfl ?_
    refine g_getR dX7_binding_24 tF_7_17 lM_0 rfl ?_
    refine g_iconst (v := zI 1) dX7_binding_27 (by decide) ?_
    refine g_aload_n dX7_binding_28 rfl ?_
    refine g_getZ (v := vI T10 0 3) dX7_binding_29 tF_7_101 lM_0 rfl (zI_v T10 0 3) ?_
    refine g_isubZ dX7_binding_32 ?_
    obtain ⟨a1, h⟩ := h
    obtain ⟨a2, h⟩ := h
    refine g_ialdZ (v := vI T10 3 (1 - (vI T10 0 3)).toNat) dX7_binding_33 lM_3 a1 a2 (by decide) (zI_v T10 3 (1 - (vI T10 0 3)).toNat) ?_
    refine g_bipush (v := zI 100) dX7_binding_34 (by decide) ?_
    refine g_icmp_neZ dX7_binding_36 rfl ⟨vI_lo _ _ _, vI_hi _ _ _⟩ (by decide) (fun c36 => ?_) (fun c36 => ?_)
    · replace h := h.1 c36
      refine g_aload_n dX7_binding_45 rfl ?_
      refine g_getR dX7_binding_46 tF_7_48 lM_0 rfl ?_
      refine g_aload_n dX7_binding_49 rfl ?_
      refine g_getZ (v := vI T10 0 27) dX7_binding_50 tF_7_158 lM_0 rfl (zI_v T10 0 27) ?_
      refine g_iload_n dX7_binding_53 rfl ?_
      obtain ⟨a3, h⟩ := h
      obtain ⟨a4, h⟩ := h
      refine g_iastZ dX7_binding_54 lM_13 a3 a4 (by decide) ?_
      refine g_aload_n dX7_binding_55 rfl ?_
      refine g_getR dX7_binding_56 tF_7_51 lM_0 rfl ?_
      refine g_aload_n dX7_binding_59 rfl ?_
      refine g_getZ (v := vI T10 0 27) dX7_binding_60 tF_7_158 lM_0 rfl (zI_v T10 0 27) ?_
      refine g_aload_n dX7_binding_63 rfl ?_
      refine g_getR dX7_binding_64 tF_7_17 lM_0 rfl ?_
      refine g_iconst (v := zI 1) dX7_binding_67 (by decide) ?_
      refine g_aload_n dX7_binding_68 rfl ?_
      refine g_getZ (v := vI T10 0 3) dX7_binding_69 tF_7_101 lM_0 rfl (zI_v T10 0 3) ?_
      refine g_isubZ dX7_binding_72 ?_
      refine g_ialdZ (v := vI T10 3 (1 - (vI T10 0 3)).toNat) dX7_binding_73 lM_3 a1 a2 (by decide) (zI_v T10 3 (1 - (vI T10 0 3)).toNat) ?_
      refine g_iastZ dX7_binding_74 lM_14 a3 a4 (by decide) ?_
      refine g_aload_n dX7_binding_75 rfl ?_
      refine g_getR dX7_binding_76 tF_7_17 lM_0 rfl ?_
      refine g_iconst (v := zI 1) dX7_binding_79 (by decide) ?_
      refine g_aload_n dX7_binding_80 rfl ?_
      refine g_getZ (v := vI T10 0 3) dX7_binding_81 tF_7_101 lM_0 rfl (zI_v T10 0 3) ?_
      refine g_isubZ dX7_binding_84 ?_
      refine g_dup2 dX7_binding_85 rfl rfl ?_
      refine g_ialdZ (v := vI T10 3 (1 - (vI T10 0 3)).toNat) dX7_binding_86 lM_3 a1 a2 (by decide) (zI_v T10 3 (1 - (vI T10 0 3)).toNat) ?_
      refine g_iconst (v := zI 1) dX7_binding_87 (by decide) ?_
      refine g_iaddZ dX7_binding_88 ?_
      refine g_iastZ dX7_binding_89 lM_3 a1 a2 (by decide) ?_
      refine g_aload_n dX7_binding_90 rfl ?_
      refine g_dup dX7_binding_91 rfl ?_
      refine g_getZ (v := vI T10 0 27) dX7_binding_92 tF_7_158 lM_0 rfl (zI_v T10 0 27) ?_
      refine g_iconst (v := zI 1) dX7_binding_95 (by decide) ?_
      refine g_iaddZ dX7_binding_96 ?_
      refine g_putI dX7_binding_97 tF_7_158 lM_0 rfl rfl ⟨rfl, rfl⟩ rfl ?_
      refine g_aload_n dX7_binding_100 rfl ?_
      refine g_getR dX7_binding_101 tF_7_51 lM_0 rfl ?_
      refine g_aload_n dX7_binding_104 rfl ?_
      refine g_getZ (v := (vI T10 0 27) + 1) dX7_binding_105 tF_7_158 lM_0 rfl rfl ?_
      refine g_iconst (v := zI 1) dX7_binding_108 (by decide) ?_
      refine g_isubZ dX7_binding_109 ?_
      obtain ⟨a5, h⟩ := h
      obtain ⟨a6, h⟩ := h
      refine g_ialdZ (v := vI (gI (gI (gI (gI T10 13 (vI T10 0 27).toNat (zI v10)) 14 (vI T10 0 27).toNat (zI (vI T10 3 (1 - (vI T10 0 3)).toNat))) 3 (1 - (vI T10 0 3)).toNat (zI ((vI T10 3 (1 - (vI T10 0 3)).toNat) + 1))) 0 27 (zI ((vI T10 0 27) + 1))) 14 (((vI T10 0 27) + 1) - 1).toNat) dX7_binding_110 lM_14 a5 a6 (by decide) (zI_v (gI (gI (gI (gI T10 13 (vI T10 0 27).toNat (zI v10)) 14 (vI T10 0 27).toNat (zI (vI T10 3 (1 - (vI T10 0 3)).toNat))) 3 (1 - (vI T10 0 3)).toNat (zI ((vI T10 3 (1 - (vI T10 0 3)).toNat) + 1))) 0 27 (zI ((vI T10 0 27) + 1))) 14 (((vI T10 0 27) + 1) - 1).toNat) ?_
      exact g_iret dX7_binding_111 rfl rfl h
    · replace h := h.2 c36
      refine g_aload_n dX7_binding_39 rfl ?_
      refine g_iload_n dX7_binding_40 rfl ?_
      refine g_callV [.ref (b + 0), .int (zI (vI T1 0 20))] [] dX7_binding_41 tG_7_151 tM_119 lM_0 rfl rfl rfl rfl (by decide) rfl ?_
      refine gC.mono h (Nat.le_refl _) ?_
      rintro _ T41 ⟨v41, rfl, h⟩
      exact g_iret dX7_binding_44 rfl rfl h
  · replace h := h.2 c18
    refine g_iconst (v := zI 0) dX7_binding_21 (by decide) ?_
    exact g_iret dX7_binding_22 rfl rfl h
def f_X7_lambda (sa : Nat → Nat) (b : Nat) (E : Nat × mH) (d : Nat) (l1 : Int) (l2 : Int) (T : gT) (Q : Option Value → gT → Prop) : Prop := ((¬ (vI T 0 24) = 50 → gC (tP sa) lM b E d mX7_begin [.ref (b + 0), .int (zI (1 - (vI T 0 3))), .int (zI 2), .int (zI (-1)), .int (zI l2)] (gI T 0 24 (zI ((vI T 0 24) + 1))) (fun r T37 => pI r (fun v37 => gC (tP sa) lM b E d mX7_binding [.ref (b + 0)] T37 (fun r T43 => pI r (fun v43 => gC (tP sa) lM b E d mX7_blanks [.ref (b + 0)] T43 (fun r T49 => pV r (((¬ (vI T49 0 22) = 0 → gW (tP sa) lM b E (d + 1) mX7_lambda 77 [some (.ref (b + 0)), some (.int (zI l1)), some (.int (zI l2)), some (.int (zI (1 - (vI T 0 3)))), some (.int (zI v37)), some (.int (zI v43)), none] [] T49 Q) ∧ ((vI T49 0 22) = 0 → gC (tP sa) lM b E d mX7_peek [.ref (b + 0)] T49 (fun r T60 => pI r (fun v60 => (-2147483648 ≤ v60 ∧ v60 < 2147483648) ∧ ((v60 = 46 → gW (tP sa) lM b E (d + 1) mX7_lambda 77 [some (.ref (b + 0)), some (.int (zI l1)), some (.int (zI l2)), some (.int (zI (1 - (vI T 0 3)))), some (.int (zI v37)), some (.int (zI v43)), none] [] T60 Q) ∧ (¬ v60 = 46 → gC (tP sa) lM b E d mX7_fail [.ref (b + 0), .int (zI (vI T60 0 20))] T60 (fun r T73 => pI r (fun v73 => Q (some (.int (zI v73))) T73))))))))))))))) ∧ ((vI T 0 24) = 50 → gC (tP sa) lM b E d mX7_fail [.ref (b + 0), .int (zI l1)] T (fun r T11 => pI r (fun v11 => Q (some (.int (zI v11))) T11))))
set_option maxRecDepth 4000 in
theorem w_X7_lambda {sa : Nat → Nat} {b : Nat} {E : Nat × mH} {d : Nat} {l1 : Int} {l2 : Int} {T : gT} {Q : Option Value → gT → Prop} (h : f_X7_lambda sa b E d l1 l2 T Q) : gC (tP sa) lM b E (d + 1) mX7_lambda [.ref (b + 0), .int (zI l1), .int (zI l2)] T Q := by
  unfold f_X7_lambda at h
  refine ⟨Nat.le_of_ble_eq_true rfl, ?_⟩
  show gW (tP sa) lM b E (d + 1) mX7_lambda 0 [some (.ref (b + 0)), some (.int (zI l1)), some (.int (zI l2)), none, none, none, none] [] T Q
  refine g_aload_n dX7_lambda_0 rfl ?_
  refine g_getZ (v := vI T 0 24) dX7_lambda_1 tF_7_178 lM_0 rfl (zI_v T 0 24) ?_
  refine g_bipush (v := zI 50) dX7_lambda_4 (by decide) ?_
  refine g_icmp_neZ dX7_lambda_6 rfl ⟨vI_lo _ _ _, vI_hi _ _ _⟩ (by decide) (fun c6 => ?_) (fun c6 => ?_)
  · replace h := h.1 c6
    refine g_aload_n dX7_lambda_15 rfl ?_
    refine g_dup dX7_lambda_16 rfl ?_
    refine g_getZ (v := vI T 0 24) dX7_lambda_17 tF_7_178 lM_0 rfl (zI_v T 0 24) ?_
    refine g_iconst (v := zI 1) dX7_lambda_20 (by decide) ?_
    refine g_iaddZ dX7_lambda_21 ?_
    refine g_putI dX7_lambda_22 tF_7_178 lM_0 rfl rfl ⟨rfl, rfl⟩ rfl ?_
    refine g_iconst (v := zI 1) dX7_lambda_25 (by decide) ?_
    refine g_aload_n dX7_lambda_26 rfl ?_
    refine g_getZ (v := vI T 0 3) dX7_lambda_27 tF_7_101 lM_0 rfl (zI_v T 0 3) ?_
    refine g_isubZ dX7_lambda_30 ?_
    refine g_istore_n (L' := [some (.ref (b + 0)), some (.int (zI l1)), some (.int (zI l2)), some (.int (zI (1 - (vI T 0 3)))), none, none, none]) dX7_lambda_31 rfl ?_
    refine g_aload_n dX7_lambda_32 rfl ?_
    refine g_iload_n dX7_lambda_33 rfl ?_
    refine g_iconst (v := zI 2) dX7_lambda_34 (by decide) ?_
    refine g_iconst (v := zI (-1)) dX7_lambda_35 (by decide) ?_
    refine g_iload_n dX7_lambda_36 rfl ?_
    refine g_callV [.ref (b + 0), .int (zI (1 - (vI T 0 3))), .int (zI 2), .int (zI (-1)), .int (zI l2)] [] dX7_lambda_37 tG_7_161 tM_115 lM_0 rfl rfl rfl rfl (by decide) rfl ?_
    refine gC.mono h (Nat.le_refl _) ?_
    rintro _ T37 ⟨v37, rfl, h⟩
    refine g_istore (L' := [some (.ref (b + 0)), some (.int (zI l1)), some (.int (zI l2)), some (.int (zI (1 - (vI T 0 3)))), some (.int (zI v37)), none, none]) dX7_lambda_40 rfl ?_
    refine g_aload_n dX7_lambda_42 rfl ?_
    refine g_callV [.ref (b + 0)] [] dX7_lambda_43 tG_7_181 tM_125 lM_0 rfl rfl rfl rfl (by decide) rfl ?_
    refine gC.mono h (Nat.le_refl _) ?_
    rintro _ T43 ⟨v43, rfl, h⟩
    refine g_istore (L' := [some (.ref (b + 0)), some (.int (zI l1)), some (.int (zI l2)), some (.int (zI (1 - (vI T 0 3)))), some (.int (zI v37)), some (.int (zI v43)), none]) dX7_lambda_46 rfl ?_
    refine g_aload_n dX7_lambda_48 rfl ?_
    refine g_callV [.ref (b + 0)] [] dX7_lambda_49 tG_7_148 tM_118 lM_0 rfl rfl rfl rfl (by decide) rfl ?_
    refine gC.mono h (Nat.le_refl _) ?_
    rintro _ T49 ⟨rfl, h⟩
    refine g_aload_n dX7_lambda_52 rfl ?_
    refine g_getZ (v := vI T49 0 22) dX7_lambda_53 tF_7_122 lM_0 rfl (zI_v T49 0 22) ?_
    refine g_if_neZ dX7_lambda_56 rfl ⟨vI_lo _ _ _, vI_hi _ _ _⟩  (fun c56 => ?_) (fun c56 => ?_)
    · replace h := h.1 c56
      exact h
    · replace h := h.2 c56
      refine g_aload_n dX7_lambda_59 rfl ?_
      refine g_callV [.ref (b + 0)] [] dX7_lambda_60 tG_7_118 tM_116 lM_0 rfl rfl rfl rfl (by decide) rfl ?_
      refine gC.mono h (Nat.le_refl _) ?_
      rintro _ T60 ⟨v60, rfl, h⟩
      refine g_bipush (v := zI 46) dX7_lambda_63 (by decide) ?_
      obtain ⟨a1, h⟩ := h
      refine g_icmp_eqZ dX7_lambda_65 rfl a1 (by decide) (fun c65 => ?_) (fun c65 => ?_)
      · replace h := h.1 c65
        exact h
      · replace h := h.2 c65
        refine g_aload_n dX7_lambda_68 rfl ?_
        refine g_aload_n dX7_lambda_69 rfl ?_
        refine g_getZ (v := vI T60 0 20) dX7_lambda_70 tF_7_112 lM_0 rfl (zI_v T60 0 20) ?_
        refine g_callV [.ref (b + 0), .int (zI (vI T60 0 20))] [] dX7_lambda_73 tG_7_151 tM_119 lM_0 rfl rfl rfl rfl (by decide) rfl ?_
        refine gC.mono h (Nat.le_refl _) ?_
        rintro _ T73 ⟨v73, rfl, h⟩
        exact g_iret dX7_lambda_76 rfl rfl h
  · replace h := h.2 c6
    refine g_aload_n dX7_lambda_9 rfl ?_
    refine g_iload_n dX7_lambda_10 rfl ?_
    refine g_callV [.ref (b + 0), .int (zI l1)] [] dX7_lambda_11 tG_7_151 tM_119 lM_0 rfl rfl rfl rfl (by decide) rfl ?_
    refine gC.mono h (Nat.le_refl _) ?_
    rintro _ T11 ⟨v11, rfl, h⟩
    exact g_iret dX7_lambda_14 rfl rfl h
def f_X7_lambda_77 (sa : Nat → Nat) (b : Nat) (E : Nat × mH) (d : Nat) (l1 : Int) (l2 : Int) (l3 : Int) (l4 : Int) (l5 : Int) (T : gT) (Q : Option Value → gT → Prop) : Prop := (((vI T 0 22) = 0 → (0 ≤ l3 ∧ l3 < 2) ∧ (0 ≤ l4 ∧ l4 < 200) ∧ gC (tP sa) lM b E d mX7_expression [.ref (b + 0), .int (zI l4)] (cS (gI T 0 20 (zI ((vI T 0 20) + 1))) l3.toNat l4.toNat 1 l5) (fun r T109 => pI r (fun v109 => (0 ≤ l3 ∧ l3 < 2) ∧ (0 ≤ l4 ∧ l4 < 200) ∧ Q (some (.int (zI l4))) (cS (gI T109 0 27 (zI ((vI T109 0 27) - 1))) l3.toNat l4.toNat 3 v109)))) ∧ (¬ (vI T 0 22) = 0 → Q (some (.int (zI (-1)))) (gI T 0 20 (zI ((vI T 0 20) + 1)))))
set_option maxRecDepth 4000 in
theorem w_X7_lambda_77 {sa : Nat → Nat} {b : Nat} {E : Nat × mH} {d : Nat} {l1 : Int} {l2 : Int} {l3 : Int} {l4 : Int} {l5 : Int} {T : gT} {Q : Option Value → gT → Prop} (h : f_X7_lambda_77 sa b E d l1 l2 l3 l4 l5 T Q) : gW (tP sa) lM b E (d + 1) mX7_lambda 77 [some (.ref (b + 0)), some (.int (zI l1)), some (.int (zI l2)), some (.int (zI l3)), some (.int (zI l4)), some (.int (zI l5)), none] [] T Q := by
  unfold f_X7_lambda_77 at h
  refine g_aload_n dX7_lambda_77 rfl ?_
  refine g_dup dX7_lambda_78 rfl ?_
  refine g_getZ (v := vI T 0 20) dX7_lambda_79 tF_7_112 lM_0 rfl (zI_v T 0 20) ?_
  refine g_iconst (v := zI 1) dX7_lambda_82 (by decide) ?_
  refine g_iaddZ dX7_lambda_83 ?_
  refine g_putI dX7_lambda_84 tF_7_112 lM_0 rfl rfl ⟨rfl, rfl⟩ rfl ?_
  refine g_aload_n dX7_lambda_87 rfl ?_
  refine g_getZ (v := vI T 0 22) dX7_lambda_88 tF_7_122 lM_0 rfl (zI_v T 0 22) ?_
  refine g_if_eqZ dX7_lambda_91 rfl ⟨vI_lo _ _ _, vI_hi _ _ _⟩  (fun c91 => ?_) (fun c91 => ?_)
  · replace h := h.1 c91
    refine g_aload_n dX7_lambda_96 rfl ?_
    refine g_iload_n dX7_lambda_97 rfl ?_
    refine g_iload dX7_lambda_98 rfl ?_
    refine g_iconst (v := zI 1) dX7_lambda_100 (by decide) ?_
    refine g_iload dX7_lambda_101 rfl ?_
    obtain ⟨a1, h⟩ := h
    obtain ⟨a2, h⟩ := h
    refine g_callV [.ref (b + 0), .int (zI l3), .int (zI l4), .int (zI 1), .int (zI l5)] [] dX7_lambda_103 tG_7_108 tM_114 lM_0 rfl rfl rfl rfl (by decide) rfl ?_
    refine gC.mono (c_setZ sa b E _ _ a1 a2 (by decide)) (Nat.le_refl _) ?_
    rintro _ _ ⟨rfl, h9⟩
    obtain rfl := h9.symm
    refine g_aload_n dX7_lambda_106 rfl ?_
    refine g_iload dX7_lambda_107 rfl ?_
    refine g_callV [.ref (b + 0), .int (zI l4)] [] dX7_lambda_109 tG_7_184 tM_126 lM_0 rfl rfl rfl rfl (by decide) rfl ?_
    refine gC.mono h (Nat.le_refl _) ?_
    rintro _ T109 ⟨v109, rfl, h⟩
    refine g_istore (L' := [some (.ref (b + 0)), some (.int (zI l1)), some (.int (zI l2)), some (.int (zI l3)), some (.int (zI l4)), some (.int (zI l5)), some (.int (zI v109))]) dX7_lambda_112 rfl ?_
    refine g_aload_n dX7_lambda_114 rfl ?_
    refine g_dup dX7_lambda_115 rfl ?_
    refine g_getZ (v := vI T109 0 27) dX7_lambda_116 tF_7_158 lM_0 rfl (zI_v T109 0 27) ?_
    refine g_iconst (v := zI 1) dX7_lambda_119 (by decide) ?_
    refine g_isubZ dX7_lambda_120 ?_
    refine g_putI dX7_lambda_121 tF_7_158 lM_0 rfl rfl ⟨rfl, rfl⟩ rfl ?_
    refine g_aload_n dX7_lambda_124 rfl ?_
    refine g_iload_n dX7_lambda_125 rfl ?_
    refine g_iload dX7_lambda_126 rfl ?_
    refine g_iconst (v := zI 3) dX7_lambda_128 (by decide) ?_
    refine g_iload dX7_lambda_129 rfl ?_
    obtain ⟨a3, h⟩ := h
    obtain ⟨a4, h⟩ := h
    refine g_callV [.ref (b + 0), .int (zI l3), .int (zI l4), .int (zI 3), .int (zI v109)] [] dX7_lambda_131 tG_7_108 tM_114 lM_0 rfl rfl rfl rfl (by decide) rfl ?_
    refine gC.mono (c_setZ sa b E _ _ a3 a4 (by decide)) (Nat.le_refl _) ?_
    rintro _ _ ⟨rfl, h9⟩
    obtain rfl := h9.symm
    refine g_iload dX7_lambda_134 rfl ?_
    exact g_iret dX7_lambda_136 rfl rfl h
  · replace h := h.2 c91
    refine g_iconst (v := zI (-1)) dX7_lambda_94 (by decide) ?_
    exact g_iret dX7_lambda_95 rfl rfl h
def f_X7_read (sa : Nat → Nat) (b : Nat) (E : Nat × mH) (d : Nat) (T : gT) (Q : Option Value → gT → Prop) : Prop := 0 ≤ 1 - (vI T 0 3) ∧ 1 - (vI T 0 3) < 2 ∧ gC (tP sa) lM b E d mX7_expression [.ref (b + 0), .int (zI (-1))] (gI (gI (gI (gI (gI (gI (gI (gI T 0 0 (zI 0)) 2 (1 - (vI T 0 3)).toNat (zI 0)) 3 (1 - (vI T 0 3)).toNat (zI 0)) 0 20 (zI 0)) 0 22 (zI 0)) 0 23 (zI 0)) 0 24 (zI 0)) 0 27 (zI 0)) (fun r T53 => pI r (fun v53 => gC (tP sa) lM b E d mX7_blanks [.ref (b + 0)] T53 (fun r T58 => pV r (((¬ (vI T58 0 22) = 0 → (((vI T58 0 22) = 0 → gC (tP sa) lM b E d mX7_change [.ref (b + 0)] T58 (fun r T101 => pV r (Q (some (.int (zI (-1)))) T101))) ∧ (¬ (vI T58 0 22) = 0 → Q (some (.int (zI (vI T58 0 21)))) T58))) ∧ ((vI T58 0 22) = 0 → (((vI T58 0 2) ≤ (vI T58 0 20) → (((vI T58 0 22) = 0 → gC (tP sa) lM b E d mX7_change [.ref (b + 0)] T58 (fun r T101 => pV r (Q (some (.int (zI (-1)))) T101))) ∧ (¬ (vI T58 0 22) = 0 → Q (some (.int (zI (vI T58 0 21)))) T58))) ∧ (¬ (vI T58 0 2) ≤ (vI T58 0 20) → gC (tP sa) lM b E d mX7_fail [.ref (b + 0), .int (zI (vI T58 0 20))] T58 (fun r T84 => pI r (fun v84 => (((vI T84 0 22) = 0 → gC (tP sa) lM b E d mX7_change [.ref (b + 0)] T84 (fun r T101 => pV r (Q (some (.int (zI (-1)))) T101))) ∧ (¬ (vI T84 0 22) = 0 → Q (some (.int (zI (vI T84 0 21)))) T84))))))))))))
set_option maxRecDepth 4000 in
theorem w_X7_read {sa : Nat → Nat} {b : Nat} {E : Nat × mH} {d : Nat} {T : gT} {Q : Option Value → gT → Prop} (h : f_X7_read sa b E d T Q) : gC (tP sa) lM b E (d + 1) mX7_read [.ref (b + 0)] T Q := by
  unfold f_X7_read at h
  refine ⟨Nat.le_of_ble_eq_true rfl, ?_⟩
  show gW (tP sa) lM b E (d + 1) mX7_read 0 [some (.ref (b + 0)), none, none, none] [] T Q
  refine g_aload_n dX7_read_0 rfl ?_
  refine g_iconst (v := zI 0) dX7_read_1 (by decide) ?_
  refine g_putI dX7_read_2 tF_7_97 lM_0 rfl rfl ⟨rfl, rfl⟩ rfl ?_
  refine g_iconst (v := zI 1) dX7_read_5 (by decide) ?_
  refine g_aload_n dX7_read_6 rfl ?_
  refine g_getZ (v := vI T 0 3) dX7_read_7 tF_7_101 lM_0 rfl (zI_v T 0 3) ?_
  refine g_isubZ dX7_read_10 ?_
  refine g_istore_n (L' := [some (.ref (b + 0)), some (.int (zI (1 - (vI T 0 3)))), none, none]) dX7_read_11 rfl ?_
  refine g_aload_n dX7_read_12 rfl ?_
  refine g_getR dX7_read_13 tF_7_13 lM_0 rfl ?_
  refine g_iload_n dX7_read_16 rfl ?_
  refine g_iconst (v := zI 0) dX7_read_17 (by decide) ?_
  obtain ⟨a1, h⟩ := h
  obtain ⟨a2, h⟩ := h
  refine g_iastZ dX7_read_18 lM_2 a1 a2 (by decide) ?_
  refine g_aload_n dX7_read_19 rfl ?_
  refine g_getR dX7_read_20 tF_7_17 lM_0 rfl ?_
  refine g_iload_n dX7_read_23 rfl ?_
  refine g_iconst (v := zI 0) dX7_read_24 (by decide) ?_
  refine g_iastZ dX7_read_25 lM_3 a1 a2 (by decide) ?_
  refine g_aload_n dX7_read_26 rfl ?_
  refine g_iconst (v := zI 0) dX7_read_27 (by decide) ?_
  refine g_putI dX7_read_28 tF_7_112 lM_0 rfl rfl ⟨rfl, rfl⟩ rfl ?_
  refine g_aload_n dX7_read_31 rfl ?_
  refine g_iconst (v := zI 0) dX7_read_32 (by decide) ?_
  refine g_putI dX7_read_33 tF_7_122 lM_0 rfl rfl ⟨rfl, rfl⟩ rfl ?_
  refine g_aload_n dX7_read_36 rfl ?_
  refine g_iconst (v := zI 0) dX7_read_37 (by decide) ?_
  refine g_putI dX7_read_38 tF_7_168 lM_0 rfl rfl ⟨rfl, rfl⟩ rfl ?_
  refine g_aload_n dX7_read_41 rfl ?_
  refine g_iconst (v := zI 0) dX7_read_42 (by decide) ?_
  refine g_putI dX7_read_43 tF_7_178 lM_0 rfl rfl ⟨rfl, rfl⟩ rfl ?_
  refine g_aload_n dX7_read_46 rfl ?_
  refine g_iconst (v := zI 0) dX7_read_47 (by decide) ?_
  refine g_putI dX7_read_48 tF_7_158 lM_0 rfl rfl ⟨rfl, rfl⟩ rfl ?_
  refine g_aload_n dX7_read_51 rfl ?_
  refine g_iconst (v := zI (-1)) dX7_read_52 (by decide) ?_
  refine g_callV [.ref (b + 0), .int (zI (-1))] [] dX7_read_53 tG_7_184 tM_126 lM_0 rfl rfl rfl rfl (by decide) rfl ?_
  refine gC.mono h (Nat.le_refl _) ?_
  rintro _ T53 ⟨v53, rfl, h⟩
  refine g_istore_n (L' := [some (.ref (b + 0)), some (.int (zI (1 - (vI T 0 3)))), some (.int (zI v53)), none]) dX7_read_56 rfl ?_
  refine g_aload_n dX7_read_57 rfl ?_
  refine g_callV [.ref (b + 0)] [] dX7_read_58 tG_7_148 tM_118 lM_0 rfl rfl rfl rfl (by decide) rfl ?_
  refine gC.mono h (Nat.le_refl _) ?_
  rintro _ T58 ⟨rfl, h⟩
  refine g_aload_n dX7_read_61 rfl ?_
  refine g_getZ (v := vI T58 0 22) dX7_read_62 tF_7_122 lM_0 rfl (zI_v T58 0 22) ?_
  refine g_if_neZ dX7_read_65 rfl ⟨vI_lo _ _ _, vI_hi _ _ _⟩  (fun c65 => ?_) (fun c65 => ?_)
  · replace h := h.1 c65
    refine g_aload_n dX7_read_88 rfl ?_
    refine g_getZ (v := vI T58 0 22) dX7_read_89 tF_7_122 lM_0 rfl (zI_v T58 0 22) ?_
    refine g_if_eqZ dX7_read_92 rfl ⟨vI_lo _ _ _, vI_hi _ _ _⟩  (fun c92 => ?_) (fun c92 => ?_)
    · replace h := h.1 c92
      refine g_aload_n dX7_read_100 rfl ?_
      refine g_callV [.ref (b + 0)] [] dX7_read_101 tG_7_200 tM_131 lM_0 rfl rfl rfl rfl (by decide) rfl ?_
      refine gC.mono h (Nat.le_refl _) ?_
      rintro _ T101 ⟨rfl, h⟩
      refine g_iconst (v := zI (-1)) dX7_read_104 (by decide) ?_
      exact g_iret dX7_read_105 rfl rfl h
    · replace h := h.2 c92
      refine g_aload_n dX7_read_95 rfl ?_
      refine g_getZ (v := vI T58 0 21) dX7_read_96 tF_7_126 lM_0 rfl (zI_v T58 0 21) ?_
      exact g_iret dX7_read_99 rfl rfl h
  · replace h := h.2 c65
    refine g_aload_n dX7_read_68 rfl ?_
    refine g_getZ (v := vI T58 0 20) dX7_read_69 tF_7_112 lM_0 rfl (zI_v T58 0 20) ?_
    refine g_aload_n dX7_read_72 rfl ?_
    refine g_getZ (v := vI T58 0 2) dX7_read_73 tF_7_115 lM_0 rfl (zI_v T58 0 2) ?_
    refine g_icmp_geZ dX7_read_76 rfl ⟨vI_lo _ _ _, vI_hi _ _ _⟩ ⟨vI_lo _ _ _, vI_hi _ _ _⟩ (fun c76 => ?_) (fun c76 => ?_)
    · replace h := h.1 c76
      refine g_aload_n dX7_read_88 rfl ?_
      refine g_getZ (v := vI T58 0 22) dX7_read_89 tF_7_122 lM_0 rfl (zI_v T58 0 22) ?_
      refine g_if_eqZ dX7_read_92 rfl ⟨vI_lo _ _ _, vI_hi _ _ _⟩  (fun c92 => ?_) (fun c92 => ?_)
      · replace h := h.1 c92
        refine g_aload_n dX7_read_100 rfl ?_
        refine g_callV [.ref (b + 0)] [] dX7_read_101 tG_7_200 tM_131 lM_0 rfl rfl rfl rfl (by decide) rfl ?_
        refine gC.mono h (Nat.le_refl _) ?_
        rintro _ T101 ⟨rfl, h⟩
        refine g_iconst (v := zI (-1)) dX7_read_104 (by decide) ?_
        exact g_iret dX7_read_105 rfl rfl h
      · replace h := h.2 c92
        refine g_aload_n dX7_read_95 rfl ?_
        refine g_getZ (v := vI T58 0 21) dX7_read_96 tF_7_126 lM_0 rfl (zI_v T58 0 21) ?_
        exact g_iret dX7_read_99 rfl rfl h
    · replace h := h.2 c76
      refine g_aload_n dX7_read_79 rfl ?_
      refine g_aload_n dX7_read_80 rfl ?_
      refine g_getZ (v := vI T58 0 20) dX7_read_81 tF_7_112 lM_0 rfl (zI_v T58 0 20) ?_
      refine g_callV [.ref (b + 0), .int (zI (vI T58 0 20))] [] dX7_read_84 tG_7_151 tM_119 lM_0 rfl rfl rfl rfl (by decide) rfl ?_
      refine gC.mono h (Nat.le_refl _) ?_
      rintro _ T84 ⟨v84, rfl, h⟩
      refine g_istore_n (L' := [some (.ref (b + 0)), some (.int (zI (1 - (vI T 0 3)))), some (.int (zI v53)), some (.int (zI v84))]) dX7_read_87 rfl ?_
      refine g_aload_n dX7_read_88 rfl ?_
      refine g_getZ (v := vI T84 0 22) dX7_read_89 tF_7_122 lM_0 rfl (zI_v T84 0 22) ?_
      refine g_if_eqZ dX7_read_92 rfl ⟨vI_lo _ _ _, vI_hi _ _ _⟩  (fun c92 => ?_) (fun c92 => ?_)
      · replace h := h.1 c92
        refine g_aload_n dX7_read_100 rfl ?_
        refine g_callV [.ref (b + 0)] [] dX7_read_101 tG_7_200 tM_131 lM_0 rfl rfl rfl rfl (by decide) rfl ?_
        refine gC.mono h (Nat.le_refl _) ?_
        rintro _ T101 ⟨rfl, h⟩
        refine g_iconst (v := zI (-1)) dX7_read_104 (by decide) ?_
        exact g_iret dX7_read_105 rfl rfl h
      · replace h := h.2 c92
        refine g_aload_n dX7_read_95 rfl ?_
        refine g_getZ (v := vI T84 0 21) dX7_read_96 tF_7_126 lM_0 rfl (zI_v T84 0 21) ?_
        exact g_iret dX7_read_99 rfl rfl h
def f_X7_findFlows (sa : Nat → Nat) (b : Nat) (E : Nat × mH) (d : Nat) (T : gT) (Q : Option Value → gT → Prop) : Prop := gW (tP sa) lM b E (d + 1 + 1) mX7_findFlows 2 [some (.ref (b + 0)), some (.int (zI 0)), none] [] T Q
set_option maxRecDepth 4000 in
theorem w_X7_findFlows {sa : Nat → Nat} {b : Nat} {E : Nat × mH} {d : Nat} {T : gT} {Q : Option Value → gT → Prop} (h : f_X7_findFlows sa b E d T Q) : gC (tP sa) lM b E (d + 1 + 1) mX7_findFlows [.ref (b + 0)] T Q := by
  unfold f_X7_findFlows at h
  refine ⟨Nat.le_of_ble_eq_true rfl, ?_⟩
  show gW (tP sa) lM b E (d + 1 + 1) mX7_findFlows 0 [some (.ref (b + 0)), none, none] [] T Q
  refine g_iconst (v := zI 0) dX7_findFlows_0 (by decide) ?_
  refine g_istore_n (L' := [some (.ref (b + 0)), some (.int (zI 0)), none]) dX7_findFlows_1 rfl ?_
  exact h
def f_X7_findFlows_2 (sa : Nat → Nat) (b : Nat) (E : Nat × mH) (d : Nat) (l1 : Int) (T : gT) (Q : Option Value → gT → Prop) : Prop := (-2147483648 ≤ l1 ∧ l1 < 2147483648) ∧ ((200 ≤ l1 → gW (tP sa) lM b E (d + 1 + 1) mX7_findFlows 24 [some (.ref (b + 0)), some (.int (zI 0)), none] [] T Q) ∧ (¬ 200 ≤ l1 → 0 ≤ l1 ∧ l1 < 200 ∧ gW (tP sa) lM b E (d + 1 + 1) mX7_findFlows 2 [some (.ref (b + 0)), some (.int (zI (l1 + 1))), none] [] (gJ T 9 l1.toNat 0) Q))
set_option maxRecDepth 4000 in
theorem w_X7_findFlows_2 {sa : Nat → Nat} {b : Nat} {E : Nat × mH} {d : Nat} {l1 : Int} {T : gT} {Q : Option Value → gT → Prop} (h : f_X7_findFlows_2 sa b E d l1 T Q) : gW (tP sa) lM b E (d + 1 + 1) mX7_findFlows 2 [some (.ref (b + 0)), some (.int (zI l1)), none] [] T Q := by
  unfold f_X7_findFlows_2 at h
  refine g_iload_n dX7_findFlows_2 rfl ?_
  refine g_sipush (v := zI 200) dX7_findFlows_3 (by decide) ?_
  obtain ⟨a1, h⟩ := h
  refine g_icmp_geZ dX7_findFlows_6 rfl a1 (by decide) (fun c6 => ?_) (fun c6 => ?_)
  · replace h := h.1 c6
    refine g_iconst (v := zI 0) dX7_findFlows_22 (by decide) ?_
    refine g_istore_n (L' := [some (.ref (b + 0)), some (.int (zI 0)), none]) dX7_findFlows_23 rfl ?_
    exact h
  · replace h := h.2 c6
    refine g_aload_n dX7_findFlows_9 rfl ?_
    refine g_getR dX7_findFlows_10 tF_7_35 lM_0 rfl ?_
    refine g_iload_n dX7_findFlows_13 rfl ?_
    refine g_lconst (v := 0) dX7_findFlows_14 (by decide) ?_
    obtain ⟨a2, h⟩ := h
    obtain ⟨a3, h⟩ := h
    refine g_lastZ dX7_findFlows_15 lM_9 a2 a3 (by decide) ?_
    refine g_iinc (x := zI l1) (v := zI (l1 + 1)) (L' := [some (.ref (b + 0)), some (.int (zI (l1 + 1))), none]) dX7_findFlows_16 rfl (zI_add _ _) rfl ?_
    refine g_goto dX7_findFlows_19 rfl ?_
    exact h
def f_X7_findFlows_24 (sa : Nat → Nat) (b : Nat) (E : Nat × mH) (d : Nat) (l1 : Int) (T : gT) (Q : Option Value → gT → Prop) : Prop := (-2147483648 ≤ l1 ∧ l1 < 2147483648) ∧ ((100 ≤ l1 → gW (tP sa) lM b E (d + 1 + 1) mX7_findFlows 48 [some (.ref (b + 0)), some (.int (zI l1)), none] [] (gI T 0 28 (zI 1)) Q) ∧ (¬ 100 ≤ l1 → 0 ≤ l1 ∧ l1 < 100 ∧ gW (tP sa) lM b E (d + 1 + 1) mX7_findFlows 24 [some (.ref (b + 0)), some (.int (zI (l1 + 1))), none] [] (gJ T 10 l1.toNat 0) Q))
set_option maxRecDepth 4000 in
theorem w_X7_findFlows_24 {sa : Nat → Nat} {b : Nat} {E : Nat × mH} {d : Nat} {l1 : Int} {T : gT} {Q : Option Value → gT → Prop} (h : f_X7_findFlows_24 sa b E d l1 T Q) : gW (tP sa) lM b E (d + 1 + 1) mX7_findFlows 24 [some (.ref (b + 0)), some (.int (zI l1)), none] [] T Q := by
  unfold f_X7_findFlows_24 at h
  refine g_iload_n dX7_findFlows_24 rfl ?_
  refine g_bipush (v := zI 100) dX7_findFlows_25 (by decide) ?_
  obtain ⟨a1, h⟩ := h
  refine g_icmp_geZ dX7_findFlows_27 rfl a1 (by decide) (fun c27 => ?_) (fun c27 => ?_)
  · replace h := h.1 c27
    refine g_aload_n dX7_findFlows_43 rfl ?_
    refine g_iconst (v := zI 1) dX7_findFlows_44 (by decide) ?_
    refine g_putI dX7_findFlows_45 tF_7_225 lM_0 rfl rfl ⟨rfl, rfl⟩ rfl ?_
    exact h
  · replace h := h.2 c27
    refine g_aload_n dX7_findFlows_30 rfl ?_
    refine g_getR dX7_findFlows_31 tF_7_39 lM_0 rfl ?_
    refine g_iload_n dX7_findFlows_34 rfl ?_
    refine g_lconst (v := 0) dX7_findFlows_35 (by decide) ?_
    obtain ⟨a2, h⟩ := h
    obtain ⟨a3, h⟩ := h
    refine g_lastZ dX7_findFlows_36 lM_10 a2 a3 (by decide) ?_
    refine g_iinc (x := zI l1) (v := zI (l1 + 1)) (L' := [some (.ref (b + 0)), some (.int (zI (l1 + 1))), none]) dX7_findFlows_37 rfl (zI_add _ _) rfl ?_
    refine g_goto dX7_findFlows_40 rfl ?_
    exact h
def f_X7_findFlows_48 (sa : Nat → Nat) (b : Nat) (E : Nat × mH) (d : Nat) (l1 : Int) (T : gT) (Q : Option Value → gT → Prop) : Prop := (((vI T 0 28) = 0 → gW (tP sa) lM b E (d + 1 + 1) mX7_findFlows 92 [some (.ref (b + 0)), some (.int (zI 0)), none] [] T Q) ∧ (¬ (vI T 0 28) = 0 → 0 ≤ vI T 0 3 ∧ vI T 0 3 < 2 ∧ gW (tP sa) lM b E (d + 1 + 1) mX7_findFlows 72 [some (.ref (b + 0)), some (.int (zI ((vI T 2 (vI T 0 3).toNat) - 1))), none] [] (gI T 0 28 (zI 0)) Q))
set_option maxRecDepth 4000 in
theorem w_X7_findFlows_48 {sa : Nat → Nat} {b : Nat} {E : Nat × mH} {d : Nat} {l1 : Int} {T : gT} {Q : Option Value → gT → Prop} (h : f_X7_findFlows_48 sa b E d l1 T Q) : gW (tP sa) lM b E (d + 1 + 1) mX7_findFlows 48 [some (.ref (b + 0)), some (.int (zI l1)), none] [] T Q := by
  unfold f_X7_findFlows_48 at h
  refine g_aload_n dX7_findFlows_48 rfl ?_
  refine g_getZ (v := vI T 0 28) dX7_findFlows_49 tF_7_225 lM_0 rfl (zI_v T 0 28) ?_
  refine g_if_eqZ dX7_findFlows_52 rfl ⟨vI_lo _ _ _, vI_hi _ _ _⟩  (fun c52 => ?_) (fun c52 => ?_)
  · replace h := h.1 c52
    refine g_iconst (v := zI 0) dX7_findFlows_90 (by decide) ?_
    refine g_istore_n (L' := [some (.ref (b + 0)), some (.int (zI 0)), none]) dX7_findFlows_91 rfl ?_
    exact h
  · replace h := h.2 c52
    refine g_aload_n dX7_findFlows_55 rfl ?_
    refine g_iconst (v := zI 0) dX7_findFlows_56 (by decide) ?_
    refine g_putI dX7_findFlows_57 tF_7_225 lM_0 rfl rfl ⟨rfl, rfl⟩ rfl ?_
    refine g_aload_n dX7_findFlows_60 rfl ?_
    refine g_getR dX7_findFlows_61 tF_7_13 lM_0 rfl ?_
    refine g_aload_n dX7_findFlows_64 rfl ?_
    refine g_getZ (v := vI T 0 3) dX7_findFlows_65 tF_7_101 lM_0 rfl (zI_v T 0 3) ?_
    obtain ⟨a1, h⟩ := h
    obtain ⟨a2, h⟩ := h
    refine g_ialdZ (v := vI T 2 (vI T 0 3).toNat) dX7_findFlows_68 lM_2 a1 a2 (by decide) (zI_v T 2 (vI T 0 3).toNat) ?_
    refine g_iconst (v := zI 1) dX7_findFlows_69 (by decide) ?_
    refine g_isubZ dX7_findFlows_70 ?_
    refine g_istore_n (L' := [some (.ref (b + 0)), some (.int (zI ((vI T 2 (vI T 0 3).toNat) - 1))), none]) dX7_findFlows_71 rfl ?_
    exact h
def f_X7_findFlows_92 (sa : Nat → Nat) (b : Nat) (E : Nat × mH) (d : Nat) (l1 : Int) (T : gT) (Q : Option Value → gT → Prop) : Prop := (-2147483648 ≤ l1 ∧ l1 < 2147483648) ∧ ((50 ≤ l1 → gW (tP sa) lM b E (d + 1 + 1) mX7_findFlows 113 [some (.ref (b + 0)), some (.int (zI 0)), none] [] T Q) ∧ (¬ 50 ≤ l1 → 0 ≤ l1 ∧ l1 < 50 ∧ gW (tP sa) lM b E (d + 1 + 1) mX7_findFlows 92 [some (.ref (b + 0)), some (.int (zI (l1 + 1))), none] [] (gJ T 11 l1.toNat 0) Q))
set_option maxRecDepth 4000 in
theorem w_X7_findFlows_92 {sa : Nat → Nat} {b : Nat} {E : Nat × mH} {d : Nat} {l1 : Int} {T : gT} {Q : Option Value → gT → Prop} (h : f_X7_findFlows_92 sa b E d l1 T Q) : gW (tP sa) lM b E (d + 1 + 1) mX7_findFlows 92 [some (.ref (b + 0)), some (.int (zI l1)), none] [] T Q := by
  unfold f_X7_findFlows_92 at h
  refine g_iload_n dX7_findFlows_92 rfl ?_
  refine g_bipush (v := zI 50) dX7_findFlows_93 (by decide) ?_
  obtain ⟨a1, h⟩ := h
  refine g_icmp_geZ dX7_findFlows_95 rfl a1 (by decide) (fun c95 => ?_) (fun c95 => ?_)
  · replace h := h.1 c95
    refine g_iconst (v := zI 0) dX7_findFlows_111 (by decide) ?_
    refine g_istore_n (L' := [some (.ref (b + 0)), some (.int (zI 0)), none]) dX7_findFlows_112 rfl ?_
    exact h
  · replace h := h.2 c95
    refine g_aload_n dX7_findFlows_98 rfl ?_
    refine g_getR dX7_findFlows_99 tF_7_42 lM_0 rfl ?_
    refine g_iload_n dX7_findFlows_102 rfl ?_
    refine g_lconst (v := 0) dX7_findFlows_103 (by decide) ?_
    obtain ⟨a2, h⟩ := h
    obtain ⟨a3, h⟩ := h
    refine g_lastZ dX7_findFlows_104 lM_11 a2 a3 (by decide) ?_
    refine g_iinc (x := zI l1) (v := zI (l1 + 1)) (L' := [some (.ref (b + 0)), some (.int (zI (l1 + 1))), none]) dX7_findFlows_105 rfl (zI_add _ _) rfl ?_
    refine g_goto dX7_findFlows_108 rfl ?_
    exact h
def f_X7_findFlows_72 (sa : Nat → Nat) (b : Nat) (E : Nat × mH) (d : Nat) (l1 : Int) (T : gT) (Q : Option Value → gT → Prop) : Prop := (-2147483648 ≤ l1 ∧ l1 < 2147483648) ∧ ((l1 < 0 → gW (tP sa) lM b E (d + 1 + 1) mX7_findFlows 48 [some (.ref (b + 0)), some (.int (zI l1)), none] [] T Q) ∧ (¬ l1 < 0 → gC (tP sa) lM b E (d + 1) mX7_flowOf [.ref (b + 0), .int (zI l1)] T (fun r T78 => pV r (gW (tP sa) lM b E (d + 1 + 1) mX7_findFlows 72 [some (.ref (b + 0)), some (.int (zI (l1 - 1))), none] [] T78 Q))))
set_option maxRecDepth 4000 in
theorem w_X7_findFlows_72 {sa : Nat → Nat} {b : Nat} {E : Nat × mH} {d : Nat} {l1 : Int} {T : gT} {Q : Option Value → gT → Prop} (h : f_X7_findFlows_72 sa b E d l1 T Q) : gW (tP sa) lM b E (d + 1 + 1) mX7_findFlows 72 [some (.ref (b + 0)), some (.int (zI l1)), none] [] T Q := by
  unfold f_X7_findFlows_72 at h
  refine g_iload_n dX7_findFlows_72 rfl ?_
  obtain ⟨a1, h⟩ := h
  refine g_if_ltZ dX7_findFlows_73 rfl a1  (fun c73 => ?_) (fun c73 => ?_)
  · replace h := h.1 c73
    refine g_goto dX7_findFlows_87 rfl ?_
    exact h
  · replace h := h.2 c73
    refine g_aload_n dX7_findFlows_76 rfl ?_
    refine g_iload_n dX7_findFlows_77 rfl ?_
    refine g_callV [.ref (b + 0), .int (zI l1)] [] dX7_findFlows_78 tG_7_228 tM_135 lM_0 rfl rfl rfl rfl (by decide) rfl ?_
    refine gC.mono h (Nat.le_refl _) ?_
    rintro _ T78 ⟨rfl, h⟩
    refine g_iinc (x := zI l1) (v := zI (l1 - 1)) (L' := [some (.ref (b + 0)), some (.int (zI (l1 - 1))), none]) dX7_findFlows_81 rfl ((zI_add _ _).trans (congrArg zI (show _ = l1 - 1 by omega))) rfl ?_
    refine g_goto dX7_findFlows_84 rfl ?_
    exact h
def f_X7_findFlows_113 (sa : Nat → Nat) (b : Nat) (E : Nat × mH) (d : Nat) (l1 : Int) (T : gT) (Q : Option Value → gT → Prop) : Prop := 0 ≤ vI T 0 3 ∧ vI T 0 3 < 2 ∧ (-2147483648 ≤ l1 ∧ l1 < 2147483648) ∧ (((vI T 2 (vI T 0 3).toNat) ≤ l1 → gW (tP sa) lM b E (d + 1 + 1) mX7_findFlows 180 [some (.ref (b + 0)), some (.int (zI 0)), none] [] T Q) ∧ (¬ (vI T 2 (vI T 0 3).toNat) ≤ l1 → (vI T 0 3 = 0 ∨ vI T 0 3 = 1) ∧ (0 ≤ l1 ∧ l1 < 200) ∧ ((¬ (cV T (vI T 0 3).toNat l1.toNat 0) = 11 → gW (tP sa) lM b E (d + 1 + 1) mX7_findFlows 113 [some (.ref (b + 0)), some (.int (zI (l1 + 1))), none] [] T Q) ∧ ((cV T (vI T 0 3).toNat l1.toNat 0) = 11 → 0 ≤ l1 ∧ l1 < 200 ∧ (((vI T 7 l1.toNat) = (-1) → gW (tP sa) lM b E (d + 1 + 1) mX7_findFlows 113 [some (.ref (b + 0)), some (.int (zI (l1 + 1))), none] [] T Q) ∧ (¬ (vI T 7 l1.toNat) = (-1) → 0 ≤ vI T 7 l1.toNat ∧ vI T 7 l1.toNat < 50 ∧ (0 ≤ l1 ∧ l1 < 200) ∧ 0 ≤ cV T (vI T 0 3).toNat l1.toNat 3 ∧ cV T (vI T 0 3).toNat l1.toNat 3 < 200 ∧ gW (tP sa) lM b E (d + 1 + 1) mX7_findFlows 113 [some (.ref (b + 0)), some (.int (zI (l1 + 1))), none] [] (gJ T 11 (vI T 7 l1.toNat).toNat ((T.2.1 11 (vI T 7 l1.toNat).toNat) ||| (T.2.1 9 (cV T (vI T 0 3).toNat l1.toNat 3).toNat))) Q))))))
set_option maxRecDepth 4000 in
theorem w_X7_findFlows_113 {sa : Nat → Nat} {b : Nat} {E : Nat × mH} {d : Nat} {l1 : Int} {T : gT} {Q : Option Value → gT → Prop} (h : f_X7_findFlows_113 sa b E d l1 T Q) : gW (tP sa) lM b E (d + 1 + 1) mX7_findFlows 113 [some (.ref (b + 0)), some (.int (zI l1)), none] [] T Q := by
  unfold f_X7_findFlows_113 at h
  refine g_iload_n dX7_findFlows_113 rfl ?_
  refine g_aload_n dX7_findFlows_114 rfl ?_
  refine g_getR dX7_findFlows_115 tF_7_13 lM_0 rfl ?_
  refine g_aload_n dX7_findFlows_118 rfl ?_
  refine g_getZ (v := vI T 0 3) dX7_findFlows_119 tF_7_101 lM_0 rfl (zI_v T 0 3) ?_
  obtain ⟨a1, h⟩ := h
  obtain ⟨a2, h⟩ := h
  refine g_ialdZ (v := vI T 2 (vI T 0 3).toNat) dX7_findFlows_122 lM_2 a1 a2 (by decide) (zI_v T 2 (vI T 0 3).toNat) ?_
  obtain ⟨a3, h⟩ := h
  refine g_icmp_geZ dX7_findFlows_123 rfl a3 ⟨vI_lo _ _ _, vI_hi _ _ _⟩ (fun c123 => ?_) (fun c123 => ?_)
  · replace h := h.1 c123
    refine g_iconst (v := zI 0) dX7_findFlows_178 (by decide) ?_
    refine g_istore_n (L' := [some (.ref (b + 0)), some (.int (zI 0)), none]) dX7_findFlows_179 rfl ?_
    exact h
  · replace h := h.2 c123
    refine g_aload_n dX7_findFlows_126 rfl ?_
    refine g_iload_n dX7_findFlows_127 rfl ?_
    refine g_iconst (v := zI 0) dX7_findFlows_128 (by decide) ?_
    obtain ⟨a4, h⟩ := h
    obtain ⟨a5, h⟩ := h
    refine g_callV [.ref (b + 0), .int (zI l1), .int (zI 0)] [] dX7_findFlows_129 tG_7_219 tM_113 lM_0 rfl rfl rfl rfl (by decide) rfl ?_
    refine gC.mono (c_getZ sa b E d _ (n := vI T 0 3) (by first | exact (zI_v _ _ _).symm | rfl) a4 a5 (by decide)) (Nat.le_refl _) ?_
    rintro _ _ ⟨rfl, h9⟩
    obtain rfl := h9.symm
    refine g_bipush (v := zI 11) dX7_findFlows_132 (by decide) ?_
    refine g_icmp_neZ dX7_findFlows_134 rfl ⟨vI_lo _ _ _, vI_hi _ _ _⟩ (by decide) (fun c134 => ?_) (fun c134 => ?_)
    · replace h := h.1 c134
      refine g_iinc (x := zI l1) (v := zI (l1 + 1)) (L' := [some (.ref (b + 0)), some (.int (zI (l1 + 1))), none]) dX7_findFlows_172 rfl (zI_add _ _) rfl ?_
      refine g_goto dX7_findFlows_175 rfl ?_
      exact h
    · replace h := h.2 c134
      refine g_aload_n dX7_findFlows_137 rfl ?_
      refine g_getR dX7_findFlows_138 tF_7_29 lM_0 rfl ?_
      refine g_iload_n dX7_findFlows_141 rfl ?_
      obtain ⟨a6, h⟩ := h
      obtain ⟨a7, h⟩ := h
      refine g_ialdZ (v := vI T 7 l1.toNat) dX7_findFlows_142 lM_7 a6 a7 (by decide) (zI_v T 7 l1.toNat) ?_
      refine g_iconst (v := zI (-1)) dX7_findFlows_143 (by decide) ?_
      refine g_icmp_eqZ dX7_findFlows_144 rfl ⟨vI_lo _ _ _, vI_hi _ _ _⟩ (by decide) (fun c144 => ?_) (fun c144 => ?_)
      · replace h := h.1 c144
        refine g_iinc (x := zI l1) (v := zI (l1 + 1)) (L' := [some (.ref (b + 0)), some (.int (zI (l1 + 1))), none]) dX7_findFlows_172 rfl (zI_add _ _) rfl ?_
        refine g_goto dX7_findFlows_175 rfl ?_
        exact h
      · replace h := h.2 c144
        refine g_aload_n dX7_findFlows_147 rfl ?_
        refine g_getR dX7_findFlows_148 tF_7_42 lM_0 rfl ?_
        refine g_aload_n dX7_findFlows_151 rfl ?_
        refine g_getR dX7_findFlows_152 tF_7_29 lM_0 rfl ?_
        refine g_iload_n dX7_findFlows_155 rfl ?_
        refine g_ialdZ (v := vI T 7 l1.toNat) dX7_findFlows_156 lM_7 a6 a7 (by decide) (zI_v T 7 l1.toNat) ?_
        refine g_dup2 dX7_findFlows_157 rfl rfl ?_
        obtain ⟨a8, h⟩ := h
        obtain ⟨a9, h⟩ := h
        refine g_laldZ (v := T.2.1 11 (vI T 7 l1.toNat).toNat) dX7_findFlows_158 lM_11 a8 a9 (by decide) rfl ?_
        refine g_aload_n dX7_findFlows_159 rfl ?_
        refine g_getR dX7_findFlows_160 tF_7_35 lM_0 rfl ?_
        refine g_aload_n dX7_findFlows_163 rfl ?_
        refine g_iload_n dX7_findFlows_164 rfl ?_
        refine g_iconst (v := zI 3) dX7_findFlows_165 (by decide) ?_
        obtain ⟨a10, h⟩ := h
        refine g_callV [.ref (b + 0), .int (zI l1), .int (zI 3)] [.ref (b + 9), .long (T.2.1 11 (vI T 7 l1.toNat).toNat), .int (zI (vI T 7 l1.toNat)), .ref (b + 11)] dX7_findFlows_166 tG_7_219 tM_113 lM_0 rfl rfl rfl rfl (by decide) rfl ?_
        refine gC.mono (c_getZ sa b E d _ (n := vI T 0 3) (by first | exact (zI_v _ _ _).symm | rfl) a4 a10 (by decide)) (Nat.le_refl _) ?_
        rintro _ _ ⟨rfl, h9⟩
        obtain rfl := h9.symm
        obtain ⟨a11, h⟩ := h
        obtain ⟨a12, h⟩ := h
        refine g_laldZ (v := T.2.1 9 (cV T (vI T 0 3).toNat l1.toNat 3).toNat) dX7_findFlows_169 lM_9 a11 a12 (by decide) rfl ?_
        refine g_lor dX7_findFlows_170 ?_
        refine g_lastZ dX7_findFlows_171 lM_11 a8 a9 (by decide) ?_
        refine g_iinc (x := zI l1) (v := zI (l1 + 1)) (L' := [some (.ref (b + 0)), some (.int (zI (l1 + 1))), none]) dX7_findFlows_172 rfl (zI_add _ _) rfl ?_
        refine g_goto dX7_findFlows_175 rfl ?_
        exact h
def f_X7_findFlows_180 (sa : Nat → Nat) (b : Nat) (E : Nat × mH) (d : Nat) (l1 : Int) (T : gT) (Q : Option Value → gT → Prop) : Prop := (-2147483648 ≤ l1 ∧ l1 < 2147483648) ∧ (((vI T 0 8) ≤ l1 → Q none T) ∧ (¬ (vI T 0 8) ≤ l1 → gW (tP sa) lM b E (d + 1 + 1) mX7_findFlows 190 [some (.ref (b + 0)), some (.int (zI l1)), some (.int (zI 0))] [] T Q))
set_option maxRecDepth 4000 in
theorem w_X7_findFlows_180 {sa : Nat → Nat} {b : Nat} {E : Nat × mH} {d : Nat} {l1 : Int} {T : gT} {Q : Option Value → gT → Prop} (h : f_X7_findFlows_180 sa b E d l1 T Q) : gW (tP sa) lM b E (d + 1 + 1) mX7_findFlows 180 [some (.ref (b + 0)), some (.int (zI l1)), none] [] T Q := by
  unfold f_X7_findFlows_180 at h
  refine g_iload_n dX7_findFlows_180 rfl ?_
  refine g_aload_n dX7_findFlows_181 rfl ?_
  refine g_getZ (v := vI T 0 8) dX7_findFlows_182 tF_7_216 lM_0 rfl (zI_v T 0 8) ?_
  obtain ⟨a1, h⟩ := h
  refine g_icmp_geZ dX7_findFlows_185 rfl a1 ⟨vI_lo _ _ _, vI_hi _ _ _⟩ (fun c185 => ?_) (fun c185 => ?_)
  · replace h := h.1 c185
    exact g_vret dX7_findFlows_244 rfl h
  · replace h := h.2 c185
    refine g_iconst (v := zI 0) dX7_findFlows_188 (by decide) ?_
    refine g_istore_n (L' := [some (.ref (b + 0)), some (.int (zI l1)), some (.int (zI 0))]) dX7_findFlows_189 rfl ?_
    exact h
def f_X7_findFlows_190 (sa : Nat → Nat) (b : Nat) (E : Nat × mH) (d : Nat) (l1 : Int) (l2 : Int) (T : gT) (Q : Option Value → gT → Prop) : Prop := (-2147483648 ≤ l2 ∧ l2 < 2147483648) ∧ (((vI T 0 8) ≤ l2 → gW (tP sa) lM b E (d + 1 + 1) mX7_findFlows 180 [some (.ref (b + 0)), some (.int (zI (l1 + 1))), some (.int (zI l2))] [] T Q) ∧ (¬ (vI T 0 8) ≤ l2 → 0 ≤ l2 ∧ l2 < 50 ∧ ((¬ (((T.2.1 11 l2.toNat) >>> ((zI l1).toInt64 &&& 63)) &&& 1) = 1 → gW (tP sa) lM b E (d + 1 + 1) mX7_findFlows 190 [some (.ref (b + 0)), some (.int (zI l1)), some (.int (zI (l2 + 1)))] [] (gJ T 11 l2.toNat ((T.2.1 11 l2.toNat) ||| 0)) Q) ∧ ((((T.2.1 11 l2.toNat) >>> ((zI l1).toInt64 &&& 63)) &&& 1) = 1 → 0 ≤ l1 ∧ l1 < 50 ∧ gW (tP sa) lM b E (d + 1 + 1) mX7_findFlows 190 [some (.ref (b + 0)), some (.int (zI l1)), some (.int (zI (l2 + 1)))] [] (gJ T 11 l2.toNat ((T.2.1 11 l2.toNat) ||| (T.2.1 11 l1.toNat))) Q))))
set_option maxRecDepth 4000 in
theorem w_X7_findFlows_190 {sa : Nat → Nat} {b : Nat} {E : Nat × mH} {d : Nat} {l1 : Int} {l2 : Int} {T : gT} {Q : Option Value → gT → Prop} (h : f_X7_findFlows_190 sa b E d l1 l2 T Q) : gW (tP sa) lM b E (d + 1 + 1) mX7_findFlows 190 [some (.ref (b + 0)), some (.int (zI l1)), some (.int (zI l2))] [] T Q := by
  unfold f_X7_findFlows_190 at h
  refine g_iload_n dX7_findFlows_190 rfl ?_
  refine g_aload_n dX7_findFlows_191 rfl ?_
  refine g_getZ (v := vI T 0 8) dX7_findFlows_192 tF_7_216 lM_0 rfl (zI_v T 0 8) ?_
  obtain ⟨a1, h⟩ := h
  refine g_icmp_geZ dX7_findFlows_195 rfl a1 ⟨vI_lo _ _ _, vI_hi _ _ _⟩ (fun c195 => ?_) (fun c195 => ?_)
  · replace h := h.1 c195
    refine g_iinc (x := zI l1) (v := zI (l1 + 1)) (L' := [some (.ref (b + 0)), some (.int (zI (l1 + 1))), some (.int (zI l2))]) dX7_findFlows_238 rfl (zI_add _ _) rfl ?_
    refine g_goto dX7_findFlows_241 rfl ?_
    exact h
  · replace h := h.2 c195
    refine g_aload_n dX7_findFlows_198 rfl ?_
    refine g_getR dX7_findFlows_199 tF_7_42 lM_0 rfl ?_
    refine g_iload_n dX7_findFlows_202 rfl ?_
    refine g_dup2 dX7_findFlows_203 rfl rfl ?_
    obtain ⟨a2, h⟩ := h
    obtain ⟨a3, h⟩ := h
    refine g_laldZ (v := T.2.1 11 l2.toNat) dX7_findFlows_204 lM_11 a2 a3 (by decide) rfl ?_
    refine g_aload_n dX7_findFlows_205 rfl ?_
    refine g_getR dX7_findFlows_206 tF_7_42 lM_0 rfl ?_
    refine g_iload_n dX7_findFlows_209 rfl ?_
    refine g_laldZ (v := T.2.1 11 l2.toNat) dX7_findFlows_210 lM_11 a2 a3 (by decide) rfl ?_
    refine g_iload_n dX7_findFlows_211 rfl ?_
    refine g_lshr dX7_findFlows_212 ?_
    refine g_lconst (v := 1) dX7_findFlows_213 (by decide) ?_
    refine g_land dX7_findFlows_214 ?_
    refine g_lconst (v := 1) dX7_findFlows_215 (by decide) ?_
    refine g_lcmp dX7_findFlows_216 ?_
    refine g_if_neL dX7_findFlows_217 rfl (fun c217 => ?_) (fun c217 => ?_)
    · replace h := h.1 c217
      refine g_lconst (v := 0) dX7_findFlows_229 (by decide) ?_
      refine g_lor dX7_findFlows_230 ?_
      refine g_lastZ dX7_findFlows_231 lM_11 a2 a3 (by decide) ?_
      refine g_iinc (x := zI l2) (v := zI (l2 + 1)) (L' := [some (.ref (b + 0)), some (.int (zI l1)), some (.int (zI (l2 + 1)))]) dX7_findFlows_232 rfl (zI_add _ _) rfl ?_
      refine g_goto dX7_findFlows_235 rfl ?_
      exact h
    · replace h := h.2 c217
      refine g_aload_n dX7_findFlows_220 rfl ?_
      refine g_getR dX7_findFlows_221 tF_7_42 lM_0 rfl ?_
      refine g_iload_n dX7_findFlows_224 rfl ?_
      obtain ⟨a4, h⟩ := h
      obtain ⟨a5, h⟩ := h
      refine g_laldZ (v := T.2.1 11 l1.toNat) dX7_findFlows_225 lM_11 a4 a5 (by decide) rfl ?_
      refine g_goto dX7_findFlows_226 rfl ?_
      refine g_lor dX7_findFlows_230 ?_
      refine g_lastZ dX7_findFlows_231 lM_11 a2 a3 (by decide) ?_
      refine g_iinc (x := zI l2) (v := zI (l2 + 1)) (L' := [some (.ref (b + 0)), some (.int (zI l1)), some (.int (zI (l2 + 1)))]) dX7_findFlows_232 rfl (zI_add _ _) rfl ?_
      refine g_goto dX7_findFlows_235 rfl ?_
      exact h
def f_X7_findFlows_180b (sa : Nat → Nat) (b : Nat) (E : Nat × mH) (d : Nat) (l1 : Int) (l2 : Int) (T : gT) (Q : Option Value → gT → Prop) : Prop := (-2147483648 ≤ l1 ∧ l1 < 2147483648) ∧ (((vI T 0 8) ≤ l1 → Q none T) ∧ (¬ (vI T 0 8) ≤ l1 → gW (tP sa) lM b E (d + 1 + 1) mX7_findFlows 190 [some (.ref (b + 0)), some (.int (zI l1)), some (.int (zI 0))] [] T Q))
set_option maxRecDepth 4000 in
theorem w_X7_findFlows_180b {sa : Nat → Nat} {b : Nat} {E : Nat × mH} {d : Nat} {l1 : Int} {l2 : Int} {T : gT} {Q : Option Value → gT → Prop} (h : f_X7_findFlows_180b sa b E d l1 l2 T Q) : gW (tP sa) lM b E (d + 1 + 1) mX7_findFlows 180 [some (.ref (b + 0)), some (.int (zI l1)), some (.int (zI l2))] [] T Q := by
  unfold f_X7_findFlows_180b at h
  refine g_iload_n dX7_findFlows_180 rfl ?_
  refine g_aload_n dX7_findFlows_181 rfl ?_
  refine g_getZ (v := vI T 0 8) dX7_findFlows_182 tF_7_216 lM_0 rfl (zI_v T 0 8) ?_
  obtain ⟨a1, h⟩ := h
  refine g_icmp_geZ dX7_findFlows_185 rfl a1 ⟨vI_lo _ _ _, vI_hi _ _ _⟩ (fun c185 => ?_) (fun c185 => ?_)
  · replace h := h.1 c185
    exact g_vret dX7_findFlows_244 rfl h
  · replace h := h.2 c185
    refine g_iconst (v := zI 0) dX7_findFlows_188 (by decide) ?_
    refine g_istore_n (L' := [some (.ref (b + 0)), some (.int (zI l1)), some (.int (zI 0))]) dX7_findFlows_189 rfl ?_
    exact h
def f_X7_isLabel (sa : Nat → Nat) (b : Nat) (E : Nat × mH) (d : Nat) (l1 : Int) (T : gT) (Q : Option Value → gT → Prop) : Prop := (((vI T 0 4) = 0 → Q (some (.int (zI 0))) T) ∧ (¬ (vI T 0 4) = 0 → (-2147483648 ≤ l1 ∧ l1 < 2147483648) ∧ ((l1 < 0 → Q (some (.int (zI 0))) T) ∧ (¬ l1 < 0 → 0 ≤ vI T 0 3 ∧ vI T 0 3 < 2 ∧ (((vI T 2 (vI T 0 3).toNat) ≤ l1 → Q (some (.int (zI 0))) T) ∧ (¬ (vI T 2 (vI T 0 3).toNat) ≤ l1 → Q (some (.int (zI 1))) T))))))
set_option maxRecDepth 4000 in
theorem w_X7_isLabel {sa : Nat → Nat} {b : Nat} {E : Nat × mH} {d : Nat} {l1 : Int} {T : gT} {Q : Option Value → gT → Prop} (h : f_X7_isLabel sa b E d l1 T Q) : gC (tP sa) lM b E d mX7_isLabel [.ref (b + 0), .int (zI l1)] T Q := by
  unfold f_X7_isLabel at h
  refine ⟨Nat.le_of_ble_eq_true rfl, ?_⟩
  show gW (tP sa) lM b E d mX7_isLabel 0 [some (.ref (b + 0)), some (.int (zI l1))] [] T Q
  refine g_aload_n dX7_isLabel_0 rfl ?_
  refine g_getZ (v := vI T 0 4) dX7_isLabel_1 tF_7_203 lM_0 rfl (zI_v T 0 4) ?_
  refine g_if_eqZ dX7_isLabel_4 rfl ⟨vI_lo _ _ _, vI_hi _ _ _⟩  (fun c4 => ?_) (fun c4 => ?_)
  · replace h := h.1 c4
    refine g_iconst (v := zI 0) dX7_isLabel_28 (by decide) ?_
    exact g_iret dX7_isLabel_29 rfl rfl h
  · replace h := h.2 c4
    refine g_iload_n dX7_isLabel_7 rfl ?_
    obtain ⟨a1, h⟩ := h
    refine g_if_ltZ dX7_isLabel_8 rfl a1  (fun c8 => ?_) (fun c8 => ?_)
    · replace h := h.1 c8
      refine g_iconst (v := zI 0) dX7_isLabel_28 (by decide) ?_
      exact g_iret dX7_isLabel_29 rfl rfl h
    · replace h := h.2 c8
      refine g_iload_n dX7_isLabel_11 rfl ?_
      refine g_aload_n dX7_isLabel_12 rfl ?_
      refine g_getR dX7_isLabel_13 tF_7_13 lM_0 rfl ?_
      refine g_aload_n dX7_isLabel_16 rfl ?_
      refine g_getZ (v := vI T 0 3) dX7_isLabel_17 tF_7_101 lM_0 rfl (zI_v T 0 3) ?_
      obtain ⟨a2, h⟩ := h
      obtain ⟨a3, h⟩ := h
      refine g_ialdZ (v := vI T 2 (vI T 0 3).toNat) dX7_isLabel_20 lM_2 a2 a3 (by decide) (zI_v T 2 (vI T 0 3).toNat) ?_
      refine g_icmp_geZ dX7_isLabel_21 rfl a1 ⟨vI_lo _ _ _, vI_hi _ _ _⟩ (fun c21 => ?_) (fun c21 => ?_)
      · replace h := h.1 c21
        refine g_iconst (v := zI 0) dX7_isLabel_28 (by decide) ?_
        exact g_iret dX7_isLabel_29 rfl rfl h
      · replace h := h.2 c21
        refine g_iconst (v := zI 1) dX7_isLabel_24 (by decide) ?_
        refine g_goto dX7_isLabel_25 rfl ?_
        exact g_iret dX7_isLabel_29 rfl rfl h
def f_X7_isFunction (sa : Nat → Nat) (b : Nat) (E : Nat × mH) (d : Nat) (l1 : Int) (T : gT) (Q : Option Value → gT → Prop) : Prop := (((vI T 0 4) = 0 → Q (some (.int (zI 0))) T) ∧ (¬ (vI T 0 4) = 0 → (-2147483648 ≤ l1 ∧ l1 < 2147483648) ∧ ((l1 < 0 → Q (some (.int (zI 0))) T) ∧ (¬ l1 < 0 → (((vI T 0 8) ≤ l1 → Q (some (.int (zI 0))) T) ∧ (¬ (vI T 0 8) ≤ l1 → Q (some (.int (zI 1))) T))))))
set_option maxRecDepth 4000 in
theorem w_X7_isFunction {sa : Nat → Nat} {b : Nat} {E : Nat × mH} {d : Nat} {l1 : Int} {T : gT} {Q : Option Value → gT → Prop} (h : f_X7_isFunction sa b E d l1 T Q) : gC (tP sa) lM b E d mX7_isFunction [.ref (b + 0), .int (zI l1)] T Q := by
  unfold f_X7_isFunction at h
  refine ⟨Nat.le_of_ble_eq_true rfl, ?_⟩
  show gW (tP sa) lM b E d mX7_isFunction 0 [some (.ref (b + 0)), some (.int (zI l1))] [] T Q
  refine g_aload_n dX7_isFunction_0 rfl ?_
  refine g_getZ (v := vI T 0 4) dX7_isFunction_1 tF_7_203 lM_0 rfl (zI_v T 0 4) ?_
  refine g_if_eqZ dX7_isFunction_4 rfl ⟨vI_lo _ _ _, vI_hi _ _ _⟩  (fun c4 => ?_) (fun c4 => ?_)
  · replace h := h.1 c4
    refine g_iconst (v := zI 0) dX7_isFunction_23 (by decide) ?_
    exact g_iret dX7_isFunction_24 rfl rfl h
  · replace h := h.2 c4
    refine g_iload_n dX7_isFunction_7 rfl ?_
    obtain ⟨a1, h⟩ := h
    refine g_if_ltZ dX7_isFunction_8 rfl a1  (fun c8 => ?_) (fun c8 => ?_)
    · replace h := h.1 c8
      refine g_iconst (v := zI 0) dX7_isFunction_23 (by decide) ?_
      exact g_iret dX7_isFunction_24 rfl rfl h
    · replace h := h.2 c8
      refine g_iload_n dX7_isFunction_11 rfl ?_
      refine g_aload_n dX7_isFunction_12 rfl ?_
      refine g_getZ (v := vI T 0 8) dX7_isFunction_13 tF_7_216 lM_0 rfl (zI_v T 0 8) ?_
      refine g_icmp_geZ dX7_isFunction_16 rfl a1 ⟨vI_lo _ _ _, vI_hi _ _ _⟩ (fun c16 => ?_) (fun c16 => ?_)
      · replace h := h.1 c16
        refine g_iconst (v := zI 0) dX7_isFunction_23 (by decide) ?_
        exact g_iret dX7_isFunction_24 rfl rfl h
      · replace h := h.2 c16
        refine g_iconst (v := zI 1) dX7_isFunction_19 (by decide) ?_
        refine g_goto dX7_isFunction_20 rfl ?_
        exact g_iret dX7_isFunction_24 rfl rfl h
def f_X7_isSingle (sa : Nat → Nat) (b : Nat) (E : Nat × mH) (d : Nat) (l1 : Int) (T : gT) (Q : Option Value → gT → Prop) : Prop := (vI T 0 3 = 0 ∨ vI T 0 3 = 1) ∧ (0 ≤ l1 ∧ l1 < 200) ∧ ((¬ (cV T (vI T 0 3).toNat l1.toNat 0) = 11 → Q (some (.int (zI 0))) T) ∧ ((cV T (vI T 0 3).toNat l1.toNat 0) = 11 → (0 ≤ l1 ∧ l1 < 200) ∧ 0 ≤ cV T (vI T 0 3).toNat l1.toNat 3 ∧ cV T (vI T 0 3).toNat l1.toNat 3 < 200 ∧ gC (tP sa) lM b E (d + 1) mX7_countBits [.long (T.2.1 9 (cV T (vI T 0 3).toNat l1.toNat 3).toNat)] T (fun r T22 => pI r (fun v22 => (-2147483648 ≤ v22 ∧ v22 < 2147483648) ∧ ((¬ v22 = 1 → Q (some (.int (zI 0))) T22) ∧ (v22 = 1 → Q (some (.int (zI 1))) T22))))))
set_option maxRecDepth 4000 in
theorem w_X7_isSingle {sa : Nat → Nat} {b : Nat} {E : Nat × mH} {d : Nat} {l1 : Int} {T : gT} {Q : Option Value → gT → Prop} (h : f_X7_isSingle sa b E d l1 T Q) : gC (tP sa) lM b E (d + 1 + 1) mX7_isSingle [.ref (b + 0), .int (zI l1)] T Q := by
  unfold f_X7_isSingle at h
  refine ⟨Nat.le_of_ble_eq_true rfl, ?_⟩
  show gW (tP sa) lM b E (d + 1 + 1) mX7_isSingle 0 [some (.ref (b + 0)), some (.int (zI l1))] [] T Q
  refine g_aload_n dX7_isSingle_0 rfl ?_
  refine g_iload_n dX7_isSingle_1 rfl ?_
  refine g_iconst (v := zI 0) dX7_isSingle_2 (by decide) ?_
  obtain ⟨a1, h⟩ := h
  obtain ⟨a2, h⟩ := h
  refine g_callV [.ref (b + 0), .int (zI l1), .int (zI 0)] [] dX7_isSingle_3 tG_7_219 tM_113 lM_0 rfl rfl rfl rfl (by decide) rfl ?_
  refine gC.mono (c_getZ sa b E d _ (n := vI T 0 3) (by first | exact (zI_v _ _ _).symm | rfl) a1 a2 (by decide)) (Nat.le_refl _) ?_
  rintro _ _ ⟨rfl, h9⟩
  obtain rfl := h9.symm
  refine g_bipush (v := zI 11) dX7_isSingle_6 (by decide) ?_
  refine g_icmp_neZ dX7_isSingle_8 rfl ⟨vI_lo _ _ _, vI_hi _ _ _⟩ (by decide) (fun c8 => ?_) (fun c8 => ?_)
  · replace h := h.1 c8
    refine g_iconst (v := zI 0) dX7_isSingle_33 (by decide) ?_
    exact g_iret dX7_isSingle_34 rfl rfl h
  · replace h := h.2 c8
    refine g_aload_n dX7_isSingle_11 rfl ?_
    refine g_getR dX7_isSingle_12 tF_7_35 lM_0 rfl ?_
    refine g_aload_n dX7_isSingle_15 rfl ?_
    refine g_iload_n dX7_isSingle_16 rfl ?_
    refine g_iconst (v := zI 3) dX7_isSingle_17 (by decide) ?_
    obtain ⟨a3, h⟩ := h
    refine g_callV [.ref (b + 0), .int (zI l1), .int (zI 3)] [.ref (b + 9)] dX7_isSingle_18 tG_7_219 tM_113 lM_0 rfl rfl rfl rfl (by decide) rfl ?_
    refine gC.mono (c_getZ sa b E d _ (n := vI T 0 3) (by first | exact (zI_v _ _ _).symm | rfl) a1 a3 (by decide)) (Nat.le_refl _) ?_
    rintro _ _ ⟨rfl, h9⟩
    obtain rfl := h9.symm
    obtain ⟨a4, h⟩ := h
    obtain ⟨a5, h⟩ := h
    refine g_laldZ (v := T.2.1 9 (cV T (vI T 0 3).toNat l1.toNat 3).toNat) dX7_isSingle_21 lM_9 a4 a5 (by decide) rfl ?_
    refine g_callS [.long (T.2.1 9 (cV T (vI T 0 3).toNat l1.toNat 3).toNat)] [] dX7_isSingle_22 tG_7_239 tM_138 rfl rfl rfl rfl (by decide) ?_
    refine gC.mono h (Nat.le_refl _) ?_
    rintro _ T22 ⟨v22, rfl, h⟩
    refine g_iconst (v := zI 1) dX7_isSingle_25 (by decide) ?_
    obtain ⟨a6, h⟩ := h
    refine g_icmp_neZ dX7_isSingle_26 rfl a6 (by decide) (fun c26 => ?_) (fun c26 => ?_)
    · replace h := h.1 c26
      refine g_iconst (v := zI 0) dX7_isSingle_33 (by decide) ?_
      exact g_iret dX7_isSingle_34 rfl rfl h
    · replace h := h.2 c26
      refine g_iconst (v := zI 1) dX7_isSingle_29 (by decide) ?_
      refine g_goto dX7_isSingle_30 rfl ?_
      exact g_iret dX7_isSingle_34 rfl rfl h
def f_X7_isIn (sa : Nat → Nat) (b : Nat) (E : Nat × mH) (d : Nat) (l1 : Int) (l2 : Int) (T : gT) (Q : Option Value → gT → Prop) : Prop := gW (tP sa) lM b E (d + 1 + 1) mX7_isIn 2 [some (.ref (b + 0)), some (.int (zI l1)), some (.int (zI l2)), some (.int (zI l1))] [] T Q
set_option maxRecDepth 4000 in
theorem w_X7_isIn {sa : Nat → Nat} {b : Nat} {E : Nat × mH} {d : Nat} {l1 : Int} {l2 : Int} {T : gT} {Q : Option Value → gT → Prop} (h : f_X7_isIn sa b E d l1 l2 T Q) : gC (tP sa) lM b E (d + 1 + 1) mX7_isIn [.ref (b + 0), .int (zI l1), .int (zI l2)] T Q := by
  unfold f_X7_isIn at h
  refine ⟨Nat.le_of_ble_eq_true rfl, ?_⟩
  show gW (tP sa) lM b E (d + 1 + 1) mX7_isIn 0 [some (.ref (b + 0)), some (.int (zI l1)), some (.int (zI l2)), none] [] T Q
  refine g_iload_n dX7_isIn_0 rfl ?_
  refine g_istore_n (L' := [some (.ref (b + 0)), some (.int (zI l1)), some (.int (zI l2)), some (.int (zI l1))]) dX7_isIn_1 rfl ?_
  exact h
def f_X7_isIn_2 (sa : Nat → Nat) (b : Nat) (E : Nat × mH) (d : Nat) (l1 : Int) (l2 : Int) (l3 : Int) (T : gT) (Q : Option Value → gT → Prop) : Prop := (-2147483648 ≤ l3 ∧ l3 < 2147483648) ∧ ((l3 = (-1) → (-2147483648 ≤ l2 ∧ l2 < 2147483648) ∧ ((¬ l3 = l2 → Q (some (.int (zI 0))) T) ∧ (l3 = l2 → Q (some (.int (zI 1))) T))) ∧ (¬ l3 = (-1) → (-2147483648 ≤ l2 ∧ l2 < 2147483648) ∧ ((l3 = l2 → ((¬ l3 = l2 → Q (some (.int (zI 0))) T) ∧ (l3 = l2 → Q (some (.int (zI 1))) T))) ∧ (¬ l3 = l2 → (vI T 0 3 = 0 ∨ vI T 0 3 = 1) ∧ (0 ≤ l3 ∧ l3 < 200) ∧ gW (tP sa) lM b E (d + 1 + 1) mX7_isIn 2 [some (.ref (b + 0)), some (.int (zI l1)), some (.int (zI l2)), some (.int (zI (cV T (vI T 0 3).toNat l3.toNat 6)))] [] T Q))))
set_option maxRecDepth 4000 in
theorem w_X7_isIn_2 {sa : Nat → Nat} {b : Nat} {E : Nat × mH} {d : Nat} {l1 : Int} {l2 : Int} {l3 : Int} {T : gT} {Q : Option Value → gT → Prop} (h : f_X7_isIn_2 sa b E d l1 l2 l3 T Q) : gW (tP sa) lM b E (d + 1 + 1) mX7_isIn 2 [some (.ref (b + 0)), some (.int (zI l1)), some (.int (zI l2)), some (.int (zI l3))] [] T Q := by
  unfold f_X7_isIn_2 at h
  refine g_iload_n dX7_isIn_2 rfl ?_
  refine g_iconst (v := zI (-1)) dX7_isIn_3 (by decide) ?_
  obtain ⟨a1, h⟩ := h
  refine g_icmp_eqZ dX7_isIn_4 rfl a1 (by decide) (fun c4 => ?_) (fun c4 => ?_)
  · replace h := h.1 c4
    refine g_iload_n dX7_isIn_23 rfl ?_
    refine g_iload_n dX7_isIn_24 rfl ?_
    obtain ⟨a2, h⟩ := h
    refine g_icmp_neZ dX7_isIn_25 rfl a1 a2 (fun c25 => ?_) (fun c25 => ?_)
    · replace h := h.1 c25
      refine g_iconst (v := zI 0) dX7_isIn_32 (by decide) ?_
      exact g_iret dX7_isIn_33 rfl rfl h
    · replace h := h.2 c25
      refine g_iconst (v := zI 1) dX7_isIn_28 (by decide) ?_
      refine g_goto dX7_isIn_29 rfl ?_
      exact g_iret dX7_isIn_33 rfl rfl h
  · replace h := h.2 c4
    refine g_iload_n dX7_isIn_7 rfl ?_
    refine g_iload_n dX7_isIn_8 rfl ?_
    obtain ⟨a3, h⟩ := h
    refine g_icmp_eqZ dX7_isIn_9 rfl a1 a3 (fun c9 => ?_) (fun c9 => ?_)
    · replace h := h.1 c9
      refine g_iload_n dX7_isIn_23 rfl ?_
      refine g_iload_n dX7_isIn_24 rfl ?_
      refine g_icmp_neZ dX7_isIn_25 rfl a1 a3 (fun c25 => ?_) (fun c25 => ?_)
      · replace h := h.1 c25
        refine g_iconst (v := zI 0) dX7_isIn_32 (by decide) ?_
        exact g_iret dX7_isIn_33 rfl rfl h
      · replace h := h.2 c25
        refine g_iconst (v := zI 1) dX7_isIn_28 (by decide) ?_
        refine g_goto dX7_isIn_29 rfl ?_
        exact g_iret dX7_isIn_33 rfl rfl h
    · replace h := h.2 c9
      refine g_aload_n dX7_isIn_12 rfl ?_
      refine g_iload_n dX7_isIn_13 rfl ?_
      refine g_bipush (v := zI 6) dX7_isIn_14 (by decide) ?_
      obtain ⟨a4, h⟩ := h
      obtain ⟨a5, h⟩ := h
      refine g_callV [.ref (b + 0), .int (zI l3), .int (zI 6)] [] dX7_isIn_16 tG_7_219 tM_113 lM_0 rfl rfl rfl rfl (by decide) rfl ?_
      refine gC.mono (c_getZ sa b E d _ (n := vI T 0 3) (by first | exact (zI_v _ _ _).symm | rfl) a4 a5 (by decide)) (Nat.le_refl _) ?_
      rintro _ _ ⟨rfl, h9⟩
      obtain rfl := h9.symm
      refine g_istore_n (L' := [some (.ref (b + 0)), some (.int (zI l1)), some (.int (zI l2)), some (.int (zI (cV T (vI T 0 3).toNat l3.toNat 6)))]) dX7_isIn_19 rfl ?_
      refine g_goto dX7_isIn_20 rfl ?_
      exact h
def f_X7_canDrop (sa : Nat → Nat) (b : Nat) (E : Nat × mH) (d : Nat) (l1 : Int) (T : gT) (Q : Option Value → gT → Prop) : Prop := (vI T 0 3 = 0 ∨ vI T 0 3 = 1) ∧ (0 ≤ l1 ∧ l1 < 200) ∧ ((¬ (cV T (vI T 0 3).toNat l1.toNat 0) = 5 → Q (some (.int (zI 0))) T) ∧ ((cV T (vI T 0 3).toNat l1.toNat 0) = 5 → (0 ≤ l1 ∧ l1 < 200) ∧ 0 ≤ cV T (vI T 0 3).toNat l1.toNat 1 ∧ cV T (vI T 0 3).toNat l1.toNat 1 < 100 ∧ (((vI T 8 (cV T (vI T 0 3).toNat l1.toNat 1).toNat) ≤ 0 → (0 ≤ l1 ∧ l1 < 200) ∧ (0 ≤ cV T (vI T 0 3).toNat l1.toNat 3 ∧ cV T (vI T 0 3).toNat l1.toNat 3 < 200) ∧ ((3 < (cV T (vI T 0 3).toNat (cV T (vI T 0 3).toNat l1.toNat 3).toNat 0) → Q (some (.int (zI 0))) T) ∧ (¬ 3 < (cV T (vI T 0 3).toNat (cV T (vI T 0 3).toNat l1.toNat 3).toNat 0) → Q (some (.int (zI 1))) T))) ∧ (¬ (vI T 8 (cV T (vI T 0 3).toNat l1.toNat 1).toNat) ≤ 0 → Q (some (.int (zI 0))) T))))
set_option maxRecDepth 4000 in
theorem w_X7_canDrop {sa : Nat → Nat} {b : Nat} {E : Nat × mH} {d : Nat} {l1 : Int} {T : gT} {Q : Option Value → gT → Prop} (h : f_X7_canDrop sa b E d l1 T Q) : gC (tP sa) lM b E (d + 1 + 1) mX7_canDrop [.ref (b + 0), .int (zI l1)] T Q := by
  unfold f_X7_canDrop at h
  refine ⟨Nat.le_of_ble_eq_true rfl, ?_⟩
  show gW (tP sa) lM b E (d + 1 + 1) mX7_canDrop 0 [some (.ref (b + 0)), some (.int (zI l1))] [] T Q
  refine g_aload_n dX7_canDrop_0 rfl ?_
  refine g_iload_n dX7_canDrop_1 rfl ?_
  refine g_iconst (v := zI 0) dX7_canDrop_2 (by decide) ?_
  obtain ⟨a1, h⟩ := h
  obtain ⟨a2, h⟩ := h
  refine g_callV [.ref (b + 0), .int (zI l1), .int (zI 0)] [] dX7_canDrop_3 tG_7_219 tM_113 lM_0 rfl rfl rfl rfl (by decide) rfl ?_
  refine gC.mono (c_getZ sa b E d _ (n := vI T 0 3) (by first | exact (zI_v _ _ _).symm | rfl) a1 a2 (by decide)) (Nat.le_refl _) ?_
  rintro _ _ ⟨rfl, h9⟩
  obtain rfl := h9.symm
  refine g_iconst (v := zI 5) dX7_canDrop_6 (by decide) ?_
  refine g_icmp_neZ dX7_canDrop_7 rfl ⟨vI_lo _ _ _, vI_hi _ _ _⟩ (by decide) (fun c7 => ?_) (fun c7 => ?_)
  · replace h := h.1 c7
    refine g_iconst (v := zI 0) dX7_canDrop_24 (by decide) ?_
    exact g_iret dX7_canDrop_25 rfl rfl h
  · replace h := h.2 c7
    refine g_aload_n dX7_canDrop_10 rfl ?_
    refine g_getR dX7_canDrop_11 tF_7_32 lM_0 rfl ?_
    refine g_aload_n dX7_canDrop_14 rfl ?_
    refine g_iload_n dX7_canDrop_15 rfl ?_
    refine g_iconst (v := zI 1) dX7_canDrop_16 (by decide) ?_
    obtain ⟨a3, h⟩ := h
    refine g_callV [.ref (b + 0), .int (zI l1), .int (zI 1)] [.ref (b + 8)] dX7_canDrop_17 tG_7_219 tM_113 lM_0 rfl rfl rfl rfl (by decide) rfl ?_
    refine gC.mono (c_getZ sa b E d _ (n := vI T 0 3) (by first | exact (zI_v _ _ _).symm | rfl) a1 a3 (by decide)) (Nat.le_refl _) ?_
    rintro _ _ ⟨rfl, h9⟩
    obtain rfl := h9.symm
    obtain ⟨a4, h⟩ := h
    obtain ⟨a5, h⟩ := h
    refine g_ialdZ (v := vI T 8 (cV T (vI T 0 3).toNat l1.toNat 1).toNat) dX7_canDrop_20 lM_8 a4 a5 (by decide) (zI_v T 8 (cV T (vI T 0 3).toNat l1.toNat 1).toNat) ?_
    refine g_if_leZ dX7_canDrop_21 rfl ⟨vI_lo _ _ _, vI_hi _ _ _⟩  (fun c21 => ?_) (fun c21 => ?_)
    · replace h := h.1 c21
      refine g_aload_n dX7_canDrop_26 rfl ?_
      refine g_aload_n dX7_canDrop_27 rfl ?_
      refine g_iload_n dX7_canDrop_28 rfl ?_
      refine g_iconst (v := zI 3) dX7_canDrop_29 (by decide) ?_
      obtain ⟨a6, h⟩ := h
      refine g_callV [.ref (b + 0), .int (zI l1), .int (zI 3)] [.ref (b + 0)] dX7_canDrop_30 tG_7_219 tM_113 lM_0 rfl rfl rfl rfl (by decide) rfl ?_
      refine gC.mono (c_getZ sa b E d _ (n := vI T 0 3) (by first | exact (zI_v _ _ _).symm | rfl) a1 a6 (by decide)) (Nat.le_refl _) ?_
      rintro _ _ ⟨rfl, h9⟩
      obtain rfl := h9.symm
      refine g_iconst (v := zI 0) dX7_canDrop_33 (by decide) ?_
      obtain ⟨a7, h⟩ := h
      refine g_callV [.ref (b + 0), .int (zI (cV T (vI T 0 3).toNat l1.toNat 3)), .int (zI 0)] [] dX7_canDrop_34 tG_7_219 tM_113 lM_0 rfl rfl rfl rfl (by decide) rfl ?_
      refine gC.mono (c_getZ sa b E d _ (n := vI T 0 3) (by first | exact (zI_v _ _ _).symm | rfl) a1 a7 (by decide)) (Nat.le_refl _) ?_
      rintro _ _ ⟨rfl, h9⟩
      obtain rfl := h9.symm
      refine g_iconst (v := zI 3) dX7_canDrop_37 (by decide) ?_
      refine g_icmp_gtZ dX7_canDrop_38 rfl ⟨vI_lo _ _ _, vI_hi _ _ _⟩ (by decide) (fun c38 => ?_) (fun c38 => ?_)
      · replace h := h.1 c38
        refine g_iconst (v := zI 0) dX7_canDrop_45 (by decide) ?_
        exact g_iret dX7_canDrop_46 rfl rfl h
      · replace h := h.2 c38
        refine g_iconst (v := zI 1) dX7_canDrop_41 (by decide) ?_
        refine g_goto dX7_canDrop_42 rfl ?_
        exact g_iret dX7_canDrop_46 rfl rfl h
    · replace h := h.2 c21
      refine g_iconst (v := zI 0) dX7_canDrop_24 (by decide) ?_
      exact g_iret dX7_canDrop_25 rfl rfl h
def f_X7_told (sa : Nat → Nat) (b : Nat) (E : Nat × mH) (d : Nat) (l1 : Int) (T : gT) (Q : Option Value → gT → Prop) : Prop := (((vI T 0 4) = 0 → Q (some (.int (zI (-2)))) (gI T 0 0 (zI 0))) ∧ (¬ (vI T 0 4) = 0 → (-2147483648 ≤ l1 ∧ l1 < 2147483648) ∧ ((l1 < 0 → Q (some (.int (zI (-2)))) (gI T 0 0 (zI 0))) ∧ (¬ l1 < 0 → ((l1 ≤ 7 → gW (tP sa) lM b E (d + 1 + 1) mX7_told 29 [some (.ref (b + 0)), some (.int (zI l1)), some (.int (zI 0)), some (.int (zI 0)), none] [] (gI T 0 0 (zI 0)) Q) ∧ (¬ l1 ≤ 7 → Q (some (.int (zI (-2)))) (gI T 0 0 (zI 0))))))))
set_option maxRecDepth 4000 in
theorem w_X7_told {sa : Nat → Nat} {b : Nat} {E : Nat × mH} {d : Nat} {l1 : Int} {T : gT} {Q : Option Value → gT → Prop} (h : f_X7_told sa b E d l1 T Q) : gC (tP sa) lM b E (d + 1 + 1) mX7_told [.ref (b + 0), .int (zI l1)] T Q := by
  unfold f_X7_told at h
  refine ⟨Nat.le_of_ble_eq_true rfl, ?_⟩
  show gW (tP sa) lM b E (d + 1 + 1) mX7_told 0 [some (.ref (b + 0)), some (.int (zI l1)), none, none, none] [] T Q
  refine g_aload_n dX7_told_0 rfl ?_
  refine g_iconst (v := zI 0) dX7_told_1 (by decide) ?_
  refine g_putI dX7_told_2 tF_7_97 lM_0 rfl rfl ⟨rfl, rfl⟩ rfl ?_
  refine g_aload_n dX7_told_5 rfl ?_
  refine g_getZ (v := vI T 0 4) dX7_told_6 tF_7_203 lM_0 rfl (zI_v T 0 4) ?_
  refine g_if_eqZ dX7_told_9 rfl ⟨vI_lo _ _ _, vI_hi _ _ _⟩  (fun c9 => ?_) (fun c9 => ?_)
  · replace h := h.1 c9
    refine g_bipush (v := zI (-2)) dX7_told_22 (by decide) ?_
    exact g_iret dX7_told_24 rfl rfl h
  · replace h := h.2 c9
    refine g_iload_n dX7_told_12 rfl ?_
    obtain ⟨a1, h⟩ := h
    refine g_if_ltZ dX7_told_13 rfl a1  (fun c13 => ?_) (fun c13 => ?_)
    · replace h := h.1 c13
      refine g_bipush (v := zI (-2)) dX7_told_22 (by decide) ?_
      exact g_iret dX7_told_24 rfl rfl h
    · replace h := h.2 c13
      refine g_iload_n dX7_told_16 rfl ?_
      refine g_bipush (v := zI 7) dX7_told_17 (by decide) ?_
      refine g_icmp_leZ dX7_told_19 rfl a1 (by decide) (fun c19 => ?_) (fun c19 => ?_)
      · replace h := h.1 c19
        refine g_iconst (v := zI 0) dX7_told_25 (by decide) ?_
        refine g_istore_n (L' := [some (.ref (b + 0)), some (.int (zI l1)), some (.int (zI 0)), none, none]) dX7_told_26 rfl ?_
        refine g_iconst (v := zI 0) dX7_told_27 (by decide) ?_
        refine g_istore_n (L' := [some (.ref (b + 0)), some (.int (zI l1)), some (.int (zI 0)), some (.int (zI 0)), none]) dX7_told_28 rfl ?_
        exact h
      · replace h := h.2 c19
        refine g_bipush (v := zI (-2)) dX7_told_22 (by decide) ?_
        exact g_iret dX7_told_24 rfl rfl h
def f_X7_told_29 (sa : Nat → Nat) (b : Nat) (E : Nat × mH) (d : Nat) (l1 : Int) (l2 : Int) (l3 : Int) (T : gT) (Q : Option Value → gT → Prop) : Prop := 0 ≤ vI T 0 3 ∧ vI T 0 3 < 2 ∧ (-2147483648 ≤ l3 ∧ l3 < 2147483648) ∧ (((vI T 2 (vI T 0 3).toNat) ≤ l3 → gW (tP sa) lM b E (d + 1 + 1) mX7_told 129 [some (.ref (b + 0)), some (.int (zI l1)), some (.int (zI l2)), some (.int (zI l3)), none] [] T Q) ∧ (¬ (vI T 2 (vI T 0 3).toNat) ≤ l3 → (-2147483648 ≤ l1 ∧ l1 < 2147483648) ∧ ((l1 < 3 → gW (tP sa) lM b E (d + 1 + 1) mX7_told 129 [some (.ref (b + 0)), some (.int (zI l1)), some (.int (zI l2)), some (.int (zI l3)), none] [] T Q) ∧ (¬ l1 < 3 → ((6 < l1 → gW (tP sa) lM b E (d + 1 + 1) mX7_told 129 [some (.ref (b + 0)), some (.int (zI l1)), some (.int (zI l2)), some (.int (zI l3)), none] [] T Q) ∧ (¬ 6 < l1 → ((¬ l1 = 3 → ((¬ l1 = 4 → ((¬ l1 = 5 → gC (tP sa) lM b E (d + 1) mX7_canDrop [.ref (b + 0), .int (zI l3)] T (fun r T105 => pI r (fun v105 => (-2147483648 ≤ v105 ∧ v105 < 2147483648) ∧ ((v105 = 0 → gW (tP sa) lM b E (d + 1 + 1) mX7_told 29 [some (.ref (b + 0)), some (.int (zI l1)), some (.int (zI (l2 + 0))), some (.int (zI (l3 + 1))), some (.int (zI v105))] [] T105 Q) ∧ (¬ v105 = 0 → gW (tP sa) lM b E (d + 1 + 1) mX7_told 29 [some (.ref (b + 0)), some (.int (zI l1)), some (.int (zI (l2 + 1))), some (.int (zI (l3 + 1))), some (.int (zI v105))] [] T105 Q))))) ∧ (l1 = 5 → gC (tP sa) lM b E (d + 1) mX7_canInline [.ref (b + 0), .int (zI l3)] T (fun r T97 => pI r (fun v97 => (-2147483648 ≤ v97 ∧ v97 < 2147483648) ∧ ((v97 = 0 → gW (tP sa) lM b E (d + 1 + 1) mX7_told 29 [some (.ref (b + 0)), some (.int (zI l1)), some (.int (zI (l2 + 0))), some (.int (zI (l3 + 1))), some (.int (zI v97))] [] T97 Q) ∧ (¬ v97 = 0 → gW (tP sa) lM b E (d + 1 + 1) mX7_told 29 [some (.ref (b + 0)), some (.int (zI l1)), some (.int (zI (l2 + 1))), some (.int (zI (l3 + 1))), some (.int (zI v97))] [] T97 Q))))))) ∧ (l1 = 4 → gC (tP sa) lM b E (d + 1) mX7_isSingle [.ref (b + 0), .int (zI l3)] T (fun r T84 => pI r (fun v84 => (-2147483648 ≤ v84 ∧ v84 < 2147483648) ∧ ((v84 = 0 → gW (tP sa) lM b E (d + 1 + 1) mX7_told 29 [some (.ref (b + 0)), some (.int (zI l1)), some (.int (zI (l2 + 0))), some (.int (zI (l3 + 1))), some (.int (zI v84))] [] T84 Q) ∧ (¬ v84 = 0 → gW (tP sa) lM b E (d + 1 + 1) mX7_told 29 [some (.ref (b + 0)), some (.int (zI l1)), some (.int (zI (l2 + 1))), some (.int (zI (l3 + 1))), some (.int (zI v84))] [] T84 Q))))))) ∧ (l1 = 3 → (vI T 0 3 = 0 ∨ vI T 0 3 = 1) ∧ (0 ≤ l3 ∧ l3 < 200) ∧ ((¬ (cV T (vI T 0 3).toNat l3.toNat 0) = 11 → gW (tP sa) lM b E (d + 1 + 1) mX7_told 29 [some (.ref (b + 0)), some (.int (zI l1)), some (.int (zI (l2 + 0))), some (.int (zI (l3 + 1))), some (.int (zI 0))] [] T Q) ∧ ((cV T (vI T 0 3).toNat l3.toNat 0) = 11 → gW (tP sa) lM b E (d + 1 + 1) mX7_told 29 [some (.ref (b + 0)), some (.int (zI l1)), some (.int (zI (l2 + 1))), some (.int (zI (l3 + 1))), some (.int (zI 1))] [] T Q))))))))))
set_option maxRecDepth 4000 in
theorem w_X7_told_29 {sa : Nat → Nat} {b : Nat} {E : Nat × mH} {d : Nat} {l1 : Int} {l2 : Int} {l3 : Int} {T : gT} {Q : Option Value → gT → Prop} (h : f_X7_told_29 sa b E d l1 l2 l3 T Q) : gW (tP sa) lM b E (d + 1 + 1) mX7_told 29 [some (.ref (b + 0)), some (.int (zI l1)), some (.int (zI l2)), some (.int (zI l3)), none] [] T Q := by
  unfold f_X7_told_29 at h
  refine g_iload_n dX7_told_29 rfl ?_
  refine g_aload_n dX7_told_30 rfl ?_
  refine g_getR dX7_told_31 tF_7_13 lM_0 rfl ?_
  refine g_aload_n dX7_told_34 rfl ?_
  refine g_getZ (v := vI T 0 3) dX7_told_35 tF_7_101 lM_0 rfl (zI_v T 0 3) ?_
  obtain ⟨a1, h⟩ := h
  obtain ⟨a2, h⟩ := h
  refine g_ialdZ (v := vI T 2 (vI T 0 3).toNat) dX7_told_38 lM_2 a1 a2 (by decide) (zI_v T 2 (vI T 0 3).toNat) ?_
  obtain ⟨a3, h⟩ := h
  refine g_icmp_geZ dX7_told_39 rfl a3 ⟨vI_lo _ _ _, vI_hi _ _ _⟩ (fun c39 => ?_) (fun c39 => ?_)
  · replace h := h.1 c39
    exact h
  · replace h := h.2 c39
    refine g_iload_n dX7_told_42 rfl ?_
    refine g_iconst (v := zI 3) dX7_told_43 (by decide) ?_
    obtain ⟨a4, h⟩ := h
    refine g_icmp_ltZ dX7_told_44 rfl a4 (by decide) (fun c44 => ?_) (fun c44 => ?_)
    · replace h := h.1 c44
      exact h
    · replace h := h.2 c44
      refine g_iload_n dX7_told_47 rfl ?_
      refine g_bipush (v := zI 6) dX7_told_48 (by decide) ?_
      refine g_icmp_gtZ dX7_told_50 rfl a4 (by decide) (fun c50 => ?_) (fun c50 => ?_)
      · replace h := h.1 c50
        exact h
      · replace h := h.2 c50
        refine g_iload_n dX7_told_53 rfl ?_
        refine g_iconst (v := zI 3) dX7_told_54 (by decide) ?_
        refine g_icmp_neZ dX7_told_55 rfl a4 (by decide) (fun c55 => ?_) (fun c55 => ?_)
        · replace h := h.1 c55
          refine g_iload_n dX7_told_77 rfl ?_
          refine g_iconst (v := zI 4) dX7_told_78 (by decide) ?_
          refine g_icmp_neZ dX7_told_79 rfl a4 (by decide) (fun c79 => ?_) (fun c79 => ?_)
          · replace h := h.1 c79
            refine g_iload_n dX7_told_90 rfl ?_
            refine g_iconst (v := zI 5) dX7_told_91 (by decide) ?_
            refine g_icmp_neZ dX7_told_92 rfl a4 (by decide) (fun c92 => ?_) (fun c92 => ?_)
            · replace h := h.1 c92
              refine g_aload_n dX7_told_103 rfl ?_
              refine g_iload_n dX7_told_104 rfl ?_
              refine g_callV [.ref (b + 0), .int (zI l3)] [] dX7_told_105 tG_7_259 tM_144 lM_0 rfl rfl rfl rfl (by decide) rfl ?_
              refine gC.mono h (Nat.le_refl _) ?_
              rintro _ T105 ⟨v105, rfl, h⟩
              refine g_istore (L' := [some (.ref (b + 0)), some (.int (zI l1)), some (.int (zI l2)), some (.int (zI l3)), some (.int (zI v105))]) dX7_told_108 rfl ?_
              refine g_iload_n dX7_told_110 rfl ?_
              refine g_iload dX7_told_111 rfl ?_
              obtain ⟨a5, h⟩ := h
              refine g_if_eqZ dX7_told_113 rfl a5  (fun c113 => ?_) (fun c113 => ?_)
              · replace h := h.1 c113
                refine g_iconst (v := zI 0) dX7_told_120 (by decide) ?_
                refine g_iaddZ dX7_told_121 ?_
                refine g_istore_n (L' := [some (.ref (b + 0)), some (.int (zI l1)), some (.int (zI (l2 + 0))), some (.int (zI l3)), some (.int (zI v105))]) dX7_told_122 rfl ?_
                refine g_iinc (x := zI l3) (v := zI (l3 + 1)) (L' := [some (.ref (b + 0)), some (.int (zI l1)), some (.int (zI (l2 + 0))), some (.int (zI (l3 + 1))), some (.int (zI v105))]) dX7_told_123 rfl (zI_add _ _) rfl ?_
                refine g_goto dX7_told_126 rfl ?_
                exact h
              · replace h := h.2 c113
                refine g_iconst (v := zI 1) dX7_told_116 (by decide) ?_
                refine g_goto dX7_told_117 rfl ?_
                refine g_iaddZ dX7_told_121 ?_
                refine g_istore_n (L' := [some (.ref (b + 0)), some (.int (zI l1)), some (.int (zI (l2 + 1))), some (.int (zI l3)), some (.int (zI v105))]) dX7_told_122 rfl ?_
                refine g_iinc (x := zI l3) (v := zI (l3 + 1)) (L' := [some (.ref (b + 0)), some (.int (zI l1)), some (.int (zI (l2 + 1))), some (.int (zI (l3 + 1))), some (.int (zI v105))]) dX7_told_123 rfl (zI_add _ _) rfl ?_
                refine g_goto dX7_told_126 rfl ?_
                exact h
            · replace h := h.2 c92
              refine g_aload_n dX7_told_95 rfl ?_
              refine g_iload_n dX7_told_96 rfl ?_
              refine g_callV [.ref (b + 0), .int (zI l3)] [] dX7_told_97 tG_7_256 tM_143 lM_0 rfl rfl rfl rfl (by decide) rfl ?_
              refine gC.mono h (Nat.le_refl _) ?_
              rintro _ T97 ⟨v97, rfl, h⟩
              refine g_goto dX7_told_100 rfl ?_
              refine g_istore (L' := [some (.ref (b + 0)), some (.int (zI l1)), some (.int (zI l2)), some (.int (zI l3)), some (.int (zI v97))]) dX7_told_108 rfl ?_
              refine g_iload_n dX7_told_110 rfl ?_
              refine g_iload dX7_told_111 rfl ?_
              obtain ⟨a6, h⟩ := h
              refine g_if_eqZ dX7_told_113 rfl a6  (fun c113 => ?_) (fun c113 => ?_)
              · replace h := h.1 c113
                refine g_iconst (v := zI 0) dX7_told_120 (by decide) ?_
                refine g_iaddZ dX7_told_121 ?_
                refine g_istore_n (L' := [some (.ref (b + 0)), some (.int (zI l1)), some (.int (zI (l2 + 0))), some (.int (zI l3)), some (.int (zI v97))]) dX7_told_122 rfl ?_
                refine g_iinc (x := zI l3) (v := zI (l3 + 1)) (L' := [some (.ref (b + 0)), some (.int (zI l1)), some (.int (zI (l2 + 0))), some (.int (zI (l3 + 1))), some (.int (zI v97))]) dX7_told_123 rfl (zI_add _ _) rfl ?_
                refine g_goto dX7_told_126 rfl ?_
                exact h
              · replace h := h.2 c113
                refine g_iconst (v := zI 1) dX7_told_116 (by decide) ?_
                refine g_goto dX7_told_117 rfl ?_
                refine g_iaddZ dX7_told_121 ?_
                refine g_istore_n (L' := [some (.ref (b + 0)), some (.int (zI l1)), some (.int (zI (l2 + 1))), some (.int (zI l3)), some (.int (zI v97))]) dX7_told_122 rfl ?_
                refine g_iinc (x := zI l3) (v := zI (l3 + 1)) (L' := [some (.ref (b + 0)), some (.int (zI l1)), some (.int (zI (l2 + 1))), some (.int (zI (l3 + 1))), some (.int (zI v97))]) dX7_told_123 rfl (zI_add _ _) rfl ?_
                refine g_goto dX7_told_126 rfl ?_
                exact h
          · replace h := h.2 c79
            refine g_aload_n dX7_told_82 rfl ?_
            refine g_iload_n dX7_told_83 rfl ?_
            refine g_callV [.ref (b + 0), .int (zI l3)] [] dX7_told_84 tG_7_247 tM_139 lM_0 rfl rfl rfl rfl (by decide) rfl ?_
            refine gC.mono h (Nat.le_refl _) ?_
            rintro _ T84 ⟨v84, rfl, h⟩
            refine g_goto dX7_told_87 rfl ?_
            refine g_istore (L' := [some (.ref (b + 0)), some (.int (zI l1)), some (.int (zI l2)), some (.int (zI l3)), some (.int (zI v84))]) dX7_told_108 rfl ?_
            refine g_iload_n dX7_told_110 rfl ?_
            refine g_iload dX7_told_111 rfl ?_
            obtain ⟨a7, h⟩ := h
            refine g_if_eqZ dX7_told_113 rfl a7  (fun c113 => ?_) (fun c113 => ?_)
            · replace h := h.1 c113
              refine g_iconst (v := zI 0) dX7_told_120 (by decide) ?_
              refine g_iaddZ dX7_told_121 ?_
              refine g_istore_n (L' := [some (.ref (b + 0)), some (.int (zI l1)), some (.int (zI (l2 + 0))), some (.int (zI l3)), some (.int (zI v84))]) dX7_told_122 rfl ?_
              refine g_iinc (x := zI l3) (v := zI (l3 + 1)) (L' := [some (.ref (b + 0)), some (.int (zI l1)), some (.int (zI (l2 + 0))), some (.int (zI (l3 + 1))), some (.int (zI v84))]) dX7_told_123 rfl (zI_add _ _) rfl ?_
              refine g_goto dX7_told_126 rfl ?_
              exact h
            · replace h := h.2 c113
              refine g_iconst (v := zI 1) dX7_told_116 (by decide) ?_
              refine g_goto dX7_told_117 rfl ?_
              refine g_iaddZ dX7_told_121 ?_
              refine g_istore_n (L' := [some (.ref (b + 0)), some (.int (zI l1)), some (.int (zI (l2 + 1))), some (.int (zI l3)), some (.int (zI v84))]) dX7_told_122 rfl ?_
              refine g_iinc (x := zI l3) (v := zI (l3 + 1)) (L' := [some (.ref (b + 0)), some (.int (zI l1)), some (.int (zI (l2 + 1))), some (.int (zI (l3 + 1))), some (.int (zI v84))]) dX7_told_123 rfl (zI_add _ _) rfl ?_
              refine g_goto dX7_told_126 rfl ?_
              exact h
        · replace h := h.2 c55
          refine g_aload_n dX7_told_58 rfl ?_
          refine g_iload_n dX7_told_59 rfl ?_
          refine g_iconst (v := zI 0) dX7_told_60 (by decide) ?_
          obtain ⟨a8, h⟩ := h
          obtain ⟨a9, h⟩ := h
          refine g_callV [.ref (b + 0), .int (zI l3), .int (zI 0)] [] dX7_told_61 tG_7_219 tM_113 lM_0 rfl rfl rfl rfl (by decide) rfl ?_
          refine gC.mono (c_getZ sa b E d _ (n := vI T 0 3) (by first | exact (zI_v _ _ _).symm | rfl) a8 a9 (by decide)) (Nat.le_refl _) ?_
          rintro _ _ ⟨rfl, h9⟩
          obtain rfl := h9.symm
          refine g_bipush (v := zI 11) dX7_told_64 (by decide) ?_
          refine g_icmp_neZ dX7_told_66 rfl ⟨vI_lo _ _ _, vI_hi _ _ _⟩ (by decide) (fun c66 => ?_) (fun c66 => ?_)
          · replace h := h.1 c66
            refine g_iconst (v := zI 0) dX7_told_73 (by decide) ?_
            refine g_goto dX7_told_74 rfl ?_
            refine g_istore (L' := [some (.ref (b + 0)), some (.int (zI l1)), some (.int (zI l2)), some (.int (zI l3)), some (.int (zI 0))]) dX7_told_108 rfl ?_
            refine g_iload_n dX7_told_110 rfl ?_
            refine g_iload dX7_told_111 rfl ?_
            refine g_if_y dX7_told_113 rfl (by decide) ?_
            refine g_iconst (v := zI 0) dX7_told_120 (by decide) ?_
            refine g_iaddZ dX7_told_121 ?_
            refine g_istore_n (L' := [some (.ref (b + 0)), some (.int (zI l1)), some (.int (zI (l2 + 0))), some (.int (zI l3)), some (.int (zI 0))]) dX7_told_122 rfl ?_
            refine g_iinc (x := zI l3) (v := zI (l3 + 1)) (L' := [some (.ref (b + 0)), some (.int (zI l1)), some (.int (zI (l2 + 0))), some (.int (zI (l3 + 1))), some (.int (zI 0))]) dX7_told_123 rfl (zI_add _ _) rfl ?_
            refine g_goto dX7_told_126 rfl ?_
            exact h
          · replace h := h.2 c66
            refine g_iconst (v := zI 1) dX7_told_69 (by decide) ?_
            refine g_goto dX7_told_70 rfl ?_
            refine g_istore (L' := [some (.ref (b + 0)), some (.int (zI l1)), some (.int (zI l2)), some (.int (zI l3)), some (.int (zI 1))]) dX7_told_108 rfl ?_
            refine g_iload_n dX7_told_110 rfl ?_
            refine g_iload dX7_told_111 rfl ?_
            refine g_if_no dX7_told_113 rfl (by decide) ?_
            refine g_iconst (v := zI 1) dX7_told_116 (by decide) ?_
            refine g_goto dX7_told_117 rfl ?_
            refine g_iaddZ dX7_told_121 ?_
            refine g_istore_n (L' := [some (.ref (b + 0)), some (.int (zI l1)), some (.int (zI (l2 + 1))), some (.int (zI l3)), some (.int (zI 1))]) dX7_told_122 rfl ?_
            refine g_iinc (x := zI l3) (v := zI (l3 + 1)) (L' := [some (.ref (b + 0)), some (.int (zI l1)), some (.int (zI (l2 + 1))), some (.int (zI (l3 + 1))), some (.int (zI 1))]) dX7_told_123 rfl (zI_add _ _) rfl ?_
            refine g_goto dX7_told_126 rfl ?_
            exact h
def f_X7_told_129 (sa : Nat → Nat) (b : Nat) (E : Nat × mH) (d : Nat) (l1 : Int) (l2 : Int) (l3 : Int) (T : gT) (Q : Option Value → gT → Prop) : Prop := (-2147483648 ≤ l1 ∧ l1 < 2147483648) ∧ ((¬ l1 = 0 → ((¬ l1 = 1 → ((¬ l1 = 2 → ((¬ l1 = 7 → Q (some (.int (zI l2))) T) ∧ (l1 = 7 → Q (some (.int (zI (vI T 0 17)))) T))) ∧ (l1 = 2 → 0 ≤ vI T 0 3 ∧ vI T 0 3 < 2 ∧ Q (some (.int (zI (vI T 3 (vI T 0 3).toNat)))) T))) ∧ (l1 = 1 → Q (some (.int (zI (vI T 0 8)))) T))) ∧ (l1 = 0 → 0 ≤ vI T 0 3 ∧ vI T 0 3 < 2 ∧ Q (some (.int (zI (vI T 2 (vI T 0 3).toNat)))) T))
set_option maxRecDepth 4000 in
theorem w_X7_told_129 {sa : Nat → Nat} {b : Nat} {E : Nat × mH} {d : Nat} {l1 : Int} {l2 : Int} {l3 : Int} {T : gT} {Q : Option Value → gT → Prop} (h : f_X7_told_129 sa b E d l1 l2 l3 T Q) : gW (tP sa) lM b E (d + 1 + 1) mX7_told 129 [some (.ref (b + 0)), some (.int (zI l1)), some (.int (zI l2)), some (.int (zI l3)), none] [] T Q := by
  unfold f_X7_told_129 at h
  refine g_iload_n dX7_told_129 rfl ?_
  obtain ⟨a1, h⟩ := h
  refine g_if_neZ dX7_told_130 rfl a1  (fun c130 => ?_) (fun c130 => ?_)
  · replace h := h.1 c130
    refine g_iload_n dX7_told_145 rfl ?_
    refine g_iconst (v := zI 1) dX7_told_146 (by decide) ?_
    refine g_icmp_neZ dX7_told_147 rfl a1 (by decide) (fun c147 => ?_) (fun c147 => ?_)
    · replace h := h.1 c147
      refine g_iload_n dX7_told_157 rfl ?_
      refine g_iconst (v := zI 2) dX7_told_158 (by decide) ?_
      refine g_icmp_neZ dX7_told_159 rfl a1 (by decide) (fun c159 => ?_) (fun c159 => ?_)
      · replace h := h.1 c159
        refine g_iload_n dX7_told_174 rfl ?_
        refine g_bipush (v := zI 7) dX7_told_175 (by decide) ?_
        refine g_icmp_neZ dX7_told_177 rfl a1 (by decide) (fun c177 => ?_) (fun c177 => ?_)
        · replace h := h.1 c177
          refine g_iload_n dX7_told_187 rfl ?_
          exact g_iret dX7_told_188 rfl rfl h
        · replace h := h.2 c177
          refine g_aload_n dX7_told_180 rfl ?_
          refine g_getZ (v := vI T 0 17) dX7_told_181 tF_7_209 lM_0 rfl (zI_v T 0 17) ?_
          refine g_goto dX7_told_184 rfl ?_
          exact g_iret dX7_told_188 rfl rfl h
      · replace h := h.2 c159
        refine g_aload_n dX7_told_162 rfl ?_
        refine g_getR dX7_told_163 tF_7_17 lM_0 rfl ?_
        refine g_aload_n dX7_told_166 rfl ?_
        refine g_getZ (v := vI T 0 3) dX7_told_167 tF_7_101 lM_0 rfl (zI_v T 0 3) ?_
        obtain ⟨a2, h⟩ := h
        obtain ⟨a3, h⟩ := h
        refine g_ialdZ (v := vI T 3 (vI T 0 3).toNat) dX7_told_170 lM_3 a2 a3 (by decide) (zI_v T 3 (vI T 0 3).toNat) ?_
        refine g_goto dX7_told_171 rfl ?_
        exact g_iret dX7_told_188 rfl rfl h
    · replace h := h.2 c147
      refine g_aload_n dX7_told_150 rfl ?_
      refine g_getZ (v := vI T 0 8) dX7_told_151 tF_7_216 lM_0 rfl (zI_v T 0 8) ?_
      refine g_goto dX7_told_154 rfl ?_
      exact g_iret dX7_told_188 rfl rfl h
  · replace h := h.2 c130
    refine g_aload_n dX7_told_133 rfl ?_
    refine g_getR dX7_told_134 tF_7_13 lM_0 rfl ?_
    refine g_aload_n dX7_told_137 rfl ?_
    refine g_getZ (v := vI T 0 3) dX7_told_138 tF_7_101 lM_0 rfl (zI_v T 0 3) ?_
    obtain ⟨a4, h⟩ := h
    obtain ⟨a5, h⟩ := h
    refine g_ialdZ (v := vI T 2 (vI T 0 3).toNat) dX7_told_141 lM_2 a4 a5 (by decide) (zI_v T 2 (vI T 0 3).toNat) ?_
    refine g_goto dX7_told_142 rfl ?_
    exact g_iret dX7_told_188 rfl rfl h
def f_X7_told_29b (sa : Nat → Nat) (b : Nat) (E : Nat × mH) (d : Nat) (l1 : Int) (l2 : Int) (l3 : Int) (l4 : Int) (T : gT) (Q : Option Value → gT → Prop) : Prop := 0 ≤ vI T 0 3 ∧ vI T 0 3 < 2 ∧ (-2147483648 ≤ l3 ∧ l3 < 2147483648) ∧ (((vI T 2 (vI T 0 3).toNat) ≤ l3 → gW (tP sa) lM b E (d + 1 + 1) mX7_told 129 [some (.ref (b + 0)), some (.int (zI l1)), some (.int (zI l2)), some (.int (zI l3)), some (.int (zI l4))] [] T Q) ∧ (¬ (vI T 2 (vI T 0 3).toNat) ≤ l3 → (-2147483648 ≤ l1 ∧ l1 < 2147483648) ∧ ((l1 < 3 → gW (tP sa) lM b E (d + 1 + 1) mX7_told 129 [some (.ref (b + 0)), some (.int (zI l1)), some (.int (zI l2)), some (.int (zI l3)), some (.int (zI l4))] [] T Q) ∧ (¬ l1 < 3 → ((6 < l1 → gW (tP sa) lM b E (d + 1 + 1) mX7_told 129 [some (.ref (b + 0)), some (.int (zI l1)), some (.int (zI l2)), some (.int (zI l3)), some (.int (zI l4))] [] T Q) ∧ (¬ 6 < l1 → ((¬ l1 = 3 → ((¬ l1 = 4 → ((¬ l1 = 5 → gC (tP sa) lM b E (d + 1) mX7_canDrop [.ref (b + 0), .int (zI l3)] T (fun r T105 => pI r (fun v105 => (-2147483648 ≤ v105 ∧ v105 < 2147483648) ∧ ((v105 = 0 → gW (tP sa) lM b E (d + 1 + 1) mX7_told 29 [some (.ref (b + 0)), some (.int (zI l1)), some (.int (zI (l2 + 0))), some (.int (zI (l3 + 1))), some (.int (zI v105))] [] T105 Q) ∧ (¬ v105 = 0 → gW (tP sa) lM b E (d + 1 + 1) mX7_told 29 [some (.ref (b + 0)), some (.int (zI l1)), some (.int (zI (l2 + 1))), some (.int (zI (l3 + 1))), some (.int (zI v105))] [] T105 Q))))) ∧ (l1 = 5 → gC (tP sa) lM b E (d + 1) mX7_canInline [.ref (b + 0), .int (zI l3)] T (fun r T97 => pI r (fun v97 => (-2147483648 ≤ v97 ∧ v97 < 2147483648) ∧ ((v97 = 0 → gW (tP sa) lM b E (d + 1 + 1) mX7_told 29 [some (.ref (b + 0)), some (.int (zI l1)), some (.int (zI (l2 + 0))), some (.int (zI (l3 + 1))), some (.int (zI v97))] [] T97 Q) ∧ (¬ v97 = 0 → gW (tP sa) lM b E (d + 1 + 1) mX7_told 29 [some (.ref (b + 0)), some (.int (zI l1)), some (.int (zI (l2 + 1))), some (.int (zI (l3 + 1))), some (.int (zI v97))] [] T97 Q))))))) ∧ (l1 = 4 → gC (tP sa) lM b E (d + 1) mX7_isSingle [.ref (b + 0), .int (zI l3)] T (fun r T84 => pI r (fun v84 => (-2147483648 ≤ v84 ∧ v84 < 2147483648) ∧ ((v84 = 0 → gW (tP sa) lM b E (d + 1 + 1) mX7_told 29 [some (.ref (b + 0)), some (.int (zI l1)), some (.int (zI (l2 + 0))), some (.int (zI (l3 + 1))), some (.int (zI v84))] [] T84 Q) ∧ (¬ v84 = 0 → gW (tP sa) lM b E (d + 1 + 1) mX7_told 29 [some (.ref (b + 0)), some (.int (zI l1)), some (.int (zI (l2 + 1))), some (.int (zI (l3 + 1))), some (.int (zI v84))] [] T84 Q))))))) ∧ (l1 = 3 → (vI T 0 3 = 0 ∨ vI T 0 3 = 1) ∧ (0 ≤ l3 ∧ l3 < 200) ∧ ((¬ (cV T (vI T 0 3).toNat l3.toNat 0) = 11 → gW (tP sa) lM b E (d + 1 + 1) mX7_told 29 [some (.ref (b + 0)), some (.int (zI l1)), some (.int (zI (l2 + 0))), some (.int (zI (l3 + 1))), some (.int (zI 0))] [] T Q) ∧ ((cV T (vI T 0 3).toNat l3.toNat 0) = 11 → gW (tP sa) lM b E (d + 1 + 1) mX7_told 29 [some (.ref (b + 0)), some (.int (zI l1)), some (.int (zI (l2 + 1))), some (.int (zI (l3 + 1))), some (.int (zI 1))] [] T Q))))))))))
set_option maxRecDepth 4000 in
theorem w_X7_told_29b {sa : Nat → Nat} {b : Nat} {E : Nat × mH} {d : Nat} {l1 : Int} {l2 : Int} {l3 : Int} {l4 : Int} {T : gT} {Q : Option Value → gT → Prop} (h : f_X7_told_29b sa b E d l1 l2 l3 l4 T Q) : gW (tP sa) lM b E (d + 1 + 1) mX7_told 29 [some (.ref (b + 0)), some (.int (zI l1)), some (.int (zI l2)), some (.int (zI l3)), some (.int (zI l4))] [] T Q := by
  unfold f_X7_told_29b at h
  refine g_iload_n dX7_told_29 rfl ?_
  refine g_aload_n dX7_told_30 rfl ?_
  refine g_getR dX7_told_31 tF_7_13 lM_0 rfl ?_
  refine g_aload_n dX7_told_34 rfl ?_
  refine g_getZ (v := vI T 0 3) dX7_told_35 tF_7_101 lM_0 rfl (zI_v T 0 3) ?_
  obtain ⟨a1, h⟩ := h
  obtain ⟨a2, h⟩ := h
  refine g_ialdZ (v := vI T 2 (vI T 0 3).toNat) dX7_told_38 lM_2 a1 a2 (by decide) (zI_v T 2 (vI T 0 3).toNat) ?_
  obtain ⟨a3, h⟩ := h
  refine g_icmp_geZ dX7_told_39 rfl a3 ⟨vI_lo _ _ _, vI_hi _ _ _⟩ (fun c39 => ?_) (fun c39 => ?_)
  · replace h := h.1 c39
    exact h
  · replace h := h.2 c39
    refine g_iload_n dX7_told_42 rfl ?_
    refine g_iconst (v := zI 3) dX7_told_43 (by decide) ?_
    obtain ⟨a4, h⟩ := h
    refine g_icmp_ltZ dX7_told_44 rfl a4 (by decide) (fun c44 => ?_) (fun c44 => ?_)
    · replace h := h.1 c44
      exact h
    · replace h := h.2 c44
      refine g_iload_n dX7_told_47 rfl ?_
      refine g_bipush (v := zI 6) dX7_told_48 (by decide) ?_
      refine g_icmp_gtZ dX7_told_50 rfl a4 (by decide) (fun c50 => ?_) (fun c50 => ?_)
      · replace h := h.1 c50
        exact h
      · replace h := h.2 c50
        refine g_iload_n dX7_told_53 rfl ?_
        refine g_iconst (v := zI 3) dX7_told_54 (by decide) ?_
        refine g_icmp_neZ dX7_told_55 rfl a4 (by decide) (fun c55 => ?_) (fun c55 => ?_)
        · replace h := h.1 c55
          refine g_iload_n dX7_told_77 rfl ?_
          refine g_iconst (v := zI 4) dX7_told_78 (by decide) ?_
          refine g_icmp_neZ dX7_told_79 rfl a4 (by decide) (fun c79 => ?_) (fun c79 => ?_)
          · replace h := h.1 c79
            refine g_iload_n dX7_told_90 rfl ?_
            refine g_iconst (v := zI 5) dX7_told_91 (by decide) ?_
            refine g_icmp_neZ dX7_told_92 rfl a4 (by decide) (fun c92 => ?_) (fun c92 => ?_)
            · replace h := h.1 c92
              refine g_aload_n dX7_told_103 rfl ?_
              refine g_iload_n dX7_told_104 rfl ?_
              refine g_callV [.ref (b + 0), .int (zI l3)] [] dX7_told_105 tG_7_259 tM_144 lM_0 rfl rfl rfl rfl (by decide) rfl ?_
              refine gC.mono h (Nat.le_refl _) ?_
              rintro _ T105 ⟨v105, rfl, h⟩
              refine g_istore (L' := [some (.ref (b + 0)), some (.int (zI l1)), some (.int (zI l2)), some (.int (zI l3)), some (.int (zI v105))]) dX7_told_108 rfl ?_
              refine g_iload_n dX7_told_110 rfl ?_
              refine g_iload dX7_told_111 rfl ?_
              obtain ⟨a5, h⟩ := h
              refine g_if_eqZ dX7_told_113 rfl a5  (fun c113 => ?_) (fun c113 => ?_)
              · replace h := h.1 c113
                refine g_iconst (v := zI 0) dX7_told_120 (by decide) ?_
                refine g_iaddZ dX7_told_121 ?_
                refine g_istore_n (L' := [some (.ref (b + 0)), some (.int (zI l1)), some (.int (zI (l2 + 0))), some (.int (zI l3)), some (.int (zI v105))]) dX7_told_122 rfl ?_
                refine g_iinc (x := zI l3) (v := zI (l3 + 1)) (L' := [some (.ref (b + 0)), some (.int (zI l1)), some (.int (zI (l2 + 0))), some (.int (zI (l3 + 1))), some (.int (zI v105))]) dX7_told_123 rfl (zI_add _ _) rfl ?_
                refine g_goto dX7_told_126 rfl ?_
                exact h
              · replace h := h.2 c113
                refine g_iconst (v := zI 1) dX7_told_116 (by decide) ?_
                refine g_goto dX7_told_117 rfl ?_
                refine g_iaddZ dX7_told_121 ?_
                refine g_istore_n (L' := [some (.ref (b + 0)), some (.int (zI l1)), some (.int (zI (l2 + 1))), some (.int (zI l3)), some (.int (zI v105))]) dX7_told_122 rfl ?_
                refine g_iinc (x := zI l3) (v := zI (l3 + 1)) (L' := [some (.ref (b + 0)), some (.int (zI l1)), some (.int (zI (l2 + 1))), some (.int (zI (l3 + 1))), some (.int (zI v105))]) dX7_told_123 rfl (zI_add _ _) rfl ?_
                refine g_goto dX7_told_126 rfl ?_
                exact h
            · replace h := h.2 c92
              refine g_aload_n dX7_told_95 rfl ?_
              refine g_iload_n dX7_told_96 rfl ?_
              refine g_callV [.ref (b + 0), .int (zI l3)] [] dX7_told_97 tG_7_256 tM_143 lM_0 rfl rfl rfl rfl (by decide) rfl ?_
              refine gC.mono h (Nat.le_refl _) ?_
              rintro _ T97 ⟨v97, rfl, h⟩
              refine g_goto dX7_told_100 rfl ?_
              refine g_istore (L' := [some (.ref (b + 0)), some (.int (zI l1)), some (.int (zI l2)), some (.int (zI l3)), some (.int (zI v97))]) dX7_told_108 rfl ?_
              refine g_iload_n dX7_told_110 rfl ?_
              refine g_iload dX7_told_111 rfl ?_
              obtain ⟨a6, h⟩ := h
              refine g_if_eqZ dX7_told_113 rfl a6  (fun c113 => ?_) (fun c113 => ?_)
              · replace h := h.1 c113
                refine g_iconst (v := zI 0) dX7_told_120 (by decide) ?_
                refine g_iaddZ dX7_told_121 ?_
                refine g_istore_n (L' := [some (.ref (b + 0)), some (.int (zI l1)), some (.int (zI (l2 + 0))), some (.int (zI l3)), some (.int (zI v97))]) dX7_told_122 rfl ?_
                refine g_iinc (x := zI l3) (v := zI (l3 + 1)) (L' := [some (.ref (b + 0)), some (.int (zI l1)), some (.int (zI (l2 + 0))), some (.int (zI (l3 + 1))), some (.int (zI v97))]) dX7_told_123 rfl (zI_add _ _) rfl ?_
                refine g_goto dX7_told_126 rfl ?_
                exact h
              · replace h := h.2 c113
                refine g_iconst (v := zI 1) dX7_told_116 (by decide) ?_
                refine g_goto dX7_told_117 rfl ?_
                refine g_iaddZ dX7_told_121 ?_
                refine g_istore_n (L' := [some (.ref (b + 0)), some (.int (zI l1)), some (.int (zI (l2 + 1))), some (.int (zI l3)), some (.int (zI v97))]) dX7_told_122 rfl ?_
                refine g_iinc (x := zI l3) (v := zI (l3 + 1)) (L' := [some (.ref (b + 0)), some (.int (zI l1)), some (.int (zI (l2 + 1))), some (.int (zI (l3 + 1))), some (.int (zI v97))]) dX7_told_123 rfl (zI_add _ _) rfl ?_
                refine g_goto dX7_told_126 rfl ?_
                exact h
          · replace h := h.2 c79
            refine g_aload_n dX7_told_82 rfl ?_
            refine g_iload_n dX7_told_83 rfl ?_
            refine g_callV [.ref (b + 0), .int (zI l3)] [] dX7_told_84 tG_7_247 tM_139 lM_0 rfl rfl rfl rfl (by decide) rfl ?_
            refine gC.mono h (Nat.le_refl _) ?_
            rintro _ T84 ⟨v84, rfl, h⟩
            refine g_goto dX7_told_87 rfl ?_
            refine g_istore (L' := [some (.ref (b + 0)), some (.int (zI l1)), some (.int (zI l2)), some (.int (zI l3)), some (.int (zI v84))]) dX7_told_108 rfl ?_
            refine g_iload_n dX7_told_110 rfl ?_
            refine g_iload dX7_told_111 rfl ?_
            obtain ⟨a7, h⟩ := h
            refine g_if_eqZ dX7_told_113 rfl a7  (fun c113 => ?_) (fun c113 => ?_)
            · replace h := h.1 c113
              refine g_iconst (v := zI 0) dX7_told_120 (by decide) ?_
              refine g_iaddZ dX7_told_121 ?_
              refine g_istore_n (L' := [some (.ref (b + 0)), some (.int (zI l1)), some (.int (zI (l2 + 0))), some (.int (zI l3)), some (.int (zI v84))]) dX7_told_122 rfl ?_
              refine g_iinc (x := zI l3) (v := zI (l3 + 1)) (L' := [some (.ref (b + 0)), some (.int (zI l1)), some (.int (zI (l2 + 0))), some (.int (zI (l3 + 1))), some (.int (zI v84))]) dX7_told_123 rfl (zI_add _ _) rfl ?_
              refine g_goto dX7_told_126 rfl ?_
              exact h
            · replace h := h.2 c113
              refine g_iconst (v := zI 1) dX7_told_116 (by decide) ?_
              refine g_goto dX7_told_117 rfl ?_
              refine g_iaddZ dX7_told_121 ?_
              refine g_istore_n (L' := [some (.ref (b + 0)), some (.int (zI l1)), some (.int (zI (l2 + 1))), some (.int (zI l3)), some (.int (zI v84))]) dX7_told_122 rfl ?_
              refine g_iinc (x := zI l3) (v := zI (l3 + 1)) (L' := [some (.ref (b + 0)), some (.int (zI l1)), some (.int (zI (l2 + 1))), some (.int (zI (l3 + 1))), some (.int (zI v84))]) dX7_told_123 rfl (zI_add _ _) rfl ?_
              refine g_goto dX7_told_126 rfl ?_
              exact h
        · replace h := h.2 c55
          refine g_aload_n dX7_told_58 rfl ?_
          refine g_iload_n dX7_told_59 rfl ?_
          refine g_iconst (v := zI 0) dX7_told_60 (by decide) ?_
          obtain ⟨a8, h⟩ := h
          obtain ⟨a9, h⟩ := h
          refine g_callV [.ref (b + 0), .int (zI l3), .int (zI 0)] [] dX7_told_61 tG_7_219 tM_113 lM_0 rfl rfl rfl rfl (by decide) rfl ?_
          refine gC.mono (c_getZ sa b E d _ (n := vI T 0 3) (by first | exact (zI_v _ _ _).symm | rfl) a8 a9 (by decide)) (Nat.le_refl _) ?_
          rintro _ _ ⟨rfl, h9⟩
          obtain rfl := h9.symm
          refine g_bipush (v := zI 11) dX7_told_64 (by decide) ?_
          refine g_icmp_neZ dX7_told_66 rfl ⟨vI_lo _ _ _, vI_hi _ _ _⟩ (by decide) (fun c66 => ?_) (fun c66 => ?_)
          · replace h := h.1 c66
            refine g_iconst (v := zI 0) dX7_told_73 (by decide) ?_
            refine g_goto dX7_told_74 rfl ?_
            refine g_istore (L' := [some (.ref (b + 0)), some (.int (zI l1)), some (.int (zI l2)), some (.int (zI l3)), some (.int (zI 0))]) dX7_told_108 rfl ?_
            refine g_iload_n dX7_told_110 rfl ?_
            refine g_iload dX7_told_111 rfl ?_
            refine g_if_y dX7_told_113 rfl (by decide) ?_
            refine g_iconst (v := zI 0) dX7_told_120 (by decide) ?_
            refine g_iaddZ dX7_told_121 ?_
            refine g_istore_n (L' := [some (.ref (b + 0)), some (.int (zI l1)), some (.int (zI (l2 + 0))), some (.int (zI l3)), some (.int (zI 0))]) dX7_told_122 rfl ?_
            refine g_iinc (x := zI l3) (v := zI (l3 + 1)) (L' := [some (.ref (b + 0)), some (.int (zI l1)), some (.int (zI (l2 + 0))), some (.int (zI (l3 + 1))), some (.int (zI 0))]) dX7_told_123 rfl (zI_add _ _) rfl ?_
            refine g_goto dX7_told_126 rfl ?_
            exact h
          · replace h := h.2 c66
            refine g_iconst (v := zI 1) dX7_told_69 (by decide) ?_
            refine g_goto dX7_told_70 rfl ?_
            refine g_istore (L' := [some (.ref (b + 0)), some (.int (zI l1)), some (.int (zI l2)), some (.int (zI l3)), some (.int (zI 1))]) dX7_told_108 rfl ?_
            refine g_iload_n dX7_told_110 rfl ?_
            refine g_iload dX7_told_111 rfl ?_
            refine g_if_no dX7_told_113 rfl (by decide) ?_
            refine g_iconst (v := zI 1) dX7_told_116 (by decide) ?_
            refine g_goto dX7_told_117 rfl ?_
            refine g_iaddZ dX7_told_121 ?_
            refine g_istore_n (L' := [some (.ref (b + 0)), some (.int (zI l1)), some (.int (zI (l2 + 1))), some (.int (zI l3)), some (.int (zI 1))]) dX7_told_122 rfl ?_
            refine g_iinc (x := zI l3) (v := zI (l3 + 1)) (L' := [some (.ref (b + 0)), some (.int (zI l1)), some (.int (zI (l2 + 1))), some (.int (zI (l3 + 1))), some (.int (zI 1))]) dX7_told_123 rfl (zI_add _ _) rfl ?_
            refine g_goto dX7_told_126 rfl ?_
            exact h
def f_X7_told_129b (sa : Nat → Nat) (b : Nat) (E : Nat × mH) (d : Nat) (l1 : Int) (l2 : Int) (l3 : Int) (l4 : Int) (T : gT) (Q : Option Value → gT → Prop) : Prop := (-2147483648 ≤ l1 ∧ l1 < 2147483648) ∧ ((¬ l1 = 0 → ((¬ l1 = 1 → ((¬ l1 = 2 → ((¬ l1 = 7 → Q (some (.int (zI l2))) T) ∧ (l1 = 7 → Q (some (.int (zI (vI T 0 17)))) T))) ∧ (l1 = 2 → 0 ≤ vI T 0 3 ∧ vI T 0 3 < 2 ∧ Q (some (.int (zI (vI T 3 (vI T 0 3).toNat)))) T))) ∧ (l1 = 1 → Q (some (.int (zI (vI T 0 8)))) T))) ∧ (l1 = 0 → 0 ≤ vI T 0 3 ∧ vI T 0 3 < 2 ∧ Q (some (.int (zI (vI T 2 (vI T 0 3).toNat)))) T))
set_option maxRecDepth 4000 in
theorem w_X7_told_129b {sa : Nat → Nat} {b : Nat} {E : Nat × mH} {d : Nat} {l1 : Int} {l2 : Int} {l3 : Int} {l4 : Int} {T : gT} {Q : Option Value → gT → Prop} (h : f_X7_told_129b sa b E d l1 l2 l3 l4 T Q) : gW (tP sa) lM b E (d + 1 + 1) mX7_told 129 [some (.ref (b + 0)), some (.int (zI l1)), some (.int (zI l2)), some (.int (zI l3)), some (.int (zI l4))] [] T Q := by
  unfold f_X7_told_129b at h
  refine g_iload_n dX7_told_129 rfl ?_
  obtain ⟨a1, h⟩ := h
  refine g_if_neZ dX7_told_130 rfl a1  (fun c130 => ?_) (fun c130 => ?_)
  · replace h := h.1 c130
    refine g_iload_n dX7_told_145 rfl ?_
    refine g_iconst (v := zI 1) dX7_told_146 (by decide) ?_
    refine g_icmp_neZ dX7_told_147 rfl a1 (by decide) (fun c147 => ?_) (fun c147 => ?_)
    · replace h := h.1 c147
      refine g_iload_n dX7_told_157 rfl ?_
      refine g_iconst (v := zI 2) dX7_told_158 (by decide) ?_
      refine g_icmp_neZ dX7_told_159 rfl a1 (by decide) (fun c159 => ?_) (fun c159 => ?_)
      · replace h := h.1 c159
        refine g_iload_n dX7_told_174 rfl ?_
        refine g_bipush (v := zI 7) dX7_told_175 (by decide) ?_
        refine g_icmp_neZ dX7_told_177 rfl a1 (by decide) (fun c177 => ?_) (fun c177 => ?_)
        · replace h := h.1 c177
          refine g_iload_n dX7_told_187 rfl ?_
          exact g_iret dX7_told_188 rfl rfl h
        · replace h := h.2 c177
          refine g_aload_n dX7_told_180 rfl ?_
          refine g_getZ (v := vI T 0 17) dX7_told_181 tF_7_209 lM_0 rfl (zI_v T 0 17) ?_
          refine g_goto dX7_told_184 rfl ?_
          exact g_iret dX7_told_188 rfl rfl h
      · replace h := h.2 c159
        refine g_aload_n dX7_told_162 rfl ?_
        refine g_getR dX7_told_163 tF_7_17 lM_0 rfl ?_
        refine g_aload_n dX7_told_166 rfl ?_
        refine g_getZ (v := vI T 0 3) dX7_told_167 tF_7_101 lM_0 rfl (zI_v T 0 3) ?_
        obtain ⟨a2, h⟩ := h
        obtain ⟨a3, h⟩ := h
        refine g_ialdZ (v := vI T 3 (vI T 0 3).toNat) dX7_told_170 lM_3 a2 a3 (by decide) (zI_v T 3 (vI T 0 3).toNat) ?_
        refine g_goto dX7_told_171 rfl ?_
        exact g_iret dX7_told_188 rfl rfl h
    · replace h := h.2 c147
      refine g_aload_n dX7_told_150 rfl ?_
      refine g_getZ (v := vI T 0 8) dX7_told_151 tF_7_216 lM_0 rfl (zI_v T 0 8) ?_
      refine g_goto dX7_told_154 rfl ?_
      exact g_iret dX7_told_188 rfl rfl h
  · replace h := h.2 c130
    refine g_aload_n dX7_told_133 rfl ?_
    refine g_getR dX7_told_134 tF_7_13 lM_0 rfl ?_
    refine g_aload_n dX7_told_137 rfl ?_
    refine g_getZ (v := vI T 0 3) dX7_told_138 tF_7_101 lM_0 rfl (zI_v T 0 3) ?_
    obtain ⟨a4, h⟩ := h
    obtain ⟨a5, h⟩ := h
    refine g_ialdZ (v := vI T 2 (vI T 0 3).toNat) dX7_told_141 lM_2 a4 a5 (by decide) (zI_v T 2 (vI T 0 3).toNat) ?_
    refine g_goto dX7_told_142 rfl ?_
    exact g_iret dX7_told_188 rfl rfl h
def f_X7_result (sa : Nat → Nat) (b : Nat) (E : Nat × mH) (d : Nat) (T : gT) (Q : Option Value → gT → Prop) : Prop := (((vI T 0 16) = 0 → Q (some (.long 0)) (gI T 0 0 (zI 0))) ∧ (¬ (vI T 0 16) = 0 → Q (some (.long (T.2.1 0 18))) (gI T 0 0 (zI 0))))
set_option maxRecDepth 4000 in
theorem w_X7_result {sa : Nat → Nat} {b : Nat} {E : Nat × mH} {d : Nat} {T : gT} {Q : Option Value → gT → Prop} (h : f_X7_result sa b E d T Q) : gC (tP sa) lM b E d mX7_result [.ref (b + 0)] T Q := by
  unfold f_X7_result at h
  refine ⟨Nat.le_of_ble_eq_true rfl, ?_⟩
  show gW (tP sa) lM b E d mX7_result 0 [some (.ref (b + 0))] [] T Q
  refine g_aload_n dX7_result_0 rfl ?_
  refine g_iconst (v := zI 0) dX7_result_1 (by decide) ?_
  refine g_putI dX7_result_2 tF_7_97 lM_0 rfl rfl ⟨rfl, rfl⟩ rfl ?_
  refine g_aload_n dX7_result_5 rfl ?_
  refine g_getZ (v := vI T 0 16) dX7_result_6 tF_7_206 lM_0 rfl (zI_v T 0 16) ?_
  refine g_if_eqZ dX7_result_9 rfl ⟨vI_lo _ _ _, vI_hi _ _ _⟩  (fun c9 => ?_) (fun c9 => ?_)
  · replace h := h.1 c9
    refine g_lconst (v := 0) dX7_result_19 (by decide) ?_
    exact g_lret dX7_result_20 rfl h
  · replace h := h.2 c9
    refine g_aload_n dX7_result_12 rfl ?_
    refine g_getJv (v := T.2.1 0 18) dX7_result_13 tF_7_212 lM_0 rfl rfl ?_
    refine g_goto dX7_result_16 rfl ?_
    exact g_lret dX7_result_20 rfl h
def f_X7_used (sa : Nat → Nat) (b : Nat) (E : Nat × mH) (d : Nat) (l1 : Int) (T : gT) (Q : Option Value → gT → Prop) : Prop := (((vI T 0 16) = 0 → Q (some (.long 0)) (gI T 0 0 (zI 0))) ∧ (¬ (vI T 0 16) = 0 → gC (tP sa) lM b E d mX7_isLabel [.ref (b + 0), .int (zI l1)] (gI T 0 0 (zI 0)) (fun r T14 => pI r (fun v14 => (-2147483648 ≤ v14 ∧ v14 < 2147483648) ∧ ((v14 = 0 → Q (some (.long 0)) T14) ∧ (¬ v14 = 0 → 0 ≤ l1 ∧ l1 < 200 ∧ Q (some (.long (T14.2.1 12 l1.toNat))) T14))))))
set_option maxRecDepth 4000 in
theorem w_X7_used {sa : Nat → Nat} {b : Nat} {E : Nat × mH} {d : Nat} {l1 : Int} {T : gT} {Q : Option Value → gT → Prop} (h : f_X7_used sa b E d l1 T Q) : gC (tP sa) lM b E (d + 1) mX7_used [.ref (b + 0), .int (zI l1)] T Q := by
  unfold f_X7_used at h
  refine ⟨Nat.le_of_ble_eq_true rfl, ?_⟩
  show gW (tP sa) lM b E (d + 1) mX7_used 0 [some (.ref (b + 0)), some (.int (zI l1))] [] T Q
  refine g_aload_n dX7_used_0 rfl ?_
  refine g_iconst (v := zI 0) dX7_used_1 (by decide) ?_
  refine g_putI dX7_used_2 tF_7_97 lM_0 rfl rfl ⟨rfl, rfl⟩ rfl ?_
  refine g_aload_n dX7_used_5 rfl ?_
  refine g_getZ (v := vI T 0 16) dX7_used_6 tF_7_206 lM_0 rfl (zI_v T 0 16) ?_
  refine g_if_eqZ dX7_used_9 rfl ⟨vI_lo _ _ _, vI_hi _ _ _⟩  (fun c9 => ?_) (fun c9 => ?_)
  · replace h := h.1 c9
    refine g_lconst (v := 0) dX7_used_29 (by decide) ?_
    exact g_lret dX7_used_30 rfl h
  · replace h := h.2 c9
    refine g_aload_n dX7_used_12 rfl ?_
    refine g_iload_n dX7_used_13 rfl ?_
    refine g_callV [.ref (b + 0), .int (zI l1)] [] dX7_used_14 tG_7_262 tM_136 lM_0 rfl rfl rfl rfl (by decide) rfl ?_
    refine gC.mono h (Nat.le_refl _) ?_
    rintro _ T14 ⟨v14, rfl, h⟩
    obtain ⟨a1, h⟩ := h
    refine g_if_eqZ dX7_used_17 rfl a1  (fun c17 => ?_) (fun c17 => ?_)
    · replace h := h.1 c17
      refine g_lconst (v := 0) dX7_used_29 (by decide) ?_
      exact g_lret dX7_used_30 rfl h
    · replace h := h.2 c17
      refine g_aload_n dX7_used_20 rfl ?_
      refine g_getR dX7_used_21 tF_7_45 lM_0 rfl ?_
      refine g_iload_n dX7_used_24 rfl ?_
      obtain ⟨a2, h⟩ := h
      obtain ⟨a3, h⟩ := h
      refine g_laldZ (v := T14.2.1 12 l1.toNat) dX7_used_25 lM_12 a2 a3 (by decide) rfl ?_
      refine g_goto dX7_used_26 rfl ?_
      exact g_lret dX7_used_30 rfl h
def f_X7_fresh (sa : Nat → Nat) (b : Nat) (E : Nat × mH) (d : Nat) (T : gT) (Q : Option Value → gT → Prop) : Prop := 0 ≤ 1 - (vI T 0 3) ∧ 1 - (vI T 0 3) < 2 ∧ ((¬ (vI T 0 49) = 0 → gW (tP sa) lM b E d mX7_fresh 26 [some (.ref (b + 0)), some (.int (zI (vI T 3 (1 - (vI T 0 3)).toNat)))] [.ref (b + 0)] T Q) ∧ ((vI T 0 49) = 0 → ((¬ (vI T 3 (1 - (vI T 0 3)).toNat) = 100 → gW (tP sa) lM b E d mX7_fresh 31 [some (.ref (b + 0)), some (.int (zI (vI T 3 (1 - (vI T 0 3)).toNat)))] [.int (zI 0), .ref (b + 0)] T Q) ∧ ((vI T 3 (1 - (vI T 0 3)).toNat) = 100 → gW (tP sa) lM b E d mX7_fresh 26 [some (.ref (b + 0)), some (.int (zI (vI T 3 (1 - (vI T 0 3)).toNat)))] [.ref (b + 0)] T Q))))
set_option maxRecDepth 4000 in
theorem w_X7_fresh {sa : Nat → Nat} {b : Nat} {E : Nat × mH} {d : Nat} {T : gT} {Q : Option Value → gT → Prop} (h : f_X7_fresh sa b E d T Q) : gC (tP sa) lM b E d mX7_fresh [.ref (b + 0)] T Q := by
  unfold f_X7_fresh at h
  refine ⟨Nat.le_of_ble_eq_true rfl, ?_⟩
  show gW (tP sa) lM b E d mX7_fresh 0 [some (.ref (b + 0)), none] [] T Q
  refine g_aload_n dX7_fresh_0 rfl ?_
  refine g_getR dX7_fresh_1 tF_7_17 lM_0 rfl ?_
  refine g_iconst (v := zI 1) dX7_fresh_4 (by decide) ?_
  refine g_aload_n dX7_fresh_5 rfl ?_
  refine g_getZ (v := vI T 0 3) dX7_fresh_6 tF_7_101 lM_0 rfl (zI_v T 0 3) ?_
  refine g_isubZ dX7_fresh_9 ?_
  obtain ⟨a1, h⟩ := h
  obtain ⟨a2, h⟩ := h
  refine g_ialdZ (v := vI T 3 (1 - (vI T 0 3)).toNat) dX7_fresh_10 lM_3 a1 a2 (by decide) (zI_v T 3 (1 - (vI T 0 3)).toNat) ?_
  refine g_istore_n (L' := [some (.ref (b + 0)), some (.int (zI (vI T 3 (1 - (vI T 0 3)).toNat)))]) dX7_fresh_11 rfl ?_
  refine g_aload_n dX7_fresh_12 rfl ?_
  refine g_aload_n dX7_fresh_13 rfl ?_
  refine g_getZ (v := vI T 0 49) dX7_fresh_14 tF_7_309 lM_0 rfl (zI_v T 0 49) ?_
  refine g_if_neZ dX7_fresh_17 rfl ⟨vI_lo _ _ _, vI_hi _ _ _⟩  (fun c17 => ?_) (fun c17 => ?_)
  · replace h := h.1 c17
    exact h
  · replace h := h.2 c17
    refine g_iload_n dX7_fresh_20 rfl ?_
    refine g_bipush (v := zI 100) dX7_fresh_21 (by decide) ?_
    refine g_icmp_neZ dX7_fresh_23 rfl ⟨vI_lo _ _ _, vI_hi _ _ _⟩ (by decide) (fun c23 => ?_) (fun c23 => ?_)
    · replace h := h.1 c23
      refine g_iconst (v := zI 0) dX7_fresh_30 (by decide) ?_
      exact h
    · replace h := h.2 c23
      exact h
def f_X7_fresh_26 (sa : Nat → Nat) (b : Nat) (E : Nat × mH) (d : Nat) (l1 : Int) (T : gT) (Q : Option Value → gT → Prop) : Prop := gW (tP sa) lM b E d mX7_fresh 31 [some (.ref (b + 0)), some (.int (zI l1))] [.int (zI 1), .ref (b + 0)] T Q
set_option maxRecDepth 4000 in
theorem w_X7_fresh_26 {sa : Nat → Nat} {b : Nat} {E : Nat × mH} {d : Nat} {l1 : Int} {T : gT} {Q : Option Value → gT → Prop} (h : f_X7_fresh_26 sa b E d l1 T Q) : gW (tP sa) lM b E d mX7_fresh 26 [some (.ref (b + 0)), some (.int (zI l1))] [.ref (b + 0)] T Q := by
  unfold f_X7_fresh_26 at h
  refine g_iconst (v := zI 1) dX7_fresh_26 (by decide) ?_
  refine g_goto dX7_fresh_27 rfl ?_
  exact h
def f_X7_fresh_31 (sa : Nat → Nat) (b : Nat) (E : Nat × mH) (d : Nat) (l1 : Int) (s0 : Int) (T : gT) (Q : Option Value → gT → Prop) : Prop := (s0 = 0 ∨ s0 = 1) ∧ 0 ≤ 1 - (vI T 0 3) ∧ 1 - (vI T 0 3) < 2 ∧ (-2147483648 ≤ s0 ∧ s0 < 2147483648) ∧ ((s0 = 0 → Q (some (.int (zI l1))) (gI (gI T 0 49 (zI s0)) 3 (1 - (vI T 0 3)).toNat (zI ((vI T 3 (1 - (vI T 0 3)).toNat) + 1)))) ∧ (¬ s0 = 0 → Q (some (.int (zI l1))) (gI (gI T 0 49 (zI s0)) 3 (1 - (vI T 0 3)).toNat (zI ((vI T 3 (1 - (vI T 0 3)).toNat) + 0)))))
set_option maxRecDepth 4000 in
theorem w_X7_fresh_31 {sa : Nat → Nat} {b : Nat} {E : Nat × mH} {d : Nat} {l1 : Int} {s0 : Int} {T : gT} {Q : Option Value → gT → Prop} (h : f_X7_fresh_31 sa b E d l1 s0 T Q) : gW (tP sa) lM b E d mX7_fresh 31 [some (.ref (b + 0)), some (.int (zI l1))] [.int (zI s0), .ref (b + 0)] T Q := by
  unfold f_X7_fresh_31 at h
  obtain ⟨a1, h⟩ := h
  refine g_putI dX7_fresh_31 tF_7_309 lM_0 rfl rfl (fit_z a1) rfl ?_
  refine g_aload_n dX7_fresh_34 rfl ?_
  refine g_getR dX7_fresh_35 tF_7_17 lM_0 rfl ?_
  refine g_iconst (v := zI 1) dX7_fresh_38 (by decide) ?_
  refine g_aload_n dX7_fresh_39 rfl ?_
  refine g_getZ (v := vI T 0 3) dX7_fresh_40 tF_7_101 lM_0 rfl (zI_v T 0 3) ?_
  refine g_isubZ dX7_fresh_43 ?_
  refine g_dup2 dX7_fresh_44 rfl rfl ?_
  obtain ⟨a2, h⟩ := h
  obtain ⟨a3, h⟩ := h
  refine g_ialdZ (v := vI T 3 (1 - (vI T 0 3)).toNat) dX7_fresh_45 lM_3 a2 a3 (by decide) (zI_v T 3 (1 - (vI T 0 3)).toNat) ?_
  refine g_aload_n dX7_fresh_46 rfl ?_
  refine g_getZ (v := s0) dX7_fresh_47 tF_7_309 lM_0 rfl rfl ?_
  obtain ⟨a4, h⟩ := h
  refine g_if_eqZ dX7_fresh_50 rfl a4  (fun c50 => ?_) (fun c50 => ?_)
  · replace h := h.1 c50
    refine g_iconst (v := zI 1) dX7_fresh_57 (by decide) ?_
    refine g_iaddZ dX7_fresh_58 ?_
    refine g_iastZ dX7_fresh_59 lM_3 a2 a3 (by decide) ?_
    refine g_iload_n dX7_fresh_60 rfl ?_
    exact g_iret dX7_fresh_61 rfl rfl h
  · replace h := h.2 c50
    refine g_iconst (v := zI 0) dX7_fresh_53 (by decide) ?_
    refine g_goto dX7_fresh_54 rfl ?_
    refine g_iaddZ dX7_fresh_58 ?_
    refine g_iastZ dX7_fresh_59 lM_3 a2 a3 (by decide) ?_
    refine g_iload_n dX7_fresh_60 rfl ?_
    exact g_iret dX7_fresh_61 rfl rfl h
def f_X7_place (sa : Nat → Nat) (b : Nat) (E : Nat × mH) (d : Nat) (l1 : Int) (l2 : Int) (T : gT) (Q : Option Value → gT → Prop) : Prop := gC (tP sa) lM b E (d + 1) mX7_only [.ref (b + 0), .int (zI l1)] T (fun r T13 => pI r (fun v13 => 0 ≤ v13 ∧ v13 < 50 ∧ ((¬ (vI T13 0 49) = 0 → gW (tP sa) lM b E (d + 1 + 1) mX7_place 39 [some (.ref (b + 0)), some (.int (zI l1)), some (.int (zI l2)), some (.int (zI (1 - (vI T 0 3)))), some (.int (zI (vI T13 6 v13.toNat))), none, none, none, none, none, none] [.ref (b + 0)] T13 Q) ∧ ((vI T13 0 49) = 0 → 0 ≤ 1 - (vI T 0 3) ∧ 1 - (vI T 0 3) < 2 ∧ ((¬ (vI T13 2 (1 - (vI T 0 3)).toNat) = 200 → gW (tP sa) lM b E (d + 1 + 1) mX7_place 44 [some (.ref (b + 0)), some (.int (zI l1)), some (.int (zI l2)), some (.int (zI (1 - (vI T 0 3)))), some (.int (zI (vI T13 6 v13.toNat))), none, none, none, none, none, none] [.int (zI 0), .ref (b + 0)] T13 Q) ∧ ((vI T13 2 (1 - (vI T 0 3)).toNat) = 200 → gW (tP sa) lM b E (d + 1 + 1) mX7_place 39 [some (.ref (b + 0)), some (.int (zI l1)), some (.int (zI l2)), some (.int (zI (1 - (vI T 0 3)))), some (.int (zI (vI T13 6 v13.toNat))), none, none, none, none, none, none] [.ref (b + 0)] T13 Q))))))
set_option maxRecDepth 4000 in
theorem w_X7_place {sa : Nat → Nat} {b : Nat} {E : Nat × mH} {d : Nat} {l1 : Int} {l2 : Int} {T : gT} {Q : Option Value → gT → Prop} (h : f_X7_place sa b E d l1 l2 T Q) : gC (tP sa) lM b E (d + 1 + 1) mX7_place [.ref (b + 0), .int (zI l1), .int (zI l2)] T Q := by
  unfold f_X7_place at h
  refine ⟨Nat.le_of_ble_eq_true rfl, ?_⟩
  show gW (tP sa) lM b E (d + 1 + 1) mX7_place 0 [some (.ref (b + 0)), some (.int (zI l1)), some (.int (zI l2)), none, none, none, none, none, none, none, none] [] T Q
  refine g_iconst (v := zI 1) dX7_place_0 (by decide) ?_
  refine g_aload_n dX7_place_1 rfl ?_
  refine g_getZ (v := vI T 0 3) dX7_place_2 tF_7_101 lM_0 rfl (zI_v T 0 3) ?_
  refine g_isubZ dX7_place_5 ?_
  refine g_istore_n (L' := [some (.ref (b + 0)), some (.int (zI l1)), some (.int (zI l2)), some (.int (zI (1 - (vI T 0 3)))), none, none, none, none, none, none, none]) dX7_place_6 rfl ?_
  refine g_aload_n dX7_place_7 rfl ?_
  refine g_getR dX7_place_8 tF_7_26 lM_0 rfl ?_
  refine g_aload_n dX7_place_11 rfl ?_
  refine g_iload_n dX7_place_12 rfl ?_
  refine g_callV [.ref (b + 0), .int (zI l1)] [.ref (b + 6)] dX7_place_13 tG_7_250 tM_140 lM_0 rfl rfl rfl rfl (by decide) rfl ?_
  refine gC.mono h (Nat.le_refl _) ?_
  rintro _ T13 ⟨v13, rfl, h⟩
  obtain ⟨a1, h⟩ := h
  obtain ⟨a2, h⟩ := h
  refine g_ialdZ (v := vI T13 6 v13.toNat) dX7_place_16 lM_6 a1 a2 (by decide) (zI_v T13 6 v13.toNat) ?_
  refine g_istore (L' := [some (.ref (b + 0)), some (.int (zI l1)), some (.int (zI l2)), some (.int (zI (1 - (vI T 0 3)))), some (.int (zI (vI T13 6 v13.toNat))), none, none, none, none, none, none]) dX7_place_17 rfl ?_
  refine g_aload_n dX7_place_19 rfl ?_
  refine g_aload_n dX7_place_20 rfl ?_
  refine g_getZ (v := vI T13 0 49) dX7_place_21 tF_7_309 lM_0 rfl (zI_v T13 0 49) ?_
  refine g_if_neZ dX7_place_24 rfl ⟨vI_lo _ _ _, vI_hi _ _ _⟩  (fun c24 => ?_) (fun c24 => ?_)
  · replace h := h.1 c24
    exact h
  · replace h := h.2 c24
    refine g_aload_n dX7_place_27 rfl ?_
    refine g_getR dX7_place_28 tF_7_13 lM_0 rfl ?_
    refine g_iload_n dX7_place_31 rfl ?_
    obtain ⟨a3, h⟩ := h
    obtain ⟨a4, h⟩ := h
    refine g_ialdZ (v := vI T13 2 (1 - (vI T 0 3)).toNat) dX7_place_32 lM_2 a3 a4 (by decide) (zI_v T13 2 (1 - (vI T 0 3)).toNat) ?_
    refine g_sipush (v := zI 200) dX7_place_33 (by decide) ?_
    refine g_icmp_neZ dX7_place_36 rfl ⟨vI_lo _ _ _, vI_hi _ _ _⟩ (by decide) (fun c36 => ?_) (fun c36 => ?_)
    · replace h := h.1 c36
      refine g_iconst (v := zI 0) dX7_place_43 (by decide) ?_
      exact h
    · replace h := h.2 c36
      exact h
def f_X7_place_39 (sa : Nat → Nat) (b : Nat) (E : Nat × mH) (d : Nat) (l1 : Int) (l2 : Int) (l3 : Int) (l4 : Int) (T : gT) (Q : Option Value → gT → Prop) : Prop := gW (tP sa) lM b E (d + 1 + 1) mX7_place 44 [some (.ref (b + 0)), some (.int (zI l1)), some (.int (zI l2)), some (.int (zI l3)), some (.int (zI l4)), none, none, none, none, none, none] [.int (zI 1), .ref (b + 0)] T Q
set_option maxRecDepth 4000 in
theorem w_X7_place_39 {sa : Nat → Nat} {b : Nat} {E : Nat × mH} {d : Nat} {l1 : Int} {l2 : Int} {l3 : Int} {l4 : Int} {T : gT} {Q : Option Value → gT → Prop} (h : f_X7_place_39 sa b E d l1 l2 l3 l4 T Q) : gW (tP sa) lM b E (d + 1 + 1) mX7_place 39 [some (.ref (b + 0)), some (.int (zI l1)), some (.int (zI l2)), some (.int (zI l3)), some (.int (zI l4)), none, none, none, none, none, none] [.ref (b + 0)] T Q := by
  unfold f_X7_place_39 at h
  refine g_iconst (v := zI 1) dX7_place_39 (by decide) ?_
  refine g_goto dX7_place_40 rfl ?_
  exact h
def f_X7_place_44 (sa : Nat → Nat) (b : Nat) (E : Nat × mH) (d : Nat) (l1 : Int) (l2 : Int) (l3 : Int) (l4 : Int) (s0 : Int) (T : gT) (Q : Option Value → gT → Prop) : Prop := (s0 = 0 ∨ s0 = 1) ∧ (-2147483648 ≤ s0 ∧ s0 < 2147483648) ∧ ((s0 = 0 → gC (tP sa) lM b E (d + 1) mX7_begin [.ref (b + 0), .int (zI l3), .int (zI 5), .int (zI (-1)), .int (zI l2)] (gI T 0 49 (zI s0)) (fun r T61 => pI r (fun v61 => gC (tP sa) lM b E (d + 1) mX7_fresh [.ref (b + 0)] T61 (fun r T67 => pI r (fun v67 => (0 ≤ l3 ∧ l3 < 2) ∧ (0 ≤ v61 ∧ v61 < 200) ∧ (vI T67 0 3 = 0 ∨ vI T67 0 3 = 1) ∧ (0 ≤ l1 ∧ l1 < 200) ∧ gC (tP sa) lM b E (d + 1) mX7_copy [.ref (b + 0), .int (zI (cV (cS T67 l3.toNat v61.toNat 1 v67) (vI T67 0 3).toNat l1.toNat 4)), .int (zI v61), .int (zI (-1))] (cS T67 l3.toNat v61.toNat 1 v67) (fun r T92 => pI r (fun v92 => (0 ≤ l3 ∧ l3 < 2) ∧ (0 ≤ v61 ∧ v61 < 200) ∧ (((vI T92 0 49) = 0 → (vI T92 0 3 = 0 ∨ vI T92 0 3 = 1) ∧ (0 ≤ l4 ∧ l4 < 200) ∧ 0 ≤ cV (cS T92 l3.toNat v61.toNat 3 v92) (vI T92 0 3).toNat l4.toNat 1 ∧ cV (cS T92 l3.toNat v61.toNat 3 v92) (vI T92 0 3).toNat l4.toNat 1 < 100 ∧ (0 ≤ l4 ∧ l4 < 200) ∧ gC (tP sa) lM b E (d + 1) mX7_copy [.ref (b + 0), .int (zI (cV (gI (cS T92 l3.toNat v61.toNat 3 v92) 27 (cV (cS T92 l3.toNat v61.toNat 3 v92) (vI T92 0 3).toNat l4.toNat 1).toNat (zI v67)) (vI T92 0 3).toNat l4.toNat 3)), .int (zI v61), .int (zI (-1))] (gI (cS T92 l3.toNat v61.toNat 3 v92) 27 (cV (cS T92 l3.toNat v61.toNat 3 v92) (vI T92 0 3).toNat l4.toNat 1).toNat (zI v67)) (fun r T154 => pI r (fun v154 => (0 ≤ l3 ∧ l3 < 2) ∧ (0 ≤ v61 ∧ v61 < 200) ∧ Q (some (.int (zI v61))) (gI (cS T154 l3.toNat v61.toNat 4 v154) 27 (cV (cS T92 l3.toNat v61.toNat 3 v92) (vI T92 0 3).toNat l4.toNat 1).toNat (zI (vI T92 27 (cV (cS T92 l3.toNat v61.toNat 3 v92) (vI T92 0 3).toNat l4.toNat 1).toNat)))))) ∧ (¬ (vI T92 0 49) = 0 → Q (some (.int (zI (-1)))) (cS T92 l3.toNat v61.toNat 3 v92)))))))))) ∧ (¬ s0 = 0 → Q (some (.int (zI (-1)))) (gI T 0 49 (zI s0))))
set_option maxRecDepth 4000 in
theorem w_X7_place_44 {sa : Nat → Nat} {b : Nat} {E : Nat × mH} {d : Nat} {l1 : Int} {l2 : Int} {l3 : Int} {l4 : Int} {s0 : Int} {T : gT} {Q : Option Value → gT → Prop} (h : f_X7_place_44 sa b E d l1 l2 l3 l4 s0 T Q) : gW (tP sa) lM b E (d + 1 + 1) mX7_place 44 [some (.ref (b + 0)), some (.int (zI l1)), some (.int (zI l2)), some (.int (zI l3)), some (.int (zI l4)), none, none, none, none, none, none] [.int (zI s0), .ref (b + 0)] T Q := by
  unfold f_X7_place_44 at h
  obtain ⟨a1, h⟩ := h
  refine g_putI dX7_place_44 tF_7_309 lM_0 rfl rfl (fit_z a1) rfl ?_
  refine g_aload_n dX7_place_47 rfl ?_
  refine g_getZ (v := s0) dX7_place_48 tF_7_309 lM_0 rfl rfl ?_
  obtain ⟨a2, h⟩ := h
  refine g_if_eqZ dX7_place_51 rfl a2  (fun c51 => ?_) (fun c51 => ?_)
  · replace h := h.1 c51
    refine g_aload_n dX7_place_56 rfl ?_
    refine g_iload_n dX7_place_57 rfl ?_
    refine g_iconst (v := zI 5) dX7_place_58 (by decide) ?_
    refine g_iconst (v := zI (-1)) dX7_place_59 (by decide) ?_
    refine g_iload_n dX7_place_60 rfl ?_
    refine g_callV [.ref (b + 0), .int (zI l3), .int (zI 5), .int (zI (-1)), .int (zI l2)] [] dX7_place_61 tG_7_161 tM_115 lM_0 rfl rfl rfl rfl (by decide) rfl ?_
    refine gC.mono h (Nat.le_refl _) ?_
    rintro _ T61 ⟨v61, rfl, h⟩
    refine g_istore (L' := [some (.ref (b + 0)), some (.int (zI l1)), some (.int (zI l2)), some (.int (zI l3)), some (.int (zI l4)), some (.int (zI v61)), none, none, none, none, none]) dX7_place_64 rfl ?_
    refine g_aload_n dX7_place_66 rfl ?_
    refine g_callV [.ref (b + 0)] [] dX7_place_67 tG_7_320 tM_163 lM_0 rfl rfl rfl rfl (by decide) rfl ?_
    refine gC.mono h (Nat.le_refl _) ?_
    rintro _ T67 ⟨v67, rfl, h⟩
    refine g_istore (L' := [some (.ref (b + 0)), some (.int (zI l1)), some (.int (zI l2)), some (.int (zI l3)), some (.int (zI l4)), some (.int (zI v61)), some (.int (zI v67)), none, none, none, none]) dX7_place_70 rfl ?_
    refine g_aload_n dX7_place_72 rfl ?_
    refine g_iload_n dX7_place_73 rfl ?_
    refine g_iload dX7_place_74 rfl ?_
    refine g_iconst (v := zI 1) dX7_place_76 (by decide) ?_
    refine g_iload dX7_place_77 rfl ?_
    obtain ⟨a3, h⟩ := h
    obtain ⟨a4, h⟩ := h
    refine g_callV [.ref (b + 0), .int (zI l3), .int (zI v61), .int (zI 1), .int (zI v67)] [] dX7_place_79 tG_7_108 tM_114 lM_0 rfl rfl rfl rfl (by decide) rfl ?_
    refine gC.mono (c_setZ sa b E _ _ a3 a4 (by decide)) (Nat.le_refl _) ?_
    rintro _ _ ⟨rfl, h9⟩
    obtain rfl := h9.symm
    refine g_aload_n dX7_place_82 rfl ?_
    refine g_aload_n dX7_place_83 rfl ?_
    refine g_iload_n dX7_place_84 rfl ?_
    refine g_iconst (v := zI 4) dX7_place_85 (by decide) ?_
    obtain ⟨a5, h⟩ := h
    obtain ⟨a6, h⟩ := h
    refine g_callV [.ref (b + 0), .int (zI l1), .int (zI 4)] [.ref (b + 0)] dX7_place_86 tG_7_219 tM_113 lM_0 rfl rfl rfl rfl (by decide) rfl ?_
    refine gC.mono (c_getZ sa b E d _ (n := vI T67 0 3) (by first | exact (zI_v _ _ _).symm | rfl) a5 a6 (by decide)) (Nat.le_refl _) ?_
    rintro _ _ ⟨rfl, h9⟩
    obtain rfl := h9.symm
    refine g_iload dX7_place_89 rfl ?_
    refine g_iconst (v := zI (-1)) dX7_place_91 (by decide) ?_
    refine g_callV [.ref (b + 0), .int (zI (cV (cS T67 l3.toNat v61.toNat 1 v67) (vI T67 0 3).toNat l1.toNat 4)), .int (zI v61), .int (zI (-1))] [] dX7_place_92 tG_7_312 tM_162 lM_0 rfl rfl rfl rfl (by decide) rfl ?_
    refine gC.mono h (Nat.le_refl _) ?_
    rintro _ T92 ⟨v92, rfl, h⟩
    refine g_istore (L' := [some (.ref (b + 0)), some (.int (zI l1)), some (.int (zI l2)), some (.int (zI l3)), some (.int (zI l4)), some (.int (zI v61)), some (.int (zI v67)), some (.int (zI v92)), none, none, none]) dX7_place_95 rfl ?_
    refine g_aload_n dX7_place_97 rfl ?_
    refine g_iload_n dX7_place_98 rfl ?_
    refine g_iload dX7_place_99 rfl ?_
    refine g_iconst (v := zI 3) dX7_place_101 (by decide) ?_
    refine g_iload dX7_place_102 rfl ?_
    obtain ⟨a7, h⟩ := h
    obtain ⟨a8, h⟩ := h
    refine g_callV [.ref (b + 0), .int (zI l3), .int (zI v61), .int (zI 3), .int (zI v92)] [] dX7_place_104 tG_7_108 tM_114 lM_0 rfl rfl rfl rfl (by decide) rfl ?_
    refine gC.mono (c_setZ sa b E _ _ a7 a8 (by decide)) (Nat.le_refl _) ?_
    rintro _ _ ⟨rfl, h9⟩
    obtain rfl := h9.symm
    refine g_aload_n dX7_place_107 rfl ?_
    refine g_getZ (v := vI T92 0 49) dX7_place_108 tF_7_309 lM_0 rfl (zI_v T92 0 49) ?_
    refine g_if_eqZ dX7_place_111 rfl ⟨vI_lo _ _ _, vI_hi _ _ _⟩  (fun c111 => ?_) (fun c111 => ?_)
    · replace h := h.1 c111
      refine g_aload_n dX7_place_116 rfl ?_
      refine g_iload dX7_place_117 rfl ?_
      refine g_iconst (v := zI 1) dX7_place_119 (by decide) ?_
      obtain ⟨a9, h⟩ := h
      obtain ⟨a10, h⟩ := h
      refine g_callV [.ref (b + 0), .int (zI l4), .int (zI 1)] [] dX7_place_120 tG_7_219 tM_113 lM_0 rfl rfl rfl rfl (by decide) rfl ?_
      refine gC.mono (c_getZ sa b E d _ (n := vI T92 0 3) (by first | exact (zI_v _ _ _).symm | rfl) a9 a10 (by decide)) (Nat.le_refl _) ?_
      rintro _ _ ⟨rfl, h9⟩
      obtain rfl := h9.symm
      refine g_istore (L' := [some (.ref (b + 0)), some (.int (zI l1)), some (.int (zI l2)), some (.int (zI l3)), some (.int (zI l4)), some (.int (zI v61)), some (.int (zI v67)), some (.int (zI v92)), some (.int (zI (cV (cS T92 l3.toNat v61.toNat 3 v92) (vI T92 0 3).toNat l4.toNat 1))), none, none]) dX7_place_123 rfl ?_
      refine g_aload_n dX7_place_125 rfl ?_
      refine g_getR dX7_place_126 tF_7_91 lM_0 rfl ?_
      refine g_iload dX7_place_129 rfl ?_
      obtain ⟨a11, h⟩ := h
      obtain ⟨a12, h⟩ := h
      refine g_ialdZ (v := vI T92 27 (cV (cS T92 l3.toNat v61.toNat 3 v92) (vI T92 0 3).toNat l4.toNat 1).toNat) dX7_place_131 lM_27 a11 a12 (by decide) (zI_v T92 27 (cV (cS T92 l3.toNat v61.toNat 3 v92) (vI T92 0 3).toNat l4.toNat 1).toNat) ?_
      refine g_istore (L' := [some (.ref (b + 0)), some (.int (zI l1)), some (.int (zI l2)), some (.int (zI l3)), some (.int (zI l4)), some (.int (zI v61)), some (.int (zI v67)), some (.int (zI v92)), some (.int (zI (cV (cS T92 l3.toNat v61.toNat 3 v92) (vI T92 0 3).toNat l4.toNat 1))), some (.int (zI (vI T92 27 (cV (cS T92 l3.toNat v61.toNat 3 v92) (vI T92 0 3).toNat l4.toNat 1).toNat))), none]) dX7_place_132 rfl ?_
      refine g_aload_n dX7_place_134 rfl ?_
      refine g_getR dX7_place_135 tF_7_91 lM_0 rfl ?_
      refine g_iload dX7_place_138 rfl ?_
      refine g_iload dX7_place_140 rfl ?_
      refine g_iastZ dX7_place_142 lM_27 a11 a12 (by decide) ?_
      refine g_aload_n dX7_place_143 rfl ?_
      refine g_aload_n dX7_place_144 rfl ?_
      refine g_iload dX7_place_145 rfl ?_
      refine g_iconst (v := zI 3) dX7_place_147 (by decide) ?_
      obtain ⟨a13, h⟩ := h
      refine g_callV [.ref (b + 0), .int (zI l4), .int (zI 3)] [.ref (b + 0)] dX7_place_148 tG_7_219 tM_113 lM_0 rfl rfl rfl rfl (by decide) rfl ?_
      refine gC.mono (c_getZ sa b E d _ (n := vI T92 0 3) (by first | exact (zI_v _ _ _).symm | rfl) a9 a13 (by decide)) (Nat.le_refl _) ?_
      rintro _ _ ⟨rfl, h9⟩
      obtain rfl := h9.symm
      refine g_iload dX7_place_151 rfl ?_
      refine g_iconst (v := zI (-1)) dX7_place_153 (by decide) ?_
      refine g_callV [.ref (b + 0), .int (zI (cV (gI (cS T92 l3.toNat v61.toNat 3 v92) 27 (cV (cS T92 l3.toNat v61.toNat 3 v92) (vI T92 0 3).toNat l4.toNat 1).toNat (zI v67)) (vI T92 0 3).toNat l4.toNat 3)), .int (zI v61), .int (zI (-1))] [] dX7_place_154 tG_7_312 tM_162 lM_0 rfl rfl rfl rfl (by decide) rfl ?_
      refine gC.mono h (Nat.le_refl _) ?_
      rintro _ T154 ⟨v154, rfl, h⟩
      refine g_istore (L' := [some (.ref (b + 0)), some (.int (zI l1)), some (.int (zI l2)), some (.int (zI l3)), some (.int (zI l4)), some (.int (zI v61)), some (.int (zI v67)), some (.int (zI v92)), some (.int (zI (cV (cS T92 l3.toNat v61.toNat 3 v92) (vI T92 0 3).toNat l4.toNat 1))), some (.int (zI (vI T92 27 (cV (cS T92 l3.toNat v61.toNat 3 v92) (vI T92 0 3).toNat l4.toNat 1).toNat))), some (.int (zI v154))]) dX7_place_157 rfl ?_
      refine g_aload_n dX7_place_159 rfl ?_
      refine g_iload_n dX7_place_160 rfl ?_
      refine g_iload dX7_place_161 rfl ?_
      refine g_iconst (v := zI 4) dX7_place_163 (by decide) ?_
      refine g_iload dX7_place_164 rfl ?_
      obtain ⟨a14, h⟩ := h
      obtain ⟨a15, h⟩ := h
      refine g_callV [.ref (b + 0), .int (zI l3), .int (zI v61), .int (zI 4), .int (zI v154)] [] dX7_place_166 tG_7_108 tM_114 lM_0 rfl rfl rfl rfl (by decide) rfl ?_
      refine gC.mono (c_setZ sa b E _ _ a14 a15 (by decide)) (Nat.le_refl _) ?_
      rintro _ _ ⟨rfl, h9⟩
      obtain rfl := h9.symm
      refine g_aload_n dX7_place_169 rfl ?_
      refine g_getR dX7_place_170 tF_7_91 lM_0 rfl ?_
      refine g_iload dX7_place_173 rfl ?_
      refine g_iload dX7_place_175 rfl ?_
      refine g_iastZ dX7_place_177 lM_27 a11 a12 (by decide) ?_
      refine g_iload dX7_place_178 rfl ?_
      exact g_iret dX7_place_180 rfl rfl h
    · replace h := h.2 c111
      refine g_iconst (v := zI (-1)) dX7_place_114 (by decide) ?_
      exact g_iret dX7_place_115 rfl rfl h
  · replace h := h.2 c51
    refine g_iconst (v := zI (-1)) dX7_place_54 (by decide) ?_
    exact g_iret dX7_place_55 rfl rfl h
def f_X7_clear (sa : Nat → Nat) (b : Nat) (E : Nat × mH) (d : Nat) (T : gT) (Q : Option Value → gT → Prop) : Prop := Q (some (.int (zI (vI T 0 2)))) (gI (gI T 0 0 (zI 0)) 0 2 (zI 0))
set_option maxRecDepth 4000 in
theorem w_X7_clear {sa : Nat → Nat} {b : Nat} {E : Nat × mH} {d : Nat} {T : gT} {Q : Option Value → gT → Prop} (h : f_X7_clear sa b E d T Q) : gC (tP sa) lM b E d mX7_clear [.ref (b + 0)] T Q := by
  unfold f_X7_clear at h
  refine ⟨Nat.le_of_ble_eq_true rfl, ?_⟩
  show gW (tP sa) lM b E d mX7_clear 0 [some (.ref (b + 0)), none] [] T Q
  refine g_aload_n dX7_clear_0 rfl ?_
  refine g_iconst (v := zI 0) dX7_clear_1 (by decide) ?_
  refine g_putI dX7_clear_2 tF_7_97 lM_0 rfl rfl ⟨rfl, rfl⟩ rfl ?_
  refine g_aload_n dX7_clear_5 rfl ?_
  refine g_getZ (v := vI T 0 2) dX7_clear_6 tF_7_115 lM_0 rfl (zI_v T 0 2) ?_
  refine g_istore_n (L' := [some (.ref (b + 0)), some (.int (zI (vI T 0 2)))]) dX7_clear_9 rfl ?_
  refine g_aload_n dX7_clear_10 rfl ?_
  refine g_iconst (v := zI 0) dX7_clear_11 (by decide) ?_
  refine g_putI dX7_clear_12 tF_7_115 lM_0 rfl rfl ⟨rfl, rfl⟩ rfl ?_
  refine g_iload_n dX7_clear_15 rfl ?_
  exact g_iret dX7_clear_16 rfl rfl h
def f_X7_say (sa : Nat → Nat) (b : Nat) (E : Nat × mH) (d : Nat) (l1 : Int) (T : gT) (Q : Option Value → gT → Prop) : Prop := ((400 ≤ (vI T 0 51) → Q none (gI T 0 51 (zI ((vI T 0 51) + 1)))) ∧ (¬ 400 ≤ (vI T 0 51) → 0 ≤ vI T 0 51 ∧ vI T 0 51 < 400 ∧ Q none (gI (gI T 28 (vI T 0 51).toNat (vp_nar .byte (zI ((zI l1).toInt8.toInt32.toInt)))) 0 51 (zI ((vI T 0 51) + 1)))))
set_option maxRecDepth 4000 in
theorem w_X7_say {sa : Nat → Nat} {b : Nat} {E : Nat × mH} {d : Nat} {l1 : Int} {T : gT} {Q : Option Value → gT → Prop} (h : f_X7_say sa b E d l1 T Q) : gC (tP sa) lM b E d mX7_say [.ref (b + 0), .int (zI l1)] T Q := by
  unfold f_X7_say at h
  refine ⟨Nat.le_of_ble_eq_true rfl, ?_⟩
  show gW (tP sa) lM b E d mX7_say 0 [some (.ref (b + 0)), some (.int (zI l1))] [] T Q
  refine g_aload_n dX7_say_0 rfl ?_
  refine g_getZ (v := vI T 0 51) dX7_say_1 tF_7_329 lM_0 rfl (zI_v T 0 51) ?_
  refine g_sipush (v := zI 400) dX7_say_4 (by decide) ?_
  refine g_icmp_geZ dX7_say_7 rfl ⟨vI_lo _ _ _, vI_hi _ _ _⟩ (by decide) (fun c7 => ?_) (fun c7 => ?_)
  · replace h := h.1 c7
    refine g_aload_n dX7_say_21 rfl ?_
    refine g_dup dX7_say_22 rfl ?_
    refine g_getZ (v := vI T 0 51) dX7_say_23 tF_7_329 lM_0 rfl (zI_v T 0 51) ?_
    refine g_iconst (v := zI 1) dX7_say_26 (by decide) ?_
    refine g_iaddZ dX7_say_27 ?_
    refine g_putI dX7_say_28 tF_7_329 lM_0 rfl rfl ⟨rfl, rfl⟩ rfl ?_
    exact g_vret dX7_say_31 rfl h
  · replace h := h.2 c7
    refine g_aload_n dX7_say_10 rfl ?_
    refine g_getR dX7_say_11 tF_7_94 lM_0 rfl ?_
    refine g_aload_n dX7_say_14 rfl ?_
    refine g_getZ (v := vI T 0 51) dX7_say_15 tF_7_329 lM_0 rfl (zI_v T 0 51) ?_
    refine g_iload_n dX7_say_18 rfl ?_
    refine g_i2bZ dX7_say_19 ?_
    obtain ⟨a1, h⟩ := h
    obtain ⟨a2, h⟩ := h
    refine g_bastZ dX7_say_20 lM_28 a1 a2 (by decide) ?_
    refine g_aload_n dX7_say_21 rfl ?_
    refine g_dup dX7_say_22 rfl ?_
    refine g_getZ (v := vI T 0 51) dX7_say_23 tF_7_329 lM_0 rfl (zI_v T 0 51) ?_
    refine g_iconst (v := zI 1) dX7_say_26 (by decide) ?_
    refine g_iaddZ dX7_say_27 ?_
    refine g_putI dX7_say_28 tF_7_329 lM_0 rfl rfl ⟨rfl, rfl⟩ rfl ?_
    exact g_vret dX7_say_31 rfl h
def f_X7_sayExpr (sa : Nat → Nat) (b : Nat) (E : Nat × mH) (d : Nat) (l1 : Int) (T : gT) (Q : Option Value → gT → Prop) : Prop := (vI T 0 3 = 0 ∨ vI T 0 3 = 1) ∧ (0 ≤ l1 ∧ l1 < 200) ∧ ((¬ (cV T (vI T 0 3).toNat l1.toNat 0) = 0 → ((¬ (cV T (vI T 0 3).toNat l1.toNat 0) = 1 → ((¬ (cV T (vI T 0 3).toNat l1.toNat 0) = 2 → gC (tP sa) lM b E (d + 1) mX7_say [.ref (b + 0), .int (zI 40)] T (fun r T85 => pV r (gC (tP sa) lM b E (d + 1) mX7_sayForm [.ref (b + 0), .int (zI l1), .int (zI (cV T (vI T 0 3).toNat l1.toNat 0))] T85 (fun r T91 => pV r (gC (tP sa) lM b E (d + 1) mX7_say [.ref (b + 0), .int (zI 41)] T91 (fun r T97 => pV r (Q none T97))))))) ∧ ((cV T (vI T 0 3).toNat l1.toNat 0) = 2 → gC (tP sa) lM b E (d + 1) mX7_say [.ref (b + 0), .int (zI 92)] T (fun r T50 => pV r ((vI T50 0 3 = 0 ∨ vI T50 0 3 = 1) ∧ (0 ≤ l1 ∧ l1 < 200) ∧ gC (tP sa) lM b E (d + 1) mX7_sayVariable [.ref (b + 0), .int (zI (cV T50 (vI T50 0 3).toNat l1.toNat 1))] T50 (fun r T60 => pV r (gC (tP sa) lM b E (d + 1) mX7_say [.ref (b + 0), .int (zI 46)] T60 (fun r T66 => pV r ((vI T66 0 3 = 0 ∨ vI T66 0 3 = 1) ∧ (0 ≤ l1 ∧ l1 < 200) ∧ gC (tP sa) lM b E (d + 1) mX7_sayExpr [.ref (b + 0), .int (zI (cV T66 (vI T66 0 3).toNat l1.toNat 3))] T66 (fun r T76 => pV r (Q none T76))))))))))) ∧ ((cV T (vI T 0 3).toNat l1.toNat 0) = 1 → (0 ≤ l1 ∧ l1 < 200) ∧ gC (tP sa) lM b E (d + 1) mX7_sayNumber [.ref (b + 0), .int (zI (cV T (vI T 0 3).toNat l1.toNat 1))] T (fun r T36 => pV r (Q none T36))))) ∧ ((cV T (vI T 0 3).toNat l1.toNat 0) = 0 → (0 ≤ l1 ∧ l1 < 200) ∧ gC (tP sa) lM b E (d + 1) mX7_sayVariable [.ref (b + 0), .int (zI (cV T (vI T 0 3).toNat l1.toNat 1))] T (fun r T18 => pV r (Q none T18))))
set_option maxRecDepth 4000 in
theorem w_X7_sayExpr {sa : Nat → Nat} {b : Nat} {E : Nat × mH} {d : Nat} {l1 : Int} {T : gT} {Q : Option Value → gT → Prop} (h : f_X7_sayExpr sa b E d l1 T Q) : gC (tP sa) lM b E (d + 1 + 1) mX7_sayExpr [.ref (b + 0), .int (zI l1)] T Q := by
  unfold f_X7_sayExpr at h
  refine ⟨Nat.le_of_ble_eq_true rfl, ?_⟩
  show gW (tP sa) lM b E (d + 1 + 1) mX7_sayExpr 0 [some (.ref (b + 0)), some (.int (zI l1)), none] [] T Q
  refine g_aload_n dX7_sayExpr_0 rfl ?_
  refine g_iload_n dX7_sayExpr_1 rfl ?_
  refine g_iconst (v := zI 0) dX7_sayExpr_2 (by decide) ?_
  obtain ⟨a1, h⟩ := h
  obtain ⟨a2, h⟩ := h
  refine g_callV [.ref (b + 0), .int (zI l1), .int (zI 0)] [] dX7_sayExpr_3 tG_7_219 tM_113 lM_0 rfl rfl rfl rfl (by decide) rfl ?_
  refine gC.mono (c_getZ sa b E d _ (n := vI T 0 3) (by first | exact (zI_v _ _ _).symm | rfl) a1 a2 (by decide)) (Nat.le_refl _) ?_
  rintro _ _ ⟨rfl, h9⟩
  obtain rfl := h9.symm
  refine g_istore_n (L' := [some (.ref (b + 0)), some (.int (zI l1)), some (.int (zI (cV T (vI T 0 3).toNat l1.toNat 0)))]) dX7_sayExpr_6 rfl ?_
  refine g_iload_n dX7_sayExpr_7 rfl ?_
  refine g_if_neZ dX7_sayExpr_8 rfl ⟨vI_lo _ _ _, vI_hi _ _ _⟩  (fun c8 => ?_) (fun c8 => ?_)
  · replace h := h.1 c8
    refine g_iload_n dX7_sayExpr_24 rfl ?_
    refine g_iconst (v := zI 1) dX7_sayExpr_25 (by decide) ?_
    refine g_icmp_neZ dX7_sayExpr_26 rfl ⟨vI_lo _ _ _, vI_hi _ _ _⟩ (by decide) (fun c26 => ?_) (fun c26 => ?_)
    · replace h := h.1 c26
      refine g_iload_n dX7_sayExpr_42 rfl ?_
      refine g_iconst (v := zI 2) dX7_sayExpr_43 (by decide) ?_
      refine g_icmp_neZ dX7_sayExpr_44 rfl ⟨vI_lo _ _ _, vI_hi _ _ _⟩ (by decide) (fun c44 => ?_) (fun c44 => ?_)
      · replace h := h.1 c44
        refine g_aload_n dX7_sayExpr_82 rfl ?_
        refine g_bipush (v := zI 40) dX7_sayExpr_83 (by decide) ?_
        refine g_callV [.ref (b + 0), .int (zI 40)] [] dX7_sayExpr_85 tG_7_332 tM_171 lM_0 rfl rfl rfl rfl (by decide) rfl ?_
        refine gC.mono h (Nat.le_refl _) ?_
        rintro _ T85 ⟨rfl, h⟩
        refine g_aload_n dX7_sayExpr_88 rfl ?_
        refine g_iload_n dX7_sayExpr_89 rfl ?_
        refine g_iload_n dX7_sayExpr_90 rfl ?_
        refine g_callV [.ref (b + 0), .int (zI l1), .int (zI (cV T (vI T 0 3).toNat l1.toNat 0))] [] dX7_sayExpr_91 tG_7_344 tM_176 lM_0 rfl rfl rfl rfl (by decide) rfl ?_
        refine gC.mono h (Nat.le_refl _) ?_
        rintro _ T91 ⟨rfl, h⟩
        refine g_aload_n dX7_sayExpr_94 rfl ?_
        refine g_bipush (v := zI 41) dX7_sayExpr_95 (by decide) ?_
        refine g_callV [.ref (b + 0), .int (zI 41)] [] dX7_sayExpr_97 tG_7_332 tM_171 lM_0 rfl rfl rfl rfl (by decide) rfl ?_
        refine gC.mono h (Nat.le_refl _) ?_
        rintro _ T97 ⟨rfl, h⟩
        exact g_vret dX7_sayExpr_100 rfl h
      · replace h := h.2 c44
        refine g_aload_n dX7_sayExpr_47 rfl ?_
        refine g_bipush (v := zI 92) dX7_sayExpr_48 (by decide) ?_
        refine g_callV [.ref (b + 0), .int (zI 92)] [] dX7_sayExpr_50 tG_7_332 tM_171 lM_0 rfl rfl rfl rfl (by decide) rfl ?_
        refine gC.mono h (Nat.le_refl _) ?_
        rintro _ T50 ⟨rfl, h⟩
        refine g_aload_n dX7_sayExpr_53 rfl ?_
        refine g_aload_n dX7_sayExpr_54 rfl ?_
        refine g_iload_n dX7_sayExpr_55 rfl ?_
        refine g_iconst (v := zI 1) dX7_sayExpr_56 (by decide) ?_
        obtain ⟨a3, h⟩ := h
        obtain ⟨a4, h⟩ := h
        refine g_callV [.ref (b + 0), .int (zI l1), .int (zI 1)] [.ref (b + 0)] dX7_sayExpr_57 tG_7_219 tM_113 lM_0 rfl rfl rfl rfl (by decide) rfl ?_
        refine gC.mono (c_getZ sa b E d _ (n := vI T50 0 3) (by first | exact (zI_v _ _ _).symm | rfl) a3 a4 (by decide)) (Nat.le_refl _) ?_
        rintro _ _ ⟨rfl, h9⟩
        obtain rfl := h9.symm
        refine g_callV [.ref (b + 0), .int (zI (cV T50 (vI T50 0 3).toNat l1.toNat 1))] [] dX7_sayExpr_60 tG_7_338 tM_173 lM_0 rfl rfl rfl rfl (by decide) rfl ?_
        refine gC.mono h (Nat.le_refl _) ?_
        rintro _ T60 ⟨rfl, h⟩
        refine g_aload_n dX7_sayExpr_63 rfl ?_
        refine g_bipush (v := zI 46) dX7_sayExpr_64 (by decide) ?_
        refine g_callV [.ref (b + 0), .int (zI 46)] [] dX7_sayExpr_66 tG_7_332 tM_171 lM_0 rfl rfl rfl rfl (by decide) rfl ?_
        refine gC.mono h (Nat.le_refl _) ?_
        rintro _ T66 ⟨rfl, h⟩
        refine g_aload_n dX7_sayExpr_69 rfl ?_
        refine g_aload_n dX7_sayExpr_70 rfl ?_
        refine g_iload_n dX7_sayExpr_71 rfl ?_
        refine g_iconst (v := zI 3) dX7_sayExpr_72 (by decide) ?_
        obtain ⟨a5, h⟩ := h
        obtain ⟨a6, h⟩ := h
        refine g_callV [.ref (b + 0), .int (zI l1), .int (zI 3)] [.ref (b + 0)] dX7_sayExpr_73 tG_7_219 tM_113 lM_0 rfl rfl rfl rfl (by decide) rfl ?_
        refine gC.mono (c_getZ sa b E d _ (n := vI T66 0 3) (by first | exact (zI_v _ _ _).symm | rfl) a5 a6 (by decide)) (Nat.le_refl _) ?_
        rintro _ _ ⟨rfl, h9⟩
        obtain rfl := h9.symm
        refine g_callV [.ref (b + 0), .int (zI (cV T66 (vI T66 0 3).toNat l1.toNat 3))] [] dX7_sayExpr_76 tG_7_341 tM_174 lM_0 rfl rfl rfl rfl (by decide) rfl ?_
        refine gC.mono h (Nat.le_refl _) ?_
        rintro _ T76 ⟨rfl, h⟩
        refine g_goto dX7_sayExpr_79 rfl ?_
        exact g_vret dX7_sayExpr_100 rfl h
    · replace h := h.2 c26
      refine g_aload_n dX7_sayExpr_29 rfl ?_
      refine g_aload_n dX7_sayExpr_30 rfl ?_
      refine g_iload_n dX7_sayExpr_31 rfl ?_
      refine g_iconst (v := zI 1) dX7_sayExpr_32 (by decide) ?_
      obtain ⟨a7, h⟩ := h
      refine g_callV [.ref (b + 0), .int (zI l1), .int (zI 1)] [.ref (b + 0)] dX7_sayExpr_33 tG_7_219 tM_113 lM_0 rfl rfl rfl rfl (by decide) rfl ?_
      refine gC.mono (c_getZ sa b E d _ (n := vI T 0 3) (by first | exact (zI_v _ _ _).symm | rfl) a1 a7 (by decide)) (Nat.le_refl _) ?_
      rintro _ _ ⟨rfl, h9⟩
      obtain rfl := h9.symm
      refine g_callV [.ref (b + 0), .int (zI (cV T (vI T 0 3).toNat l1.toNat 1))] [] dX7_sayExpr_36 tG_7_335 tM_172 lM_0 rfl rfl rfl rfl (by decide) rfl ?_
      refine gC.mono h (Nat.le_refl _) ?_
      rintro _ T36 ⟨rfl, h⟩
      refine g_goto dX7_sayExpr_39 rfl ?_
      exact g_vret dX7_sayExpr_100 rfl h
  · replace h := h.2 c8
    refine g_aload_n dX7_sayExpr_11 rfl ?_
    refine g_aload_n dX7_sayExpr_12 rfl ?_
    refine g_iload_n dX7_sayExpr_13 rfl ?_
    refine g_iconst (v := zI 1) dX7_sayExpr_14 (by decide) ?_
    obtain ⟨a8, h⟩ := h
    refine g_callV [.ref (b + 0), .int (zI l1), .int (zI 1)] [.ref (b + 0)] dX7_sayExpr_15 tG_7_219 tM_113 lM_0 rfl rfl rfl rfl (by decide) rfl ?_
    refine gC.mono (c_getZ sa b E d _ (n := vI T 0 3) (by first | exact (zI_v _ _ _).symm | rfl) a1 a8 (by decide)) (Nat.le_refl _) ?_
    rintro _ _ ⟨rfl, h9⟩
    obtain rfl := h9.symm
    refine g_callV [.ref (b + 0), .int (zI (cV T (vI T 0 3).toNat l1.toNat 1))] [] dX7_sayExpr_18 tG_7_338 tM_173 lM_0 rfl rfl rfl rfl (by decide) rfl ?_
    refine gC.mono h (Nat.le_refl _) ?_
    rintro _ T18 ⟨rfl, h⟩
    refine g_goto dX7_sayExpr_21 rfl ?_
    exact g_vret dX7_sayExpr_100 rfl h
