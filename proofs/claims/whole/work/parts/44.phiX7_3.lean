/-! THE REFERENCE: its blocks, 3 (printed by wip/whole/phi7.py) -/
def f_X7_expression (sa : Nat → Nat) (b : Nat) (E : Nat × mH) (d : Nat) (l1 : Int) (T : gT) (Q : Option Value → gT → Prop) : Prop := gC (tP sa) lM b E d mX7_blanks [.ref (b + 0)] T (fun r T1 => pV r (0 ≤ 1 - (vI T1 0 3) ∧ 1 - (vI T1 0 3) < 2 ∧ ((¬ (vI T1 2 (1 - (vI T1 0 3)).toNat) = 200 → gC (tP sa) lM b E d mX7_peek [.ref (b + 0)] T1 (fun r T33 => pI r (fun v33 => (-2147483648 ≤ v33 ∧ v33 < 2147483648) ∧ ((¬ (zL v33 = true) → (((zD v33 = true) → gC (tP sa) lM b E d mX7_number [.ref (b + 0), .int (zI l1)] T33 (fun r T143 => pI r (fun v143 => Q (some (.int (zI v143))) T143))) ∧ (¬ (zD v33 = true) → ((¬ v33 = 45 → ((v33 = 92 → gW (tP sa) lM b E (d + 1) mX7_expression 159 [some (.ref (b + 0)), some (.int (zI l1)), some (.int (zI (1 - (vI T1 0 3)))), some (.int (zI v33)), none, none, none] [] T33 Q) ∧ (¬ v33 = 92 → ((¬ v33 = 40 → gC (tP sa) lM b E d mX7_fail [.ref (b + 0), .int (zI (vI T33 0 20))] T33 (fun r T173 => pI r (fun v173 => Q (some (.int (zI v173))) T173))) ∧ (v33 = 40 → gW (tP sa) lM b E (d + 1) mX7_expression 159 [some (.ref (b + 0)), some (.int (zI l1)), some (.int (zI (1 - (vI T1 0 3)))), some (.int (zI v33)), none, none, none] [] T33 Q))))) ∧ (v33 = 45 → gC (tP sa) lM b E d mX7_number [.ref (b + 0), .int (zI l1)] T33 (fun r T143 => pI r (fun v143 => Q (some (.int (zI v143))) T143))))))) ∧ ((zL v33 = true) → gC (tP sa) lM b E d mX7_name [.ref (b + 0)] T33 (fun r T51 => pI r (fun v51 => gW (tP sa) lM b E (d + 1) mX7_expression 64 [some (.ref (b + 0)), some (.int (zI l1)), some (.int (zI (1 - (vI T1 0 3)))), some (.int (zI v33)), some (.int (zI (vI T33 0 20))), some (.int (zI v51)), some (.int (zI ((vI T51 0 27) - 1)))] [] T51 Q))))))) ∧ ((vI T1 2 (1 - (vI T1 0 3)).toNat) = 200 → gC (tP sa) lM b E d mX7_fail [.ref (b + 0), .int (zI (vI T1 0 20))] T1 (fun r T28 => pI r (fun v28 => Q (some (.int (zI v28))) T28))))))
set_option maxRecDepth 4000 in
theorem w_X7_expression {sa : Nat → Nat} {b : Nat} {E : Nat × mH} {d : Nat} {l1 : Int} {T : gT} {Q : Option Value → gT → Prop} (h : f_X7_expression sa b E d l1 T Q) : gC (tP sa) lM b E (d + 1) mX7_expression [.ref (b + 0), .int (zI l1)] T Q := by
  unfold f_X7_expression at h
  refine ⟨Nat.le_of_ble_eq_true rfl, ?_⟩
  show gW (tP sa) lM b E (d + 1) mX7_expression 0 [some (.ref (b + 0)), some (.int (zI l1)), none, none, none, none, none] [] T Q
  refine g_aload_n dX7_expression_0 rfl ?_
  refine g_callV [.ref (b + 0)] [] dX7_expression_1 tG_7_148 tM_118 lM_0 rfl rfl rfl rfl (by decide) rfl ?_
  refine gC.mono h (Nat.le_refl _) ?_
  rintro _ T1 ⟨rfl, h⟩
  refine g_iconst (v := zI 1) dX7_expression_4 (by decide) ?_
  refine g_aload_n dX7_expression_5 rfl ?_
  refine g_getZ (v := vI T1 0 3) dX7_expression_6 tF_7_101 lM_0 rfl (zI_v T1 0 3) ?_
  refine g_isubZ dX7_expression_9 ?_
  refine g_istore_n (L' := [some (.ref (b + 0)), some (.int (zI l1)), some (.int (zI (1 - (vI T1 0 3)))), none, none, none, none]) dX7_expression_10 rfl ?_
  refine g_aload_n dX7_expression_11 rfl ?_
  refine g_getR dX7_expression_12 tF_7_13 lM_0 rfl ?_
  refine g_iload_n dX7_expression_15 rfl ?_
  obtain ⟨a1, h⟩ := h
  obtain ⟨a2, h⟩ := h
  refine g_ialdZ (v := vI T1 2 (1 - (vI T1 0 3)).toNat) dX7_expression_16 lM_2 a1 a2 (by decide) (zI_v T1 2 (1 - (vI T1 0 3)).toNat) ?_
  refine g_sipush (v := zI 200) dX7_expression_17 (by decide) ?_
  refine g_icmp_neZ dX7_expression_20 rfl ⟨vI_lo _ _ _, vI_hi _ _ _⟩ (by decide) (fun c20 => ?_) (fun c20 => ?_)
  · replace h := h.1 c20
    refine g_aload_n dX7_expression_32 rfl ?_
    refine g_callV [.ref (b + 0)] [] dX7_expression_33 tG_7_118 tM_116 lM_0 rfl rfl rfl rfl (by decide) rfl ?_
    refine gC.mono h (Nat.le_refl _) ?_
    rintro _ T33 ⟨v33, rfl, h⟩
    refine g_istore_n (L' := [some (.ref (b + 0)), some (.int (zI l1)), some (.int (zI (1 - (vI T1 0 3)))), some (.int (zI v33)), none, none, none]) dX7_expression_36 rfl ?_
    refine g_iload_n dX7_expression_37 rfl ?_
    obtain ⟨a3, h⟩ := h
    refine g_callS [.int (zI v33)] [] dX7_expression_38 tG_7_129 tM_120 rfl rfl rfl rfl (by decide) ?_
    refine gC.mono (c_zL sa b E _ _ a3) (Nat.le_refl _) ?_
    rintro _ _ ⟨rfl, h9⟩
    obtain rfl := h9.symm
    refine g_if_eqB dX7_expression_41 rfl (fun c41 => ?_) (fun c41 => ?_)
    · replace h := h.1 c41
      refine g_iload_n dX7_expression_128 rfl ?_
      refine g_callS [.int (zI v33)] [] dX7_expression_129 tG_7_133 tM_121 rfl rfl rfl rfl (by decide) ?_
      refine gC.mono (c_zD sa b E _ _ a3) (Nat.le_refl _) ?_
      rintro _ _ ⟨rfl, h9⟩
      obtain rfl := h9.symm
      refine g_if_neB dX7_expression_132 rfl (fun c132 => ?_) (fun c132 => ?_)
      · replace h := h.1 c132
        refine g_aload_n dX7_expression_141 rfl ?_
        refine g_iload_n dX7_expression_142 rfl ?_
        refine g_callV [.ref (b + 0), .int (zI l1)] [] dX7_expression_143 tG_7_165 tM_127 lM_0 rfl rfl rfl rfl (by decide) rfl ?_
        refine gC.mono h (Nat.le_refl _) ?_
        rintro _ T143 ⟨v143, rfl, h⟩
        exact g_iret dX7_expression_146 rfl rfl h
      · replace h := h.2 c132
        refine g_iload_n dX7_expression_135 rfl ?_
        refine g_bipush (v := zI 45) dX7_expression_136 (by decide) ?_
        refine g_icmp_neZ dX7_expression_138 rfl a3 (by decide) (fun c138 => ?_) (fun c138 => ?_)
        · replace h := h.1 c138
          refine g_iload_n dX7_expression_147 rfl ?_
          refine g_bipush (v := zI 92) dX7_expression_148 (by decide) ?_
          refine g_icmp_eqZ dX7_expression_150 rfl a3 (by decide) (fun c150 => ?_) (fun c150 => ?_)
          · replace h := h.1 c150
            exact h
          · replace h := h.2 c150
            refine g_iload_n dX7_expression_153 rfl ?_
            refine g_bipush (v := zI 40) dX7_expression_154 (by decide) ?_
            refine g_icmp_neZ dX7_expression_156 rfl a3 (by decide) (fun c156 => ?_) (fun c156 => ?_)
            · replace h := h.1 c156
              refine g_aload_n dX7_expression_168 rfl ?_
              refine g_aload_n dX7_expression_169 rfl ?_
              refine g_getZ (v := vI T33 0 20) dX7_expression_170 tF_7_112 lM_0 rfl (zI_v T33 0 20) ?_
              refine g_callV [.ref (b + 0), .int (zI (vI T33 0 20))] [] dX7_expression_173 tG_7_151 tM_119 lM_0 rfl rfl rfl rfl (by decide) rfl ?_
              refine gC.mono h (Nat.le_refl _) ?_
              rintro _ T173 ⟨v173, rfl, h⟩
              exact g_iret dX7_expression_176 rfl rfl h
            · replace h := h.2 c156
              exact h
        · replace h := h.2 c138
          refine g_aload_n dX7_expression_141 rfl ?_
          refine g_iload_n dX7_expression_142 rfl ?_
          refine g_callV [.ref (b + 0), .int (zI l1)] [] dX7_expression_143 tG_7_165 tM_127 lM_0 rfl rfl rfl rfl (by decide) rfl ?_
          refine gC.mono h (Nat.le_refl _) ?_
          rintro _ T143 ⟨v143, rfl, h⟩
          exact g_iret dX7_expression_146 rfl rfl h
    · replace h := h.2 c41
      refine g_aload_n dX7_expression_44 rfl ?_
      refine g_getZ (v := vI T33 0 20) dX7_expression_45 tF_7_112 lM_0 rfl (zI_v T33 0 20) ?_
      refine g_istore (L' := [some (.ref (b + 0)), some (.int (zI l1)), some (.int (zI (1 - (vI T1 0 3)))), some (.int (zI v33)), some (.int (zI (vI T33 0 20))), none, none]) dX7_expression_48 rfl ?_
      refine g_aload_n dX7_expression_50 rfl ?_
      refine g_callV [.ref (b + 0)] [] dX7_expression_51 tG_7_155 tM_124 lM_0 rfl rfl rfl rfl (by decide) rfl ?_
      refine gC.mono h (Nat.le_refl _) ?_
      rintro _ T51 ⟨v51, rfl, h⟩
      refine g_istore (L' := [some (.ref (b + 0)), some (.int (zI l1)), some (.int (zI (1 - (vI T1 0 3)))), some (.int (zI v33)), some (.int (zI (vI T33 0 20))), some (.int (zI v51)), none]) dX7_expression_54 rfl ?_
      refine g_aload_n dX7_expression_56 rfl ?_
      refine g_getZ (v := vI T51 0 27) dX7_expression_57 tF_7_158 lM_0 rfl (zI_v T51 0 27) ?_
      refine g_iconst (v := zI 1) dX7_expression_60 (by decide) ?_
      refine g_isubZ dX7_expression_61 ?_
      refine g_istore (L' := [some (.ref (b + 0)), some (.int (zI l1)), some (.int (zI (1 - (vI T1 0 3)))), some (.int (zI v33)), some (.int (zI (vI T33 0 20))), some (.int (zI v51)), some (.int (zI ((vI T51 0 27) - 1)))]) dX7_expression_62 rfl ?_
      exact h
  · replace h := h.2 c20
    refine g_aload_n dX7_expression_23 rfl ?_
    refine g_aload_n dX7_expression_24 rfl ?_
    refine g_getZ (v := vI T1 0 20) dX7_expression_25 tF_7_112 lM_0 rfl (zI_v T1 0 20) ?_
    refine g_callV [.ref (b + 0), .int (zI (vI T1 0 20))] [] dX7_expression_28 tG_7_151 tM_119 lM_0 rfl rfl rfl rfl (by decide) rfl ?_
    refine gC.mono h (Nat.le_refl _) ?_
    rintro _ T28 ⟨v28, rfl, h⟩
    exact g_iret dX7_expression_31 rfl rfl h
def f_X7_expression_159 (sa : Nat → Nat) (b : Nat) (E : Nat × mH) (d : Nat) (l1 : Int) (l2 : Int) (l3 : Int) (T : gT) (Q : Option Value → gT → Prop) : Prop := ((¬ (vI T 0 23) = 40 → (-2147483648 ≤ l3 ∧ l3 < 2147483648) ∧ ((¬ l3 = 92 → gC (tP sa) lM b E d mX7_form [.ref (b + 0), .int (zI (vI T 0 20)), .int (zI l1)] (gI (gI T 0 23 (zI ((vI T 0 23) + 1))) 0 20 (zI ((vI T 0 20) + 1))) (fun r T223 => pI r (fun v223 => Q (some (.int (zI v223))) (gI T223 0 23 (zI ((vI T223 0 23) - 1)))))) ∧ (l3 = 92 → gC (tP sa) lM b E d mX7_lambda [.ref (b + 0), .int (zI (vI T 0 20)), .int (zI l1)] (gI (gI T 0 23 (zI ((vI T 0 23) + 1))) 0 20 (zI ((vI T 0 20) + 1))) (fun r T213 => pI r (fun v213 => Q (some (.int (zI v213))) (gI T213 0 23 (zI ((vI T213 0 23) - 1)))))))) ∧ ((vI T 0 23) = 40 → gC (tP sa) lM b E d mX7_fail [.ref (b + 0), .int (zI (vI T 0 20))] T (fun r T173 => pI r (fun v173 => Q (some (.int (zI v173))) T173))))
set_option maxRecDepth 4000 in
theorem w_X7_expression_159 {sa : Nat → Nat} {b : Nat} {E : Nat × mH} {d : Nat} {l1 : Int} {l2 : Int} {l3 : Int} {T : gT} {Q : Option Value → gT → Prop} (h : f_X7_expression_159 sa b E d l1 l2 l3 T Q) : gW (tP sa) lM b E (d + 1) mX7_expression 159 [some (.ref (b + 0)), some (.int (zI l1)), some (.int (zI l2)), some (.int (zI l3)), none, none, none] [] T Q := by
  unfold f_X7_expression_159 at h
  refine g_aload_n dX7_expression_159 rfl ?_
  refine g_getZ (v := vI T 0 23) dX7_expression_160 tF_7_168 lM_0 rfl (zI_v T 0 23) ?_
  refine g_bipush (v := zI 40) dX7_expression_163 (by decide) ?_
  refine g_icmp_neZ dX7_expression_165 rfl ⟨vI_lo _ _ _, vI_hi _ _ _⟩ (by decide) (fun c165 => ?_) (fun c165 => ?_)
  · replace h := h.1 c165
    refine g_aload_n dX7_expression_177 rfl ?_
    refine g_dup dX7_expression_178 rfl ?_
    refine g_getZ (v := vI T 0 23) dX7_expression_179 tF_7_168 lM_0 rfl (zI_v T 0 23) ?_
    refine g_iconst (v := zI 1) dX7_expression_182 (by decide) ?_
    refine g_iaddZ dX7_expression_183 ?_
    refine g_putI dX7_expression_184 tF_7_168 lM_0 rfl rfl ⟨rfl, rfl⟩ rfl ?_
    refine g_aload_n dX7_expression_187 rfl ?_
    refine g_getZ (v := vI T 0 20) dX7_expression_188 tF_7_112 lM_0 rfl (zI_v T 0 20) ?_
    refine g_istore (L' := [some (.ref (b + 0)), some (.int (zI l1)), some (.int (zI l2)), some (.int (zI l3)), some (.int (zI (vI T 0 20))), none, none]) dX7_expression_191 rfl ?_
    refine g_aload_n dX7_expression_193 rfl ?_
    refine g_dup dX7_expression_194 rfl ?_
    refine g_getZ (v := vI T 0 20) dX7_expression_195 tF_7_112 lM_0 rfl (zI_v T 0 20) ?_
    refine g_iconst (v := zI 1) dX7_expression_198 (by decide) ?_
    refine g_iaddZ dX7_expression_199 ?_
    refine g_putI dX7_expression_200 tF_7_112 lM_0 rfl rfl ⟨rfl, rfl⟩ rfl ?_
    refine g_iload_n dX7_expression_203 rfl ?_
    refine g_bipush (v := zI 92) dX7_expression_204 (by decide) ?_
    obtain ⟨a1, h⟩ := h
    refine g_icmp_neZ dX7_expression_206 rfl a1 (by decide) (fun c206 => ?_) (fun c206 => ?_)
    · replace h := h.1 c206
      refine g_aload_n dX7_expression_219 rfl ?_
      refine g_iload dX7_expression_220 rfl ?_
      refine g_iload_n dX7_expression_222 rfl ?_
      refine g_callV [.ref (b + 0), .int (zI (vI T 0 20)), .int (zI l1)] [] dX7_expression_223 tG_7_175 tM_129 lM_0 rfl rfl rfl rfl (by decide) rfl ?_
      refine gC.mono h (Nat.le_refl _) ?_
      rintro _ T223 ⟨v223, rfl, h⟩
      refine g_istore (L' := [some (.ref (b + 0)), some (.int (zI l1)), some (.int (zI l2)), some (.int (zI l3)), some (.int (zI (vI T 0 20))), some (.int (zI v223)), none]) dX7_expression_226 rfl ?_
      refine g_aload_n dX7_expression_228 rfl ?_
      refine g_dup dX7_expression_229 rfl ?_
      refine g_getZ (v := vI T223 0 23) dX7_expression_230 tF_7_168 lM_0 rfl (zI_v T223 0 23) ?_
      refine g_iconst (v := zI 1) dX7_expression_233 (by decide) ?_
      refine g_isubZ dX7_expression_234 ?_
      refine g_putI dX7_expression_235 tF_7_168 lM_0 rfl rfl ⟨rfl, rfl⟩ rfl ?_
      refine g_iload dX7_expression_238 rfl ?_
      exact g_iret dX7_expression_240 rfl rfl h
    · replace h := h.2 c206
      refine g_aload_n dX7_expression_209 rfl ?_
      refine g_iload dX7_expression_210 rfl ?_
      refine g_iload_n dX7_expression_212 rfl ?_
      refine g_callV [.ref (b + 0), .int (zI (vI T 0 20)), .int (zI l1)] [] dX7_expression_213 tG_7_171 tM_128 lM_0 rfl rfl rfl rfl (by decide) rfl ?_
      refine gC.mono h (Nat.le_refl _) ?_
      rintro _ T213 ⟨v213, rfl, h⟩
      refine g_goto dX7_expression_216 rfl ?_
      refine g_istore (L' := [some (.ref (b + 0)), some (.int (zI l1)), some (.int (zI l2)), some (.int (zI l3)), some (.int (zI (vI T 0 20))), some (.int (zI v213)), none]) dX7_expression_226 rfl ?_
      refine g_aload_n dX7_expression_228 rfl ?_
      refine g_dup dX7_expression_229 rfl ?_
      refine g_getZ (v := vI T213 0 23) dX7_expression_230 tF_7_168 lM_0 rfl (zI_v T213 0 23) ?_
      refine g_iconst (v := zI 1) dX7_expression_233 (by decide) ?_
      refine g_isubZ dX7_expression_234 ?_
      refine g_putI dX7_expression_235 tF_7_168 lM_0 rfl rfl ⟨rfl, rfl⟩ rfl ?_
      refine g_iload dX7_expression_238 rfl ?_
      exact g_iret dX7_expression_240 rfl rfl h
  · replace h := h.2 c165
    refine g_aload_n dX7_expression_168 rfl ?_
    refine g_aload_n dX7_expression_169 rfl ?_
    refine g_getZ (v := vI T 0 20) dX7_expression_170 tF_7_112 lM_0 rfl (zI_v T 0 20) ?_
    refine g_callV [.ref (b + 0), .int (zI (vI T 0 20))] [] dX7_expression_173 tG_7_151 tM_119 lM_0 rfl rfl rfl rfl (by decide) rfl ?_
    refine gC.mono h (Nat.le_refl _) ?_
    rintro _ T173 ⟨v173, rfl, h⟩
    exact g_iret dX7_expression_176 rfl rfl h
def f_X7_expression_64 (sa : Nat → Nat) (b : Nat) (E : Nat × mH) (d : Nat) (l1 : Int) (l2 : Int) (l3 : Int) (l4 : Int) (l5 : Int) (l6 : Int) (T : gT) (Q : Option Value → gT → Prop) : Prop := ((¬ (vI T 0 22) = 0 → gW (tP sa) lM b E (d + 1) mX7_expression 94 [some (.ref (b + 0)), some (.int (zI l1)), some (.int (zI l2)), some (.int (zI l3)), some (.int (zI l4)), some (.int (zI l5)), some (.int (zI l6))] [] T Q) ∧ ((vI T 0 22) = 0 → (-2147483648 ≤ l6 ∧ l6 < 2147483648) ∧ ((l6 < 0 → gW (tP sa) lM b E (d + 1) mX7_expression 94 [some (.ref (b + 0)), some (.int (zI l1)), some (.int (zI l2)), some (.int (zI l3)), some (.int (zI l4)), some (.int (zI l5)), some (.int (zI l6))] [] T Q) ∧ (¬ l6 < 0 → 0 ≤ l6 ∧ l6 < 200 ∧ (-2147483648 ≤ l5 ∧ l5 < 2147483648) ∧ (((vI T 13 l6.toNat) = l5 → gW (tP sa) lM b E (d + 1) mX7_expression 94 [some (.ref (b + 0)), some (.int (zI l1)), some (.int (zI l2)), some (.int (zI l3)), some (.int (zI l4)), some (.int (zI l5)), some (.int (zI l6))] [] T Q) ∧ (¬ (vI T 13 l6.toNat) = l5 → gW (tP sa) lM b E (d + 1) mX7_expression 64 [some (.ref (b + 0)), some (.int (zI l1)), some (.int (zI l2)), some (.int (zI l3)), some (.int (zI l4)), some (.int (zI l5)), some (.int (zI (l6 - 1)))] [] T Q))))))
set_option maxRecDepth 4000 in
theorem w_X7_expression_64 {sa : Nat → Nat} {b : Nat} {E : Nat × mH} {d : Nat} {l1 : Int} {l2 : Int} {l3 : Int} {l4 : Int} {l5 : Int} {l6 : Int} {T : gT} {Q : Option Value → gT → Prop} (h : f_X7_expression_64 sa b E d l1 l2 l3 l4 l5 l6 T Q) : gW (tP sa) lM b E (d + 1) mX7_expression 64 [some (.ref (b + 0)), some (.int (zI l1)), some (.int (zI l2)), some (.int (zI l3)), some (.int (zI l4)), some (.int (zI l5)), some (.int (zI l6))] [] T Q := by
  unfold f_X7_expression_64 at h
  refine g_aload_n dX7_expression_64 rfl ?_
  refine g_getZ (v := vI T 0 22) dX7_expression_65 tF_7_122 lM_0 rfl (zI_v T 0 22) ?_
  refine g_if_neZ dX7_expression_68 rfl ⟨vI_lo _ _ _, vI_hi _ _ _⟩  (fun c68 => ?_) (fun c68 => ?_)
  · replace h := h.1 c68
    exact h
  · replace h := h.2 c68
    refine g_iload dX7_expression_71 rfl ?_
    obtain ⟨a1, h⟩ := h
    refine g_if_ltZ dX7_expression_73 rfl a1  (fun c73 => ?_) (fun c73 => ?_)
    · replace h := h.1 c73
      exact h
    · replace h := h.2 c73
      refine g_aload_n dX7_expression_76 rfl ?_
      refine g_getR dX7_expression_77 tF_7_48 lM_0 rfl ?_
      refine g_iload dX7_expression_80 rfl ?_
      obtain ⟨a2, h⟩ := h
      obtain ⟨a3, h⟩ := h
      refine g_ialdZ (v := vI T 13 l6.toNat) dX7_expression_82 lM_13 a2 a3 (by decide) (zI_v T 13 l6.toNat) ?_
      refine g_iload dX7_expression_83 rfl ?_
      obtain ⟨a4, h⟩ := h
      refine g_icmp_eqZ dX7_expression_85 rfl ⟨vI_lo _ _ _, vI_hi _ _ _⟩ a4 (fun c85 => ?_) (fun c85 => ?_)
      · replace h := h.1 c85
        exact h
      · replace h := h.2 c85
        refine g_iinc (x := zI l6) (v := zI (l6 - 1)) (L' := [some (.ref (b + 0)), some (.int (zI l1)), some (.int (zI l2)), some (.int (zI l3)), some (.int (zI l4)), some (.int (zI l5)), some (.int (zI (l6 - 1)))]) dX7_expression_88 rfl ((zI_add _ _).trans (congrArg zI (show _ = l6 - 1 by omega))) rfl ?_
        refine g_goto dX7_expression_91 rfl ?_
        exact h
def f_X7_expression_94 (sa : Nat → Nat) (b : Nat) (E : Nat × mH) (d : Nat) (l1 : Int) (l2 : Int) (l3 : Int) (l4 : Int) (l5 : Int) (l6 : Int) (T : gT) (Q : Option Value → gT → Prop) : Prop := ((¬ (vI T 0 22) = 0 → gC (tP sa) lM b E d mX7_fail [.ref (b + 0), .int (zI l4)] T (fun r T109 => pI r (fun v109 => Q (some (.int (zI v109))) T109))) ∧ ((vI T 0 22) = 0 → (-2147483648 ≤ l6 ∧ l6 < 2147483648) ∧ ((0 ≤ l6 → 0 ≤ l6 ∧ l6 < 200 ∧ gC (tP sa) lM b E d mX7_begin [.ref (b + 0), .int (zI l2), .int (zI 0), .int (zI (vI T 14 l6.toNat)), .int (zI l1)] T (fun r T124 => pI r (fun v124 => Q (some (.int (zI v124))) T124))) ∧ (¬ 0 ≤ l6 → gC (tP sa) lM b E d mX7_fail [.ref (b + 0), .int (zI l4)] T (fun r T109 => pI r (fun v109 => Q (some (.int (zI v109))) T109))))))
set_option maxRecDepth 4000 in
theorem w_X7_expression_94 {sa : Nat → Nat} {b : Nat} {E : Nat × mH} {d : Nat} {l1 : Int} {l2 : Int} {l3 : Int} {l4 : Int} {l5 : Int} {l6 : Int} {T : gT} {Q : Option Value → gT → Prop} (h : f_X7_expression_94 sa b E d l1 l2 l3 l4 l5 l6 T Q) : gW (tP sa) lM b E (d + 1) mX7_expression 94 [some (.ref (b + 0)), some (.int (zI l1)), some (.int (zI l2)), some (.int (zI l3)), some (.int (zI l4)), some (.int (zI l5)), some (.int (zI l6))] [] T Q := by
  unfold f_X7_expression_94 at h
  refine g_aload_n dX7_expression_94 rfl ?_
  refine g_getZ (v := vI T 0 22) dX7_expression_95 tF_7_122 lM_0 rfl (zI_v T 0 22) ?_
  refine g_if_neZ dX7_expression_98 rfl ⟨vI_lo _ _ _, vI_hi _ _ _⟩  (fun c98 => ?_) (fun c98 => ?_)
  · replace h := h.1 c98
    refine g_aload_n dX7_expression_106 rfl ?_
    refine g_iload dX7_expression_107 rfl ?_
    refine g_callV [.ref (b + 0), .int (zI l4)] [] dX7_expression_109 tG_7_151 tM_119 lM_0 rfl rfl rfl rfl (by decide) rfl ?_
    refine gC.mono h (Nat.le_refl _) ?_
    rintro _ T109 ⟨v109, rfl, h⟩
    exact g_iret dX7_expression_112 rfl rfl h
  · replace h := h.2 c98
    refine g_iload dX7_expression_101 rfl ?_
    obtain ⟨a1, h⟩ := h
    refine g_if_geZ dX7_expression_103 rfl a1  (fun c103 => ?_) (fun c103 => ?_)
    · replace h := h.1 c103
      refine g_aload_n dX7_expression_113 rfl ?_
      refine g_iload_n dX7_expression_114 rfl ?_
      refine g_iconst (v := zI 0) dX7_expression_115 (by decide) ?_
      refine g_aload_n dX7_expression_116 rfl ?_
      refine g_getR dX7_expression_117 tF_7_51 lM_0 rfl ?_
      refine g_iload dX7_expression_120 rfl ?_
      obtain ⟨a2, h⟩ := h
      obtain ⟨a3, h⟩ := h
      refine g_ialdZ (v := vI T 14 l6.toNat) dX7_expression_122 lM_14 a2 a3 (by decide) (zI_v T 14 l6.toNat) ?_
      refine g_iload_n dX7_expression_123 rfl ?_
      refine g_callV [.ref (b + 0), .int (zI l2), .int (zI 0), .int (zI (vI T 14 l6.toNat)), .int (zI l1)] [] dX7_expression_124 tG_7_161 tM_115 lM_0 rfl rfl rfl rfl (by decide) rfl ?_
      refine gC.mono h (Nat.le_refl _) ?_
      rintro _ T124 ⟨v124, rfl, h⟩
      exact g_iret dX7_expression_127 rfl rfl h
    · replace h := h.2 c103
      refine g_aload_n dX7_expression_106 rfl ?_
      refine g_iload dX7_expression_107 rfl ?_
      refine g_callV [.ref (b + 0), .int (zI l4)] [] dX7_expression_109 tG_7_151 tM_119 lM_0 rfl rfl rfl rfl (by decide) rfl ?_
      refine gC.mono h (Nat.le_refl _) ?_
      rintro _ T109 ⟨v109, rfl, h⟩
      exact g_iret dX7_expression_112 rfl rfl h
def f_X7_joinExpr (sa : Nat → Nat) (b : Nat) (E : Nat × mH) (d : Nat) (l1 : Int) (l2 : Int64) (T : gT) (Q : Option Value → gT → Prop) : Prop := 0 ≤ l1 ∧ l1 < 200 ∧ ((((T.2.1 9 l1.toNat) ||| l2) = (T.2.1 9 l1.toNat) → Q none T) ∧ (¬ ((T.2.1 9 l1.toNat) ||| l2) = (T.2.1 9 l1.toNat) → Q none (gI (gJ T 9 l1.toNat ((T.2.1 9 l1.toNat) ||| l2)) 0 28 (zI 1))))
set_option maxRecDepth 4000 in
theorem w_X7_joinExpr {sa : Nat → Nat} {b : Nat} {E : Nat × mH} {d : Nat} {l1 : Int} {l2 : Int64} {T : gT} {Q : Option Value → gT → Prop} (h : f_X7_joinExpr sa b E d l1 l2 T Q) : gC (tP sa) lM b E d mX7_joinExpr [.ref (b + 0), .int (zI l1), .long l2] T Q := by
  unfold f_X7_joinExpr at h
  refine ⟨Nat.le_of_ble_eq_true rfl, ?_⟩
  show gW (tP sa) lM b E d mX7_joinExpr 0 [some (.ref (b + 0)), some (.int (zI l1)), some (.long l2), none] [] T Q
  refine g_aload_n dX7_joinExpr_0 rfl ?_
  refine g_getR dX7_joinExpr_1 tF_7_35 lM_0 rfl ?_
  refine g_iload_n dX7_joinExpr_4 rfl ?_
  obtain ⟨a1, h⟩ := h
  obtain ⟨a2, h⟩ := h
  refine g_laldZ (v := T.2.1 9 l1.toNat) dX7_joinExpr_5 lM_9 a1 a2 (by decide) rfl ?_
  refine g_lload_n dX7_joinExpr_6 rfl ?_
  refine g_lor dX7_joinExpr_7 ?_
  refine g_aload_n dX7_joinExpr_8 rfl ?_
  refine g_getR dX7_joinExpr_9 tF_7_35 lM_0 rfl ?_
  refine g_iload_n dX7_joinExpr_12 rfl ?_
  refine g_laldZ (v := T.2.1 9 l1.toNat) dX7_joinExpr_13 lM_9 a1 a2 (by decide) rfl ?_
  refine g_lcmp dX7_joinExpr_14 ?_
  refine g_if_eqL dX7_joinExpr_15 rfl (fun c15 => ?_) (fun c15 => ?_)
  · replace h := h.1 c15
    exact g_vret dX7_joinExpr_33 rfl h
  · replace h := h.2 c15
    refine g_aload_n dX7_joinExpr_18 rfl ?_
    refine g_getR dX7_joinExpr_19 tF_7_35 lM_0 rfl ?_
    refine g_iload_n dX7_joinExpr_22 rfl ?_
    refine g_dup2 dX7_joinExpr_23 rfl rfl ?_
    refine g_laldZ (v := T.2.1 9 l1.toNat) dX7_joinExpr_24 lM_9 a1 a2 (by decide) rfl ?_
    refine g_lload_n dX7_joinExpr_25 rfl ?_
    refine g_lor dX7_joinExpr_26 ?_
    refine g_lastZ dX7_joinExpr_27 lM_9 a1 a2 (by decide) ?_
    refine g_aload_n dX7_joinExpr_28 rfl ?_
    refine g_iconst (v := zI 1) dX7_joinExpr_29 (by decide) ?_
    refine g_putI dX7_joinExpr_30 tF_7_225 lM_0 rfl rfl ⟨rfl, rfl⟩ rfl ?_
    exact g_vret dX7_joinExpr_33 rfl h
def f_X7_joinVariable (sa : Nat → Nat) (b : Nat) (E : Nat × mH) (d : Nat) (l1 : Int) (l2 : Int64) (T : gT) (Q : Option Value → gT → Prop) : Prop := 0 ≤ l1 ∧ l1 < 100 ∧ ((((T.2.1 10 l1.toNat) ||| l2) = (T.2.1 10 l1.toNat) → Q none T) ∧ (¬ ((T.2.1 10 l1.toNat) ||| l2) = (T.2.1 10 l1.toNat) → Q none (gI (gJ T 10 l1.toNat ((T.2.1 10 l1.toNat) ||| l2)) 0 28 (zI 1))))
set_option maxRecDepth 4000 in
theorem w_X7_joinVariable {sa : Nat → Nat} {b : Nat} {E : Nat × mH} {d : Nat} {l1 : Int} {l2 : Int64} {T : gT} {Q : Option Value → gT → Prop} (h : f_X7_joinVariable sa b E d l1 l2 T Q) : gC (tP sa) lM b E d mX7_joinVariable [.ref (b + 0), .int (zI l1), .long l2] T Q := by
  unfold f_X7_joinVariable at h
  refine ⟨Nat.le_of_ble_eq_true rfl, ?_⟩
  show gW (tP sa) lM b E d mX7_joinVariable 0 [some (.ref (b + 0)), some (.int (zI l1)), some (.long l2), none] [] T Q
  refine g_aload_n dX7_joinVariable_0 rfl ?_
  refine g_getR dX7_joinVariable_1 tF_7_39 lM_0 rfl ?_
  refine g_iload_n dX7_joinVariable_4 rfl ?_
  obtain ⟨a1, h⟩ := h
  obtain ⟨a2, h⟩ := h
  refine g_laldZ (v := T.2.1 10 l1.toNat) dX7_joinVariable_5 lM_10 a1 a2 (by decide) rfl ?_
  refine g_lload_n dX7_joinVariable_6 rfl ?_
  refine g_lor dX7_joinVariable_7 ?_
  refine g_aload_n dX7_joinVariable_8 rfl ?_
  refine g_getR dX7_joinVariable_9 tF_7_39 lM_0 rfl ?_
  refine g_iload_n dX7_joinVariable_12 rfl ?_
  refine g_laldZ (v := T.2.1 10 l1.toNat) dX7_joinVariable_13 lM_10 a1 a2 (by decide) rfl ?_
  refine g_lcmp dX7_joinVariable_14 ?_
  refine g_if_eqL dX7_joinVariable_15 rfl (fun c15 => ?_) (fun c15 => ?_)
  · replace h := h.1 c15
    exact g_vret dX7_joinVariable_33 rfl h
  · replace h := h.2 c15
    refine g_aload_n dX7_joinVariable_18 rfl ?_
    refine g_getR dX7_joinVariable_19 tF_7_39 lM_0 rfl ?_
    refine g_iload_n dX7_joinVariable_22 rfl ?_
    refine g_dup2 dX7_joinVariable_23 rfl rfl ?_
    refine g_laldZ (v := T.2.1 10 l1.toNat) dX7_joinVariable_24 lM_10 a1 a2 (by decide) rfl ?_
    refine g_lload_n dX7_joinVariable_25 rfl ?_
    refine g_lor dX7_joinVariable_26 ?_
    refine g_lastZ dX7_joinVariable_27 lM_10 a1 a2 (by decide) ?_
    refine g_aload_n dX7_joinVariable_28 rfl ?_
    refine g_iconst (v := zI 1) dX7_joinVariable_29 (by decide) ?_
    refine g_putI dX7_joinVariable_30 tF_7_225 lM_0 rfl rfl ⟨rfl, rfl⟩ rfl ?_
    exact g_vret dX7_joinVariable_33 rfl h
def f_X7_flowOf (sa : Nat → Nat) (b : Nat) (E : Nat × mH) (d : Nat) (l1 : Int) (T : gT) (Q : Option Value → gT → Prop) : Prop := (vI T 0 3 = 0 ∨ vI T 0 3 = 1) ∧ (0 ≤ l1 ∧ l1 < 200) ∧ ((¬ (cV T (vI T 0 3).toNat l1.toNat 0) = 0 → (((cV T (vI T 0 3).toNat l1.toNat 0) = 2 → gW (tP sa) lM b E (d + 1 + 1) mX7_flowOf 40 [some (.ref (b + 0)), some (.int (zI l1)), some (.int (zI (cV T (vI T 0 3).toNat l1.toNat 0))), none, none, none] [] T Q) ∧ (¬ (cV T (vI T 0 3).toNat l1.toNat 0) = 2 → ((¬ (cV T (vI T 0 3).toNat l1.toNat 0) = 3 → ((¬ (cV T (vI T 0 3).toNat l1.toNat 0) = 4 → ((¬ (cV T (vI T 0 3).toNat l1.toNat 0) = 5 → ((¬ (cV T (vI T 0 3).toNat l1.toNat 0) = 11 → Q none T) ∧ ((cV T (vI T 0 3).toNat l1.toNat 0) = 11 → (0 ≤ l1 ∧ l1 < 200) ∧ 0 ≤ cV T (vI T 0 3).toNat l1.toNat 3 ∧ cV T (vI T 0 3).toNat l1.toNat 3 < 200 ∧ gW (tP sa) lM b E (d + 1 + 1) mX7_flowOf 181 [some (.ref (b + 0)), some (.int (zI l1)), some (.int (zI (cV T (vI T 0 3).toNat l1.toNat 0))), some (.long (T.2.1 9 (cV T (vI T 0 3).toNat l1.toNat 3).toNat)), none, some (.int (zI 0))] [] T Q))) ∧ ((cV T (vI T 0 3).toNat l1.toNat 0) = 5 → (0 ≤ l1 ∧ l1 < 200) ∧ (0 ≤ l1 ∧ l1 < 200) ∧ 0 ≤ cV T (vI T 0 3).toNat l1.toNat 3 ∧ cV T (vI T 0 3).toNat l1.toNat 3 < 200 ∧ gC (tP sa) lM b E (d + 1) mX7_joinVariable [.ref (b + 0), .int (zI (cV T (vI T 0 3).toNat l1.toNat 1)), .long (T.2.1 9 (cV T (vI T 0 3).toNat l1.toNat 3).toNat)] T (fun r T138 => pV r ((vI T138 0 3 = 0 ∨ vI T138 0 3 = 1) ∧ (0 ≤ l1 ∧ l1 < 200) ∧ 0 ≤ cV T138 (vI T138 0 3).toNat l1.toNat 4 ∧ cV T138 (vI T138 0 3).toNat l1.toNat 4 < 200 ∧ gC (tP sa) lM b E (d + 1) mX7_joinExpr [.ref (b + 0), .int (zI l1), .long (T138.2.1 9 (cV T138 (vI T138 0 3).toNat l1.toNat 4).toNat)] T138 (fun r T154 => pV r (Q none T154))))))) ∧ ((cV T (vI T 0 3).toNat l1.toNat 0) = 4 → (0 ≤ l1 ∧ l1 < 200) ∧ 0 ≤ cV T (vI T 0 3).toNat l1.toNat 4 ∧ cV T (vI T 0 3).toNat l1.toNat 4 < 200 ∧ (0 ≤ l1 ∧ l1 < 200) ∧ 0 ≤ cV T (vI T 0 3).toNat l1.toNat 5 ∧ cV T (vI T 0 3).toNat l1.toNat 5 < 200 ∧ gC (tP sa) lM b E (d + 1) mX7_joinExpr [.ref (b + 0), .int (zI l1), .long ((T.2.1 9 (cV T (vI T 0 3).toNat l1.toNat 4).toNat) ||| (T.2.1 9 (cV T (vI T 0 3).toNat l1.toNat 5).toNat))] T (fun r T109 => pV r (Q none T109))))) ∧ ((cV T (vI T 0 3).toNat l1.toNat 0) = 3 → gW (tP sa) lM b E (d + 1 + 1) mX7_flowOf 40 [some (.ref (b + 0)), some (.int (zI l1)), some (.int (zI (cV T (vI T 0 3).toNat l1.toNat 0))), none, none, none] [] T Q))))) ∧ ((cV T (vI T 0 3).toNat l1.toNat 0) = 0 → (0 ≤ l1 ∧ l1 < 200) ∧ 0 ≤ cV T (vI T 0 3).toNat l1.toNat 1 ∧ cV T (vI T 0 3).toNat l1.toNat 1 < 100 ∧ gC (tP sa) lM b E (d + 1) mX7_joinExpr [.ref (b + 0), .int (zI l1), .long (T.2.1 10 (cV T (vI T 0 3).toNat l1.toNat 1).toNat)] T (fun r T24 => pV r (Q none T24))))
set_option maxRecDepth 4000 in
theorem w_X7_flowOf {sa : Nat → Nat} {b : Nat} {E : Nat × mH} {d : Nat} {l1 : Int} {T : gT} {Q : Option Value → gT → Prop} (h : f_X7_flowOf sa b E d l1 T Q) : gC (tP sa) lM b E (d + 1 + 1) mX7_flowOf [.ref (b + 0), .int (zI l1)] T Q := by
  unfold f_X7_flowOf at h
  refine ⟨Nat.le_of_ble_eq_true rfl, ?_⟩
  show gW (tP sa) lM b E (d + 1 + 1) mX7_flowOf 0 [some (.ref (b + 0)), some (.int (zI l1)), none, none, none, none] [] T Q
  refine g_aload_n dX7_flowOf_0 rfl ?_
  refine g_iload_n dX7_flowOf_1 rfl ?_
  refine g_iconst (v := zI 0) dX7_flowOf_2 (by decide) ?_
  obtain ⟨a1, h⟩ := h
  obtain ⟨a2, h⟩ := h
  refine g_callV [.ref (b + 0), .int (zI l1), .int (zI 0)] [] dX7_flowOf_3 tG_7_219 tM_113 lM_0 rfl rfl rfl rfl (by decide) rfl ?_
  refine gC.mono (c_getZ sa b E d _ (n := vI T 0 3) (by first | exact (zI_v _ _ _).symm | rfl) a1 a2 (by decide)) (Nat.le_refl _) ?_
  rintro _ _ ⟨rfl, h9⟩
  obtain rfl := h9.symm
  refine g_istore_n (L' := [some (.ref (b + 0)), some (.int (zI l1)), some (.int (zI (cV T (vI T 0 3).toNat l1.toNat 0))), none, none, none]) dX7_flowOf_6 rfl ?_
  refine g_iload_n dX7_flowOf_7 rfl ?_
  refine g_if_neZ dX7_flowOf_8 rfl ⟨vI_lo _ _ _, vI_hi _ _ _⟩  (fun c8 => ?_) (fun c8 => ?_)
  · replace h := h.1 c8
    refine g_iload_n dX7_flowOf_30 rfl ?_
    refine g_iconst (v := zI 2) dX7_flowOf_31 (by decide) ?_
    refine g_icmp_eqZ dX7_flowOf_32 rfl ⟨vI_lo _ _ _, vI_hi _ _ _⟩ (by decide) (fun c32 => ?_) (fun c32 => ?_)
    · replace h := h.1 c32
      exact h
    · replace h := h.2 c32
      refine g_iload_n dX7_flowOf_35 rfl ?_
      refine g_iconst (v := zI 3) dX7_flowOf_36 (by decide) ?_
      refine g_icmp_neZ dX7_flowOf_37 rfl ⟨vI_lo _ _ _, vI_hi _ _ _⟩ (by decide) (fun c37 => ?_) (fun c37 => ?_)
      · replace h := h.1 c37
        refine g_iload_n dX7_flowOf_79 rfl ?_
        refine g_iconst (v := zI 4) dX7_flowOf_80 (by decide) ?_
        refine g_icmp_neZ dX7_flowOf_81 rfl ⟨vI_lo _ _ _, vI_hi _ _ _⟩ (by decide) (fun c81 => ?_) (fun c81 => ?_)
        · replace h := h.1 c81
          refine g_iload_n dX7_flowOf_115 rfl ?_
          refine g_iconst (v := zI 5) dX7_flowOf_116 (by decide) ?_
          refine g_icmp_neZ dX7_flowOf_117 rfl ⟨vI_lo _ _ _, vI_hi _ _ _⟩ (by decide) (fun c117 => ?_) (fun c117 => ?_)
          · replace h := h.1 c117
            refine g_iload_n dX7_flowOf_160 rfl ?_
            refine g_bipush (v := zI 11) dX7_flowOf_161 (by decide) ?_
            refine g_icmp_neZ dX7_flowOf_163 rfl ⟨vI_lo _ _ _, vI_hi _ _ _⟩ (by decide) (fun c163 => ?_) (fun c163 => ?_)
            · replace h := h.1 c163
              exact g_vret dX7_flowOf_256 rfl h
            · replace h := h.2 c163
              refine g_aload_n dX7_flowOf_166 rfl ?_
              refine g_getR dX7_flowOf_167 tF_7_35 lM_0 rfl ?_
              refine g_aload_n dX7_flowOf_170 rfl ?_
              refine g_iload_n dX7_flowOf_171 rfl ?_
              refine g_iconst (v := zI 3) dX7_flowOf_172 (by decide) ?_
              obtain ⟨a3, h⟩ := h
              refine g_callV [.ref (b + 0), .int (zI l1), .int (zI 3)] [.ref (b + 9)] dX7_flowOf_173 tG_7_219 tM_113 lM_0 rfl rfl rfl rfl (by decide) rfl ?_
              refine gC.mono (c_getZ sa b E d _ (n := vI T 0 3) (by first | exact (zI_v _ _ _).symm | rfl) a1 a3 (by decide)) (Nat.le_refl _) ?_
              rintro _ _ ⟨rfl, h9⟩
              obtain rfl := h9.symm
              obtain ⟨a4, h⟩ := h
              obtain ⟨a5, h⟩ := h
              refine g_laldZ (v := T.2.1 9 (cV T (vI T 0 3).toNat l1.toNat 3).toNat) dX7_flowOf_176 lM_9 a4 a5 (by decide) rfl ?_
              refine g_lstore_n (L' := [some (.ref (b + 0)), some (.int (zI l1)), some (.int (zI (cV T (vI T 0 3).toNat l1.toNat 0))), some (.long (T.2.1 9 (cV T (vI T 0 3).toNat l1.toNat 3).toNat)), none, none]) dX7_flowOf_177 rfl ?_
              refine g_iconst (v := zI 0) dX7_flowOf_178 (by decide) ?_
              refine g_istore (L' := [some (.ref (b + 0)), some (.int (zI l1)), some (.int (zI (cV T (vI T 0 3).toNat l1.toNat 0))), some (.long (T.2.1 9 (cV T (vI T 0 3).toNat l1.toNat 3).toNat)), none, some (.int (zI 0))]) dX7_flowOf_179 rfl ?_
              exact h
          · replace h := h.2 c117
            refine g_aload_n dX7_flowOf_120 rfl ?_
            refine g_aload_n dX7_flowOf_121 rfl ?_
            refine g_iload_n dX7_flowOf_122 rfl ?_
            refine g_iconst (v := zI 1) dX7_flowOf_123 (by decide) ?_
            obtain ⟨a6, h⟩ := h
            refine g_callV [.ref (b + 0), .int (zI l1), .int (zI 1)] [.ref (b + 0)] dX7_flowOf_124 tG_7_219 tM_113 lM_0 rfl rfl rfl rfl (by decide) rfl ?_
            refine gC.mono (c_getZ sa b E d _ (n := vI T 0 3) (by first | exact (zI_v _ _ _).symm | rfl) a1 a6 (by decide)) (Nat.le_refl _) ?_
            rintro _ _ ⟨rfl, h9⟩
            obtain rfl := h9.symm
            refine g_aload_n dX7_flowOf_127 rfl ?_
            refine g_getR dX7_flowOf_128 tF_7_35 lM_0 rfl ?_
            refine g_aload_n dX7_flowOf_131 rfl ?_
            refine g_iload_n dX7_flowOf_132 rfl ?_
            refine g_iconst (v := zI 3) dX7_flowOf_133 (by decide) ?_
            obtain ⟨a7, h⟩ := h
            refine g_callV [.ref (b + 0), .int (zI l1), .int (zI 3)] [.ref (b + 9), .int (zI (cV T (vI T 0 3).toNat l1.toNat 1)), .ref (b + 0)] dX7_flowOf_134 tG_7_219 tM_113 lM_0 rfl rfl rfl rfl (by decide) rfl ?_
            refine gC.mono (c_getZ sa b E d _ (n := vI T 0 3) (by first | exact (zI_v _ _ _).symm | rfl) a1 a7 (by decide)) (Nat.le_refl _) ?_
            rintro _ _ ⟨rfl, h9⟩
            obtain rfl := h9.symm
            obtain ⟨a8, h⟩ := h
            obtain ⟨a9, h⟩ := h
            refine g_laldZ (v := T.2.1 9 (cV T (vI T 0 3).toNat l1.toNat 3).toNat) dX7_flowOf_137 lM_9 a8 a9 (by decide) rfl ?_
            refine g_callV [.ref (b + 0), .int (zI (cV T (vI T 0 3).toNat l1.toNat 1)), .long (T.2.1 9 (cV T (vI T 0 3).toNat l1.toNat 3).toNat)] [] dX7_flowOf_138 tG_7_236 tM_133 lM_0 rfl rfl rfl rfl (by decide) rfl ?_
            refine gC.mono h (Nat.le_refl _) ?_
            rintro _ T138 ⟨rfl, h⟩
            refine g_aload_n dX7_flowOf_141 rfl ?_
            refine g_iload_n dX7_flowOf_142 rfl ?_
            refine g_aload_n dX7_flowOf_143 rfl ?_
            refine g_getR dX7_flowOf_144 tF_7_35 lM_0 rfl ?_
            refine g_aload_n dX7_flowOf_147 rfl ?_
            refine g_iload_n dX7_flowOf_148 rfl ?_
            refine g_iconst (v := zI 4) dX7_flowOf_149 (by decide) ?_
            obtain ⟨a10, h⟩ := h
            obtain ⟨a11, h⟩ := h
            refine g_callV [.ref (b + 0), .int (zI l1), .int (zI 4)] [.ref (b + 9), .int (zI l1), .ref (b + 0)] dX7_flowOf_150 tG_7_219 tM_113 lM_0 rfl rfl rfl rfl (by decide) rfl ?_
            refine gC.mono (c_getZ sa b E d _ (n := vI T138 0 3) (by first | exact (zI_v _ _ _).symm | rfl) a10 a11 (by decide)) (Nat.le_refl _) ?_
            rintro _ _ ⟨rfl, h9⟩
            obtain rfl := h9.symm
            obtain ⟨a12, h⟩ := h
            obtain ⟨a13, h⟩ := h
            refine g_laldZ (v := T138.2.1 9 (cV T138 (vI T138 0 3).toNat l1.toNat 4).toNat) dX7_flowOf_153 lM_9 a12 a13 (by decide) rfl ?_
            refine g_callV [.ref (b + 0), .int (zI l1), .long (T138.2.1 9 (cV T138 (vI T138 0 3).toNat l1.toNat 4).toNat)] [] dX7_flowOf_154 tG_7_232 tM_132 lM_0 rfl rfl rfl rfl (by decide) rfl ?_
            refine gC.mono h (Nat.le_refl _) ?_
            rintro _ T154 ⟨rfl, h⟩
            refine g_goto dX7_flowOf_157 rfl ?_
            exact g_vret dX7_flowOf_256 rfl h
        · replace h := h.2 c81
          refine g_aload_n dX7_flowOf_84 rfl ?_
          refine g_iload_n dX7_flowOf_85 rfl ?_
          refine g_aload_n dX7_flowOf_86 rfl ?_
          refine g_getR dX7_flowOf_87 tF_7_35 lM_0 rfl ?_
          refine g_aload_n dX7_flowOf_90 rfl ?_
          refine g_iload_n dX7_flowOf_91 rfl ?_
          refine g_iconst (v := zI 4) dX7_flowOf_92 (by decide) ?_
          obtain ⟨a14, h⟩ := h
          refine g_callV [.ref (b + 0), .int (zI l1), .int (zI 4)] [.ref (b + 9), .int (zI l1), .ref (b + 0)] dX7_flowOf_93 tG_7_219 tM_113 lM_0 rfl rfl rfl rfl (by decide) rfl ?_
          refine gC.mono (c_getZ sa b E d _ (n := vI T 0 3) (by first | exact (zI_v _ _ _).symm | rfl) a1 a14 (by decide)) (Nat.le_refl _) ?_
          rintro _ _ ⟨rfl, h9⟩
          obtain rfl := h9.symm
          obtain ⟨a15, h⟩ := h
          obtain ⟨a16, h⟩ := h
          refine g_laldZ (v := T.2.1 9 (cV T (vI T 0 3).toNat l1.toNat 4).toNat) dX7_flowOf_96 lM_9 a15 a16 (by decide) rfl ?_
          refine g_aload_n dX7_flowOf_97 rfl ?_
          refine g_getR dX7_flowOf_98 tF_7_35 lM_0 rfl ?_
          refine g_aload_n dX7_flowOf_101 rfl ?_
          refine g_iload_n dX7_flowOf_102 rfl ?_
          refine g_iconst (v := zI 5) dX7_flowOf_103 (by decide) ?_
          obtain ⟨a17, h⟩ := h
          refine g_callV [.ref (b + 0), .int (zI l1), .int (zI 5)] [.ref (b + 9), .long (T.2.1 9 (cV T (vI T 0 3).toNat l1.toNat 4).toNat), .int (zI l1), .ref (b + 0)] dX7_flowOf_104 tG_7_219 tM_113 lM_0 rfl rfl rfl rfl (by decide) rfl ?_
          refine gC.mono (c_getZ sa b E d _ (n := vI T 0 3) (by first | exact (zI_v _ _ _).symm | rfl) a1 a17 (by decide)) (Nat.le_refl _) ?_
          rintro _ _ ⟨rfl, h9⟩
          obtain rfl := h9.symm
          obtain ⟨a18, h⟩ := h
          obtain ⟨a19, h⟩ := h
          refine g_laldZ (v := T.2.1 9 (cV T (vI T 0 3).toNat l1.toNat 5).toNat) dX7_flowOf_107 lM_9 a18 a19 (by decide) rfl ?_
          refine g_lor dX7_flowOf_108 ?_
          refine g_callV [.ref (b + 0), .int (zI l1), .long ((T.2.1 9 (cV T (vI T 0 3).toNat l1.toNat 4).toNat) ||| (T.2.1 9 (cV T (vI T 0 3).toNat l1.toNat 5).toNat))] [] dX7_flowOf_109 tG_7_232 tM_132 lM_0 rfl rfl rfl rfl (by decide) rfl ?_
          refine gC.mono h (Nat.le_refl _) ?_
          rintro _ T109 ⟨rfl, h⟩
          refine g_goto dX7_flowOf_112 rfl ?_
          exact g_vret dX7_flowOf_256 rfl h
      · replace h := h.2 c37
        exact h
  · replace h := h.2 c8
    refine g_aload_n dX7_flowOf_11 rfl ?_
    refine g_iload_n dX7_flowOf_12 rfl ?_
    refine g_aload_n dX7_flowOf_13 rfl ?_
    refine g_getR dX7_flowOf_14 tF_7_39 lM_0 rfl ?_
    refine g_aload_n dX7_flowOf_17 rfl ?_
    refine g_iload_n dX7_flowOf_18 rfl ?_
    refine g_iconst (v := zI 1) dX7_flowOf_19 (by decide) ?_
    obtain ⟨a20, h⟩ := h
    refine g_callV [.ref (b + 0), .int (zI l1), .int (zI 1)] [.ref (b + 10), .int (zI l1), .ref (b + 0)] dX7_flowOf_20 tG_7_219 tM_113 lM_0 rfl rfl rfl rfl (by decide) rfl ?_
    refine gC.mono (c_getZ sa b E d _ (n := vI T 0 3) (by first | exact (zI_v _ _ _).symm | rfl) a1 a20 (by decide)) (Nat.le_refl _) ?_
    rintro _ _ ⟨rfl, h9⟩
    obtain rfl := h9.symm
    obtain ⟨a21, h⟩ := h
    obtain ⟨a22, h⟩ := h
    refine g_laldZ (v := T.2.1 10 (cV T (vI T 0 3).toNat l1.toNat 1).toNat) dX7_flowOf_23 lM_10 a21 a22 (by decide) rfl ?_
    refine g_callV [.ref (b + 0), .int (zI l1), .long (T.2.1 10 (cV T (vI T 0 3).toNat l1.toNat 1).toNat)] [] dX7_flowOf_24 tG_7_232 tM_132 lM_0 rfl rfl rfl rfl (by decide) rfl ?_
    refine gC.mono h (Nat.le_refl _) ?_
    rintro _ T24 ⟨rfl, h⟩
    refine g_goto dX7_flowOf_27 rfl ?_
    exact g_vret dX7_flowOf_256 rfl h
def f_X7_flowOf_40 (sa : Nat → Nat) (b : Nat) (E : Nat × mH) (d : Nat) (l1 : Int) (l2 : Int) (T : gT) (Q : Option Value → gT → Prop) : Prop := 0 ≤ l1 ∧ l1 < 200 ∧ gC (tP sa) lM b E (d + 1) mX7_joinExpr [.ref (b + 0), .int (zI l1), .long (1 <<< ((zI (vI T 5 l1.toNat)).toInt64 &&& 63))] T (fun r T50 => pV r ((-2147483648 ≤ l2 ∧ l2 < 2147483648) ∧ ((¬ l2 = 3 → Q none T50) ∧ (l2 = 3 → (vI T50 0 3 = 0 ∨ vI T50 0 3 = 1) ∧ (0 ≤ l1 ∧ l1 < 200) ∧ gC (tP sa) lM b E (d + 1) mX7_joinVariable [.ref (b + 0), .int (zI (cV T50 (vI T50 0 3).toNat l1.toNat 2)), .long (1 <<< ((zI (vI T50 5 l1.toNat)).toInt64 &&& 63))] T50 (fun r T73 => pV r (Q none T73))))))
set_option maxRecDepth 4000 in
theorem w_X7_flowOf_40 {sa : Nat → Nat} {b : Nat} {E : Nat × mH} {d : Nat} {l1 : Int} {l2 : Int} {T : gT} {Q : Option Value → gT → Prop} (h : f_X7_flowOf_40 sa b E d l1 l2 T Q) : gW (tP sa) lM b E (d + 1 + 1) mX7_flowOf 40 [some (.ref (b + 0)), some (.int (zI l1)), some (.int (zI l2)), none, none, none] [] T Q := by
  unfold f_X7_flowOf_40 at h
  refine g_aload_n dX7_flowOf_40 rfl ?_
  refine g_iload_n dX7_flowOf_41 rfl ?_
  refine g_lconst (v := 1) dX7_flowOf_42 (by decide) ?_
  refine g_aload_n dX7_flowOf_43 rfl ?_
  refine g_getR dX7_flowOf_44 tF_7_23 lM_0 rfl ?_
  refine g_iload_n dX7_flowOf_47 rfl ?_
  obtain ⟨a1, h⟩ := h
  obtain ⟨a2, h⟩ := h
  refine g_ialdZ (v := vI T 5 l1.toNat) dX7_flowOf_48 lM_5 a1 a2 (by decide) (zI_v T 5 l1.toNat) ?_
  refine g_lshl dX7_flowOf_49 ?_
  refine g_callV [.ref (b + 0), .int (zI l1), .long (1 <<< ((zI (vI T 5 l1.toNat)).toInt64 &&& 63))] [] dX7_flowOf_50 tG_7_232 tM_132 lM_0 rfl rfl rfl rfl (by decide) rfl ?_
  refine gC.mono h (Nat.le_refl _) ?_
  rintro _ T50 ⟨rfl, h⟩
  refine g_iload_n dX7_flowOf_53 rfl ?_
  refine g_iconst (v := zI 3) dX7_flowOf_54 (by decide) ?_
  obtain ⟨a3, h⟩ := h
  refine g_icmp_neZ dX7_flowOf_55 rfl a3 (by decide) (fun c55 => ?_) (fun c55 => ?_)
  · replace h := h.1 c55
    exact g_vret dX7_flowOf_256 rfl h
  · replace h := h.2 c55
    refine g_aload_n dX7_flowOf_58 rfl ?_
    refine g_aload_n dX7_flowOf_59 rfl ?_
    refine g_iload_n dX7_flowOf_60 rfl ?_
    refine g_iconst (v := zI 2) dX7_flowOf_61 (by decide) ?_
    obtain ⟨a4, h⟩ := h
    obtain ⟨a5, h⟩ := h
    refine g_callV [.ref (b + 0), .int (zI l1), .int (zI 2)] [.ref (b + 0)] dX7_flowOf_62 tG_7_219 tM_113 lM_0 rfl rfl rfl rfl (by decide) rfl ?_
    refine gC.mono (c_getZ sa b E d _ (n := vI T50 0 3) (by first | exact (zI_v _ _ _).symm | rfl) a4 a5 (by decide)) (Nat.le_refl _) ?_
    rintro _ _ ⟨rfl, h9⟩
    obtain rfl := h9.symm
    refine g_lconst (v := 1) dX7_flowOf_65 (by decide) ?_
    refine g_aload_n dX7_flowOf_66 rfl ?_
    refine g_getR dX7_flowOf_67 tF_7_23 lM_0 rfl ?_
    refine g_iload_n dX7_flowOf_70 rfl ?_
    refine g_ialdZ (v := vI T50 5 l1.toNat) dX7_flowOf_71 lM_5 a1 a2 (by decide) (zI_v T50 5 l1.toNat) ?_
    refine g_lshl dX7_flowOf_72 ?_
    refine g_callV [.ref (b + 0), .int (zI (cV T50 (vI T50 0 3).toNat l1.toNat 2)), .long (1 <<< ((zI (vI T50 5 l1.toNat)).toInt64 &&& 63))] [] dX7_flowOf_73 tG_7_236 tM_133 lM_0 rfl rfl rfl rfl (by decide) rfl ?_
    refine gC.mono h (Nat.le_refl _) ?_
    rintro _ T73 ⟨rfl, h⟩
    refine g_goto dX7_flowOf_76 rfl ?_
    exact g_vret dX7_flowOf_256 rfl h
def f_X7_flowOf_181 (sa : Nat → Nat) (b : Nat) (E : Nat × mH) (d : Nat) (l1 : Int) (l2 : Int) (l3 : Int64) (l5 : Int) (T : gT) (Q : Option Value → gT → Prop) : Prop := (-2147483648 ≤ l5 ∧ l5 < 2147483648) ∧ (((vI T 0 8) ≤ l5 → Q none T) ∧ (¬ (vI T 0 8) ≤ l5 → ((¬ ((l3 >>> ((zI l5).toInt64 &&& 63)) &&& 1) = 1 → gW (tP sa) lM b E (d + 1 + 1) mX7_flowOf 181 [some (.ref (b + 0)), some (.int (zI l1)), some (.int (zI l2)), some (.long l3), none, some (.int (zI (l5 + 1)))] [] T Q) ∧ (((l3 >>> ((zI l5).toInt64 &&& 63)) &&& 1) = 1 → 0 ≤ l5 ∧ l5 < 50 ∧ (vI T 0 3 = 0 ∨ vI T 0 3 = 1) ∧ (0 ≤ vI T 6 l5.toNat ∧ vI T 6 l5.toNat < 200) ∧ (0 ≤ l1 ∧ l1 < 200) ∧ 0 ≤ cV T (vI T 0 3).toNat l1.toNat 4 ∧ cV T (vI T 0 3).toNat l1.toNat 4 < 200 ∧ gC (tP sa) lM b E (d + 1) mX7_joinVariable [.ref (b + 0), .int (zI (cV T (vI T 0 3).toNat (vI T 6 l5.toNat).toNat 1)), .long (T.2.1 9 (cV T (vI T 0 3).toNat l1.toNat 4).toNat)] T (fun r T225 => pV r ((vI T225 0 3 = 0 ∨ vI T225 0 3 = 1) ∧ (0 ≤ vI T225 6 l5.toNat ∧ vI T225 6 l5.toNat < 200) ∧ 0 ≤ cV T225 (vI T225 0 3).toNat (vI T225 6 l5.toNat).toNat 3 ∧ cV T225 (vI T225 0 3).toNat (vI T225 6 l5.toNat).toNat 3 < 200 ∧ gC (tP sa) lM b E (d + 1) mX7_joinExpr [.ref (b + 0), .int (zI l1), .long (T225.2.1 9 (cV T225 (vI T225 0 3).toNat (vI T225 6 l5.toNat).toNat 3).toNat)] T225 (fun r T247 => pV r (gW (tP sa) lM b E (d + 1 + 1) mX7_flowOf 181 [some (.ref (b + 0)), some (.int (zI l1)), some (.int (zI l2)), some (.long l3), none, some (.int (zI (l5 + 1)))] [] T247 Q))))))))
set_option maxRecDepth 4000 in
theorem w_X7_flowOf_181 {sa : Nat → Nat} {b : Nat} {E : Nat × mH} {d : Nat} {l1 : Int} {l2 : Int} {l3 : Int64} {l5 : Int} {T : gT} {Q : Option Value → gT → Prop} (h : f_X7_flowOf_181 sa b E d l1 l2 l3 l5 T Q) : gW (tP sa) lM b E (d + 1 + 1) mX7_flowOf 181 [some (.ref (b + 0)), some (.int (zI l1)), some (.int (zI l2)), some (.long l3), none, some (.int (zI l5))] [] T Q := by
  unfold f_X7_flowOf_181 at h
  refine g_iload dX7_flowOf_181 rfl ?_
  refine g_aload_n dX7_flowOf_183 rfl ?_
  refine g_getZ (v := vI T 0 8) dX7_flowOf_184 tF_7_216 lM_0 rfl (zI_v T 0 8) ?_
  obtain ⟨a1, h⟩ := h
  refine g_icmp_geZ dX7_flowOf_187 rfl a1 ⟨vI_lo _ _ _, vI_hi _ _ _⟩ (fun c187 => ?_) (fun c187 => ?_)
  · replace h := h.1 c187
    exact g_vret dX7_flowOf_256 rfl h
  · replace h := h.2 c187
    refine g_lload_n dX7_flowOf_190 rfl ?_
    refine g_iload dX7_flowOf_191 rfl ?_
    refine g_lshr dX7_flowOf_193 ?_
    refine g_lconst (v := 1) dX7_flowOf_194 (by decide) ?_
    refine g_land dX7_flowOf_195 ?_
    refine g_lconst (v := 1) dX7_flowOf_196 (by decide) ?_
    refine g_lcmp dX7_flowOf_197 ?_
    refine g_if_neL dX7_flowOf_198 rfl (fun c198 => ?_) (fun c198 => ?_)
    · replace h := h.1 c198
      refine g_iinc (x := zI l5) (v := zI (l5 + 1)) (L' := [some (.ref (b + 0)), some (.int (zI l1)), some (.int (zI l2)), some (.long l3), none, some (.int (zI (l5 + 1)))]) dX7_flowOf_250 rfl (zI_add _ _) rfl ?_
      refine g_goto dX7_flowOf_253 rfl ?_
      exact h
    · replace h := h.2 c198
      refine g_aload_n dX7_flowOf_201 rfl ?_
      refine g_aload_n dX7_flowOf_202 rfl ?_
      refine g_aload_n dX7_flowOf_203 rfl ?_
      refine g_getR dX7_flowOf_204 tF_7_26 lM_0 rfl ?_
      refine g_iload dX7_flowOf_207 rfl ?_
      obtain ⟨a2, h⟩ := h
      obtain ⟨a3, h⟩ := h
      refine g_ialdZ (v := vI T 6 l5.toNat) dX7_flowOf_209 lM_6 a2 a3 (by decide) (zI_v T 6 l5.toNat) ?_
      refine g_iconst (v := zI 1) dX7_flowOf_210 (by decide) ?_
      obtain ⟨a4, h⟩ := h
      obtain ⟨a5, h⟩ := h
      refine g_callV [.ref (b + 0), .int (zI (vI T 6 l5.toNat)), .int (zI 1)] [.ref (b + 0)] dX7_flowOf_211 tG_7_219 tM_113 lM_0 rfl rfl rfl rfl (by decide) rfl ?_
      refine gC.mono (c_getZ sa b E d _ (n := vI T 0 3) (by first | exact (zI_v _ _ _).symm | rfl) a4 a5 (by decide)) (Nat.le_refl _) ?_
      rintro _ _ ⟨rfl, h9⟩
      obtain rfl := h9.symm
      refine g_aload_n dX7_flowOf_214 rfl ?_
      refine g_getR dX7_flowOf_215 tF_7_35 lM_0 rfl ?_
      refine g_aload_n dX7_flowOf_218 rfl ?_
      refine g_iload_n dX7_flowOf_219 rfl ?_
      refine g_iconst (v := zI 4) dX7_flowOf_220 (by decide) ?_
      obtain ⟨a6, h⟩ := h
      refine g_callV [.ref (b + 0), .int (zI l1), .int (zI 4)] [.ref (b + 9), .int (zI (cV T (vI T 0 3).toNat (vI T 6 l5.toNat).toNat 1)), .ref (b + 0)] dX7_flowOf_221 tG_7_219 tM_113 lM_0 rfl rfl rfl rfl (by decide) rfl ?_
      refine gC.mono (c_getZ sa b E d _ (n := vI T 0 3) (by first | exact (zI_v _ _ _).symm | rfl) a4 a6 (by decide)) (Nat.le_refl _) ?_
      rintro _ _ ⟨rfl, h9⟩
      obtain rfl := h9.symm
      obtain ⟨a7, h⟩ := h
      obtain ⟨a8, h⟩ := h
      refine g_laldZ (v := T.2.1 9 (cV T (vI T 0 3).toNat l1.toNat 4).toNat) dX7_flowOf_224 lM_9 a7 a8 (by decide) rfl ?_
      refine g_callV [.ref (b + 0), .int (zI (cV T (vI T 0 3).toNat (vI T 6 l5.toNat).toNat 1)), .long (T.2.1 9 (cV T (vI T 0 3).toNat l1.toNat 4).toNat)] [] dX7_flowOf_225 tG_7_236 tM_133 lM_0 rfl rfl rfl rfl (by decide) rfl ?_
      refine gC.mono h (Nat.le_refl _) ?_
      rintro _ T225 ⟨rfl, h⟩
      refine g_aload_n dX7_flowOf_228 rfl ?_
      refine g_iload_n dX7_flowOf_229 rfl ?_
      refine g_aload_n dX7_flowOf_230 rfl ?_
      refine g_getR dX7_flowOf_231 tF_7_35 lM_0 rfl ?_
      refine g_aload_n dX7_flowOf_234 rfl ?_
      refine g_aload_n dX7_flowOf_235 rfl ?_
      refine g_getR dX7_flowOf_236 tF_7_26 lM_0 rfl ?_
      refine g_iload dX7_flowOf_239 rfl ?_
      refine g_ialdZ (v := vI T225 6 l5.toNat) dX7_flowOf_241 lM_6 a2 a3 (by decide) (zI_v T225 6 l5.toNat) ?_
      refine g_iconst (v := zI 3) dX7_flowOf_242 (by decide) ?_
      obtain ⟨a9, h⟩ := h
      obtain ⟨a10, h⟩ := h
      refine g_callV [.ref (b + 0), .int (zI (vI T225 6 l5.toNat)), .int (zI 3)] [.ref (b + 9), .int (zI l1), .ref (b + 0)] dX7_flowOf_243 tG_7_219 tM_113 lM_0 rfl rfl rfl rfl (by decide) rfl ?_
      refine gC.mono (c_getZ sa b E d _ (n := vI T225 0 3) (by first | exact (zI_v _ _ _).symm | rfl) a9 a10 (by decide)) (Nat.le_refl _) ?_
      rintro _ _ ⟨rfl, h9⟩
      obtain rfl := h9.symm
      obtain ⟨a11, h⟩ := h
      obtain ⟨a12, h⟩ := h
      refine g_laldZ (v := T225.2.1 9 (cV T225 (vI T225 0 3).toNat (vI T225 6 l5.toNat).toNat 3).toNat) dX7_flowOf_246 lM_9 a11 a12 (by decide) rfl ?_
      refine g_callV [.ref (b + 0), .int (zI l1), .long (T225.2.1 9 (cV T225 (vI T225 0 3).toNat (vI T225 6 l5.toNat).toNat 3).toNat)] [] dX7_flowOf_247 tG_7_232 tM_132 lM_0 rfl rfl rfl rfl (by decide) rfl ?_
      refine gC.mono h (Nat.le_refl _) ?_
      rintro _ T247 ⟨rfl, h⟩
      refine g_iinc (x := zI l5) (v := zI (l5 + 1)) (L' := [some (.ref (b + 0)), some (.int (zI l1)), some (.int (zI l2)), some (.long l3), none, some (.int (zI (l5 + 1)))]) dX7_flowOf_250 rfl (zI_add _ _) rfl ?_
      refine g_goto dX7_flowOf_253 rfl ?_
      exact h
def f_X7_countBits (sa : Nat → Nat) (b : Nat) (E : Nat × mH) (d : Nat) (l0 : Int64) (T : gT) (Q : Option Value → gT → Prop) : Prop := gW (tP sa) lM b E d mX7_countBits 4 [some (.long l0), none, some (.int (zI 0)), some (.int (zI 0))] [] T Q
set_option maxRecDepth 4000 in
theorem w_X7_countBits {sa : Nat → Nat} {b : Nat} {E : Nat × mH} {d : Nat} {l0 : Int64} {T : gT} {Q : Option Value → gT → Prop} (h : f_X7_countBits sa b E d l0 T Q) : gC (tP sa) lM b E d mX7_countBits [.long l0] T Q := by
  unfold f_X7_countBits at h
  refine ⟨Nat.le_of_ble_eq_true rfl, ?_⟩
  show gW (tP sa) lM b E d mX7_countBits 0 [some (.long l0), none, none, none] [] T Q
  refine g_iconst (v := zI 0) dX7_countBits_0 (by decide) ?_
  refine g_istore_n (L' := [some (.long l0), none, some (.int (zI 0)), none]) dX7_countBits_1 rfl ?_
  refine g_iconst (v := zI 0) dX7_countBits_2 (by decide) ?_
  refine g_istore_n (L' := [some (.long l0), none, some (.int (zI 0)), some (.int (zI 0))]) dX7_countBits_3 rfl ?_
  exact h
def f_X7_countBits_4 (sa : Nat → Nat) (b : Nat) (E : Nat × mH) (d : Nat) (l0 : Int64) (l2 : Int) (l3 : Int) (T : gT) (Q : Option Value → gT → Prop) : Prop := (-2147483648 ≤ l3 ∧ l3 < 2147483648) ∧ ((64 ≤ l3 → Q (some (.int (zI l2))) T) ∧ (¬ 64 ≤ l3 → gW (tP sa) lM b E d mX7_countBits 4 [some (.long l0), none, some (.int (zI ((((zI l2).toInt64) + ((l0 >>> ((zI l3).toInt64 &&& 63)) &&& 1)).toInt32.toInt))), some (.int (zI (l3 + 1)))] [] T Q))
set_option maxRecDepth 4000 in
theorem w_X7_countBits_4 {sa : Nat → Nat} {b : Nat} {E : Nat × mH} {d : Nat} {l0 : Int64} {l2 : Int} {l3 : Int} {T : gT} {Q : Option Value → gT → Prop} (h : f_X7_countBits_4 sa b E d l0 l2 l3 T Q) : gW (tP sa) lM b E d mX7_countBits 4 [some (.long l0), none, some (.int (zI l2)), some (.int (zI l3))] [] T Q := by
  unfold f_X7_countBits_4 at h
  refine g_iload_n dX7_countBits_4 rfl ?_
  refine g_bipush (v := zI 64) dX7_countBits_5 (by decide) ?_
  obtain ⟨a1, h⟩ := h
  refine g_icmp_geZ dX7_countBits_7 rfl a1 (by decide) (fun c7 => ?_) (fun c7 => ?_)
  · replace h := h.1 c7
    refine g_iload_n dX7_countBits_26 rfl ?_
    exact g_iret dX7_countBits_27 rfl rfl h
  · replace h := h.2 c7
    refine g_iload_n dX7_countBits_10 rfl ?_
    refine g_i2l dX7_countBits_11 ?_
    refine g_lload_n dX7_countBits_12 rfl ?_
    refine g_iload_n dX7_countBits_13 rfl ?_
    refine g_lshr dX7_countBits_14 ?_
    refine g_lconst (v := 1) dX7_countBits_15 (by decide) ?_
    refine g_land dX7_countBits_16 ?_
    refine g_ladd dX7_countBits_17 ?_
    refine g_l2iZ dX7_countBits_18 ?_
    refine g_istore_n (L' := [some (.long l0), none, some (.int (zI ((((zI l2).toInt64) + ((l0 >>> ((zI l3).toInt64 &&& 63)) &&& 1)).toInt32.toInt))), some (.int (zI l3))]) dX7_countBits_19 rfl ?_
    refine g_iinc (x := zI l3) (v := zI (l3 + 1)) (L' := [some (.long l0), none, some (.int (zI ((((zI l2).toInt64) + ((l0 >>> ((zI l3).toInt64 &&& 63)) &&& 1)).toInt32.toInt))), some (.int (zI (l3 + 1)))]) dX7_countBits_20 rfl (zI_add _ _) rfl ?_
    refine g_goto dX7_countBits_23 rfl ?_
    exact h
def f_X7_only (sa : Nat → Nat) (b : Nat) (E : Nat × mH) (d : Nat) (l1 : Int) (T : gT) (Q : Option Value → gT → Prop) : Prop := gW (tP sa) lM b E (d + 1 + 1) mX7_only 2 [some (.ref (b + 0)), some (.int (zI l1)), some (.int (zI 0))] [] T Q
set_option maxRecDepth 4000 in
theorem w_X7_only {sa : Nat → Nat} {b : Nat} {E : Nat × mH} {d : Nat} {l1 : Int} {T : gT} {Q : Option Value → gT → Prop} (h : f_X7_only sa b E d l1 T Q) : gC (tP sa) lM b E (d + 1 + 1) mX7_only [.ref (b + 0), .int (zI l1)] T Q := by
  unfold f_X7_only at h
  refine ⟨Nat.le_of_ble_eq_true rfl, ?_⟩
  show gW (tP sa) lM b E (d + 1 + 1) mX7_only 0 [some (.ref (b + 0)), some (.int (zI l1)), none] [] T Q
  refine g_iconst (v := zI 0) dX7_only_0 (by decide) ?_
  refine g_istore_n (L' := [some (.ref (b + 0)), some (.int (zI l1)), some (.int (zI 0))]) dX7_only_1 rfl ?_
  exact h
def f_X7_only_2 (sa : Nat → Nat) (b : Nat) (E : Nat × mH) (d : Nat) (l1 : Int) (l2 : Int) (T : gT) (Q : Option Value → gT → Prop) : Prop := (vI T 0 3 = 0 ∨ vI T 0 3 = 1) ∧ (0 ≤ l1 ∧ l1 < 200) ∧ 0 ≤ cV T (vI T 0 3).toNat l1.toNat 3 ∧ cV T (vI T 0 3).toNat l1.toNat 3 < 200 ∧ ((¬ (((T.2.1 9 (cV T (vI T 0 3).toNat l1.toNat 3).toNat) >>> ((zI l2).toInt64 &&& 63)) &&& 1) = 0 → Q (some (.int (zI l2))) T) ∧ ((((T.2.1 9 (cV T (vI T 0 3).toNat l1.toNat 3).toNat) >>> ((zI l2).toInt64 &&& 63)) &&& 1) = 0 → gW (tP sa) lM b E (d + 1 + 1) mX7_only 2 [some (.ref (b + 0)), some (.int (zI l1)), some (.int (zI (l2 + 1)))] [] T Q))
set_option maxRecDepth 4000 in
theorem w_X7_only_2 {sa : Nat → Nat} {b : Nat} {E : Nat × mH} {d : Nat} {l1 : Int} {l2 : Int} {T : gT} {Q : Option Value → gT → Prop} (h : f_X7_only_2 sa b E d l1 l2 T Q) : gW (tP sa) lM b E (d + 1 + 1) mX7_only 2 [some (.ref (b + 0)), some (.int (zI l1)), some (.int (zI l2))] [] T Q := by
  unfold f_X7_only_2 at h
  refine g_aload_n dX7_only_2 rfl ?_
  refine g_getR dX7_only_3 tF_7_35 lM_0 rfl ?_
  refine g_aload_n dX7_only_6 rfl ?_
  refine g_iload_n dX7_only_7 rfl ?_
  refine g_iconst (v := zI 3) dX7_only_8 (by decide) ?_
  obtain ⟨a1, h⟩ := h
  obtain ⟨a2, h⟩ := h
  refine g_callV [.ref (b + 0), .int (zI l1), .int (zI 3)] [.ref (b + 9)] dX7_only_9 tG_7_219 tM_113 lM_0 rfl rfl rfl rfl (by decide) rfl ?_
  refine gC.mono (c_getZ sa b E d _ (n := vI T 0 3) (by first | exact (zI_v _ _ _).symm | rfl) a1 a2 (by decide)) (Nat.le_refl _) ?_
  rintro _ _ ⟨rfl, h9⟩
  obtain rfl := h9.symm
  obtain ⟨a3, h⟩ := h
  obtain ⟨a4, h⟩ := h
  refine g_laldZ (v := T.2.1 9 (cV T (vI T 0 3).toNat l1.toNat 3).toNat) dX7_only_12 lM_9 a3 a4 (by decide) rfl ?_
  refine g_iload_n dX7_only_13 rfl ?_
  refine g_lshr dX7_only_14 ?_
  refine g_lconst (v := 1) dX7_only_15 (by decide) ?_
  refine g_land dX7_only_16 ?_
  refine g_lconst (v := 0) dX7_only_17 (by decide) ?_
  refine g_lcmp dX7_only_18 ?_
  refine g_if_neL dX7_only_19 rfl (fun c19 => ?_) (fun c19 => ?_)
  · replace h := h.1 c19
    refine g_iload_n dX7_only_28 rfl ?_
    exact g_iret dX7_only_29 rfl rfl h
  · replace h := h.2 c19
    refine g_iinc (x := zI l2) (v := zI (l2 + 1)) (L' := [some (.ref (b + 0)), some (.int (zI l1)), some (.int (zI (l2 + 1)))]) dX7_only_22 rfl (zI_add _ _) rfl ?_
    refine g_goto dX7_only_25 rfl ?_
    exact h
def f_X7_freeOf (sa : Nat → Nat) (b : Nat) (E : Nat × mH) (d : Nat) (l1 : Int) (T : gT) (Q : Option Value → gT → Prop) : Prop := 0 ≤ l1 ∧ l1 < 50 ∧ gW (tP sa) lM b E (d + 1 + 1) mX7_freeOf 9 [some (.ref (b + 0)), some (.int (zI l1)), some (.int (zI (vI T 6 l1.toNat))), some (.int (zI 0)), none] [] T Q
set_option maxRecDepth 4000 in
theorem w_X7_freeOf {sa : Nat → Nat} {b : Nat} {E : Nat × mH} {d : Nat} {l1 : Int} {T : gT} {Q : Option Value → gT → Prop} (h : f_X7_freeOf sa b E d l1 T Q) : gC (tP sa) lM b E (d + 1 + 1) mX7_freeOf [.ref (b + 0), .int (zI l1)] T Q := by
  unfold f_X7_freeOf at h
  refine ⟨Nat.le_of_ble_eq_true rfl, ?_⟩
  show gW (tP sa) lM b E (d + 1 + 1) mX7_freeOf 0 [some (.ref (b + 0)), some (.int (zI l1)), none, none, none] [] T Q
  refine g_aload_n dX7_freeOf_0 rfl ?_
  refine g_getR dX7_freeOf_1 tF_7_26 lM_0 rfl ?_
  refine g_iload_n dX7_freeOf_4 rfl ?_
  obtain ⟨a1, h⟩ := h
  obtain ⟨a2, h⟩ := h
  refine g_ialdZ (v := vI T 6 l1.toNat) dX7_freeOf_5 lM_6 a1 a2 (by decide) (zI_v T 6 l1.toNat) ?_
  refine g_istore_n (L' := [some (.ref (b + 0)), some (.int (zI l1)), some (.int (zI (vI T 6 l1.toNat))), none, none]) dX7_freeOf_6 rfl ?_
  refine g_iconst (v := zI 0) dX7_freeOf_7 (by decide) ?_
  refine g_istore_n (L' := [some (.ref (b + 0)), some (.int (zI l1)), some (.int (zI (vI T 6 l1.toNat))), some (.int (zI 0)), none]) dX7_freeOf_8 rfl ?_
  exact h
def f_X7_freeOf_9 (sa : Nat → Nat) (b : Nat) (E : Nat × mH) (d : Nat) (l1 : Int) (l2 : Int) (l3 : Int) (T : gT) (Q : Option Value → gT → Prop) : Prop := (-2147483648 ≤ l3 ∧ l3 < 2147483648) ∧ ((100 ≤ l3 → gW (tP sa) lM b E (d + 1 + 1) mX7_freeOf 30 [some (.ref (b + 0)), some (.int (zI l1)), some (.int (zI l2)), some (.int (zI l2)), none] [] T Q) ∧ (¬ 100 ≤ l3 → 0 ≤ l3 ∧ l3 < 100 ∧ gW (tP sa) lM b E (d + 1 + 1) mX7_freeOf 9 [some (.ref (b + 0)), some (.int (zI l1)), some (.int (zI l2)), some (.int (zI (l3 + 1))), none] [] (gI T 15 l3.toNat (zI 0)) Q))
set_option maxRecDepth 4000 in
theorem w_X7_freeOf_9 {sa : Nat → Nat} {b : Nat} {E : Nat × mH} {d : Nat} {l1 : Int} {l2 : Int} {l3 : Int} {T : gT} {Q : Option Value → gT → Prop} (h : f_X7_freeOf_9 sa b E d l1 l2 l3 T Q) : gW (tP sa) lM b E (d + 1 + 1) mX7_freeOf 9 [some (.ref (b + 0)), some (.int (zI l1)), some (.int (zI l2)), some (.int (zI l3)), none] [] T Q := by
  unfold f_X7_freeOf_9 at h
  refine g_iload_n dX7_freeOf_9 rfl ?_
  refine g_bipush (v := zI 100) dX7_freeOf_10 (by decide) ?_
  obtain ⟨a1, h⟩ := h
  refine g_icmp_geZ dX7_freeOf_12 rfl a1 (by decide) (fun c12 => ?_) (fun c12 => ?_)
  · replace h := h.1 c12
    refine g_iload_n dX7_freeOf_28 rfl ?_
    refine g_istore_n (L' := [some (.ref (b + 0)), some (.int (zI l1)), some (.int (zI l2)), some (.int (zI l2)), none]) dX7_freeOf_29 rfl ?_
    exact h
  · replace h := h.2 c12
    refine g_aload_n dX7_freeOf_15 rfl ?_
    refine g_getR dX7_freeOf_16 tF_7_54 lM_0 rfl ?_
    refine g_iload_n dX7_freeOf_19 rfl ?_
    refine g_iconst (v := zI 0) dX7_freeOf_20 (by decide) ?_
    obtain ⟨a2, h⟩ := h
    obtain ⟨a3, h⟩ := h
    refine g_zastZ dX7_freeOf_21 lM_15 a2 a3 (by decide) (by decide) ?_
    refine g_iinc (x := zI l3) (v := zI (l3 + 1)) (L' := [some (.ref (b + 0)), some (.int (zI l1)), some (.int (zI l2)), some (.int (zI (l3 + 1))), none]) dX7_freeOf_22 rfl (zI_add _ _) rfl ?_
    refine g_goto dX7_freeOf_25 rfl ?_
    exact h
def f_X7_freeOf_30 (sa : Nat → Nat) (b : Nat) (E : Nat × mH) (d : Nat) (l1 : Int) (l2 : Int) (l3 : Int) (T : gT) (Q : Option Value → gT → Prop) : Prop := 0 ≤ vI T 0 3 ∧ vI T 0 3 < 2 ∧ (-2147483648 ≤ l3 ∧ l3 < 2147483648) ∧ (((vI T 2 (vI T 0 3).toNat) ≤ l3 → gW (tP sa) lM b E (d + 1 + 1) mX7_freeOf 81 [some (.ref (b + 0)), some (.int (zI l1)), some (.int (zI l2)), some (.int (zI l2)), none] [] T Q) ∧ (¬ (vI T 2 (vI T 0 3).toNat) ≤ l3 → (vI T 0 3 = 0 ∨ vI T 0 3 = 1) ∧ (0 ≤ l3 ∧ l3 < 200) ∧ ((¬ (cV T (vI T 0 3).toNat l3.toNat 0) = 0 → gW (tP sa) lM b E (d + 1 + 1) mX7_freeOf 30 [some (.ref (b + 0)), some (.int (zI l1)), some (.int (zI l2)), some (.int (zI (l3 + 1))), none] [] T Q) ∧ ((cV T (vI T 0 3).toNat l3.toNat 0) = 0 → gC (tP sa) lM b E (d + 1) mX7_isIn [.ref (b + 0), .int (zI l3), .int (zI l2)] T (fun r T55 => pI r (fun v55 => (-2147483648 ≤ v55 ∧ v55 < 2147483648) ∧ ((v55 = 0 → gW (tP sa) lM b E (d + 1 + 1) mX7_freeOf 30 [some (.ref (b + 0)), some (.int (zI l1)), some (.int (zI l2)), some (.int (zI (l3 + 1))), none] [] T55 Q) ∧ (¬ v55 = 0 → (vI T55 0 3 = 0 ∨ vI T55 0 3 = 1) ∧ (0 ≤ l3 ∧ l3 < 200) ∧ 0 ≤ cV T55 (vI T55 0 3).toNat l3.toNat 1 ∧ cV T55 (vI T55 0 3).toNat l3.toNat 1 < 100 ∧ gW (tP sa) lM b E (d + 1 + 1) mX7_freeOf 30 [some (.ref (b + 0)), some (.int (zI l1)), some (.int (zI l2)), some (.int (zI (l3 + 1))), none] [] (gI T55 15 (cV T55 (vI T55 0 3).toNat l3.toNat 1).toNat (zI 1)) Q))))))))
set_option maxRecDepth 4000 in
theorem w_X7_freeOf_30 {sa : Nat → Nat} {b : Nat} {E : Nat × mH} {d : Nat} {l1 : Int} {l2 : Int} {l3 : Int} {T : gT} {Q : Option Value → gT → Prop} (h : f_X7_freeOf_30 sa b E d l1 l2 l3 T Q) : gW (tP sa) lM b E (d + 1 + 1) mX7_freeOf 30 [some (.ref (b + 0)), some (.int (zI l1)), some (.int (zI l2)), some (.int (zI l3)), none] [] T Q := by
  unfold f_X7_freeOf_30 at h
  refine g_iload_n dX7_freeOf_30 rfl ?_
  refine g_aload_n dX7_freeOf_31 rfl ?_
  refine g_getR dX7_freeOf_32 tF_7_13 lM_0 rfl ?_
  refine g_aload_n dX7_freeOf_35 rfl ?_
  refine g_getZ (v := vI T 0 3) dX7_freeOf_36 tF_7_101 lM_0 rfl (zI_v T 0 3) ?_
  obtain ⟨a1, h⟩ := h
  obtain ⟨a2, h⟩ := h
  refine g_ialdZ (v := vI T 2 (vI T 0 3).toNat) dX7_freeOf_39 lM_2 a1 a2 (by decide) (zI_v T 2 (vI T 0 3).toNat) ?_
  obtain ⟨a3, h⟩ := h
  refine g_icmp_geZ dX7_freeOf_40 rfl a3 ⟨vI_lo _ _ _, vI_hi _ _ _⟩ (fun c40 => ?_) (fun c40 => ?_)
  · replace h := h.1 c40
    refine g_iload_n dX7_freeOf_79 rfl ?_
    refine g_istore_n (L' := [some (.ref (b + 0)), some (.int (zI l1)), some (.int (zI l2)), some (.int (zI l2)), none]) dX7_freeOf_80 rfl ?_
    exact h
  · replace h := h.2 c40
    refine g_aload_n dX7_freeOf_43 rfl ?_
    refine g_iload_n dX7_freeOf_44 rfl ?_
    refine g_iconst (v := zI 0) dX7_freeOf_45 (by decide) ?_
    obtain ⟨a4, h⟩ := h
    obtain ⟨a5, h⟩ := h
    refine g_callV [.ref (b + 0), .int (zI l3), .int (zI 0)] [] dX7_freeOf_46 tG_7_219 tM_113 lM_0 rfl rfl rfl rfl (by decide) rfl ?_
    refine gC.mono (c_getZ sa b E d _ (n := vI T 0 3) (by first | exact (zI_v _ _ _).symm | rfl) a4 a5 (by decide)) (Nat.le_refl _) ?_
    rintro _ _ ⟨rfl, h9⟩
    obtain rfl := h9.symm
    refine g_if_neZ dX7_freeOf_49 rfl ⟨vI_lo _ _ _, vI_hi _ _ _⟩  (fun c49 => ?_) (fun c49 => ?_)
    · replace h := h.1 c49
      refine g_iinc (x := zI l3) (v := zI (l3 + 1)) (L' := [some (.ref (b + 0)), some (.int (zI l1)), some (.int (zI l2)), some (.int (zI (l3 + 1))), none]) dX7_freeOf_73 rfl (zI_add _ _) rfl ?_
      refine g_goto dX7_freeOf_76 rfl ?_
      exact h
    · replace h := h.2 c49
      refine g_aload_n dX7_freeOf_52 rfl ?_
      refine g_iload_n dX7_freeOf_53 rfl ?_
      refine g_iload_n dX7_freeOf_54 rfl ?_
      refine g_callV [.ref (b + 0), .int (zI l3), .int (zI l2)] [] dX7_freeOf_55 tG_7_243 tM_141 lM_0 rfl rfl rfl rfl (by decide) rfl ?_
      refine gC.mono h (Nat.le_refl _) ?_
      rintro _ T55 ⟨v55, rfl, h⟩
      obtain ⟨a6, h⟩ := h
      refine g_if_eqZ dX7_freeOf_58 rfl a6  (fun c58 => ?_) (fun c58 => ?_)
      · replace h := h.1 c58
        refine g_iinc (x := zI l3) (v := zI (l3 + 1)) (L' := [some (.ref (b + 0)), some (.int (zI l1)), some (.int (zI l2)), some (.int (zI (l3 + 1))), none]) dX7_freeOf_73 rfl (zI_add _ _) rfl ?_
        refine g_goto dX7_freeOf_76 rfl ?_
        exact h
      · replace h := h.2 c58
        refine g_aload_n dX7_freeOf_61 rfl ?_
        refine g_getR dX7_freeOf_62 tF_7_54 lM_0 rfl ?_
        refine g_aload_n dX7_freeOf_65 rfl ?_
        refine g_iload_n dX7_freeOf_66 rfl ?_
        refine g_iconst (v := zI 1) dX7_freeOf_67 (by decide) ?_
        obtain ⟨a7, h⟩ := h
        obtain ⟨a8, h⟩ := h
        refine g_callV [.ref (b + 0), .int (zI l3), .int (zI 1)] [.ref (b + 15)] dX7_freeOf_68 tG_7_219 tM_113 lM_0 rfl rfl rfl rfl (by decide) rfl ?_
        refine gC.mono (c_getZ sa b E d _ (n := vI T55 0 3) (by first | exact (zI_v _ _ _).symm | rfl) a7 a8 (by decide)) (Nat.le_refl _) ?_
        rintro _ _ ⟨rfl, h9⟩
        obtain rfl := h9.symm
        refine g_iconst (v := zI 1) dX7_freeOf_71 (by decide) ?_
        obtain ⟨a9, h⟩ := h
        obtain ⟨a10, h⟩ := h
        refine g_zastZ dX7_freeOf_72 lM_15 a9 a10 (by decide) (by decide) ?_
        refine g_iinc (x := zI l3) (v := zI (l3 + 1)) (L' := [some (.ref (b + 0)), some (.int (zI l1)), some (.int (zI l2)), some (.int (zI (l3 + 1))), none]) dX7_freeOf_73 rfl (zI_add _ _) rfl ?_
        refine g_goto dX7_freeOf_76 rfl ?_
        exact h
def f_X7_freeOf_81 (sa : Nat → Nat) (b : Nat) (E : Nat × mH) (d : Nat) (l1 : Int) (l2 : Int) (l3 : Int) (T : gT) (Q : Option Value → gT → Prop) : Prop := 0 ≤ vI T 0 3 ∧ vI T 0 3 < 2 ∧ (-2147483648 ≤ l3 ∧ l3 < 2147483648) ∧ (((vI T 2 (vI T 0 3).toNat) ≤ l3 → gW (tP sa) lM b E (d + 1 + 1) mX7_freeOf 170 [some (.ref (b + 0)), some (.int (zI l1)), some (.int (zI l2)), some (.int (zI 0)), some (.int (zI 0))] [] T Q) ∧ (¬ (vI T 2 (vI T 0 3).toNat) ≤ l3 → (vI T 0 3 = 0 ∨ vI T 0 3 = 1) ∧ (0 ≤ l3 ∧ l3 < 200) ∧ (((cV T (vI T 0 3).toNat l3.toNat 0) = 2 → gW (tP sa) lM b E (d + 1 + 1) mX7_freeOf 120 [some (.ref (b + 0)), some (.int (zI l1)), some (.int (zI l2)), some (.int (zI l3)), some (.int (zI (cV T (vI T 0 3).toNat l3.toNat 0)))] [] T Q) ∧ (¬ (cV T (vI T 0 3).toNat l3.toNat 0) = 2 → (((cV T (vI T 0 3).toNat l3.toNat 0) = 3 → gW (tP sa) lM b E (d + 1 + 1) mX7_freeOf 120 [some (.ref (b + 0)), some (.int (zI l1)), some (.int (zI l2)), some (.int (zI l3)), some (.int (zI (cV T (vI T 0 3).toNat l3.toNat 0)))] [] T Q) ∧ (¬ (cV T (vI T 0 3).toNat l3.toNat 0) = 3 → ((¬ (cV T (vI T 0 3).toNat l3.toNat 0) = 5 → gW (tP sa) lM b E (d + 1 + 1) mX7_freeOf 81 [some (.ref (b + 0)), some (.int (zI l1)), some (.int (zI l2)), some (.int (zI (l3 + 1))), some (.int (zI (cV T (vI T 0 3).toNat l3.toNat 0)))] [] T Q) ∧ ((cV T (vI T 0 3).toNat l3.toNat 0) = 5 → gW (tP sa) lM b E (d + 1 + 1) mX7_freeOf 120 [some (.ref (b + 0)), some (.int (zI l1)), some (.int (zI l2)), some (.int (zI l3)), some (.int (zI (cV T (vI T 0 3).toNat l3.toNat 0)))] [] T Q))))))))
set_option maxRecDepth 4000 in
theorem w_X7_freeOf_81 {sa : Nat → Nat} {b : Nat} {E : Nat × mH} {d : Nat} {l1 : Int} {l2 : Int} {l3 : Int} {T : gT} {Q : Option Value → gT → Prop} (h : f_X7_freeOf_81 sa b E d l1 l2 l3 T Q) : gW (tP sa) lM b E (d + 1 + 1) mX7_freeOf 81 [some (.ref (b + 0)), some (.int (zI l1)), some (.int (zI l2)), some (.int (zI l3)), none] [] T Q := by
  unfold f_X7_freeOf_81 at h
  refine g_iload_n dX7_freeOf_81 rfl ?_
  refine g_aload_n dX7_freeOf_82 rfl ?_
  refine g_getR dX7_freeOf_83 tF_7_13 lM_0 rfl ?_
  refine g_aload_n dX7_freeOf_86 rfl ?_
  refine g_getZ (v := vI T 0 3) dX7_freeOf_87 tF_7_101 lM_0 rfl (zI_v T 0 3) ?_
  obtain ⟨a1, h⟩ := h
  obtain ⟨a2, h⟩ := h
  refine g_ialdZ (v := vI T 2 (vI T 0 3).toNat) dX7_freeOf_90 lM_2 a1 a2 (by decide) (zI_v T 2 (vI T 0 3).toNat) ?_
  obtain ⟨a3, h⟩ := h
  refine g_icmp_geZ dX7_freeOf_91 rfl a3 ⟨vI_lo _ _ _, vI_hi _ _ _⟩ (fun c91 => ?_) (fun c91 => ?_)
  · replace h := h.1 c91
    refine g_iconst (v := zI 0) dX7_freeOf_165 (by decide) ?_
    refine g_istore_n (L' := [some (.ref (b + 0)), some (.int (zI l1)), some (.int (zI l2)), some (.int (zI 0)), none]) dX7_freeOf_166 rfl ?_
    refine g_iconst (v := zI 0) dX7_freeOf_167 (by decide) ?_
    refine g_istore (L' := [some (.ref (b + 0)), some (.int (zI l1)), some (.int (zI l2)), some (.int (zI 0)), some (.int (zI 0))]) dX7_freeOf_168 rfl ?_
    exact h
  · replace h := h.2 c91
    refine g_aload_n dX7_freeOf_94 rfl ?_
    refine g_iload_n dX7_freeOf_95 rfl ?_
    refine g_iconst (v := zI 0) dX7_freeOf_96 (by decide) ?_
    obtain ⟨a4, h⟩ := h
    obtain ⟨a5, h⟩ := h
    refine g_callV [.ref (b + 0), .int (zI l3), .int (zI 0)] [] dX7_freeOf_97 tG_7_219 tM_113 lM_0 rfl rfl rfl rfl (by decide) rfl ?_
    refine gC.mono (c_getZ sa b E d _ (n := vI T 0 3) (by first | exact (zI_v _ _ _).symm | rfl) a4 a5 (by decide)) (Nat.le_refl _) ?_
    rintro _ _ ⟨rfl, h9⟩
    obtain rfl := h9.symm
    refine g_istore (L' := [some (.ref (b + 0)), some (.int (zI l1)), some (.int (zI l2)), some (.int (zI l3)), some (.int (zI (cV T (vI T 0 3).toNat l3.toNat 0)))]) dX7_freeOf_100 rfl ?_
    refine g_iload dX7_freeOf_102 rfl ?_
    refine g_iconst (v := zI 2) dX7_freeOf_104 (by decide) ?_
    refine g_icmp_eqZ dX7_freeOf_105 rfl ⟨vI_lo _ _ _, vI_hi _ _ _⟩ (by decide) (fun c105 => ?_) (fun c105 => ?_)
    · replace h := h.1 c105
      exact h
    · replace h := h.2 c105
      refine g_iload dX7_freeOf_108 rfl ?_
      refine g_iconst (v := zI 3) dX7_freeOf_110 (by decide) ?_
      refine g_icmp_eqZ dX7_freeOf_111 rfl ⟨vI_lo _ _ _, vI_hi _ _ _⟩ (by decide) (fun c111 => ?_) (fun c111 => ?_)
      · replace h := h.1 c111
        exact h
      · replace h := h.2 c111
        refine g_iload dX7_freeOf_114 rfl ?_
        refine g_iconst (v := zI 5) dX7_freeOf_116 (by decide) ?_
        refine g_icmp_neZ dX7_freeOf_117 rfl ⟨vI_lo _ _ _, vI_hi _ _ _⟩ (by decide) (fun c117 => ?_) (fun c117 => ?_)
        · replace h := h.1 c117
          refine g_iinc (x := zI l3) (v := zI (l3 + 1)) (L' := [some (.ref (b + 0)), some (.int (zI l1)), some (.int (zI l2)), some (.int (zI (l3 + 1))), some (.int (zI (cV T (vI T 0 3).toNat l3.toNat 0)))]) dX7_freeOf_159 rfl (zI_add _ _) rfl ?_
          refine g_goto dX7_freeOf_162 rfl ?_
          exact h
        · replace h := h.2 c117
          exact h
def f_X7_freeOf_170 (sa : Nat → Nat) (b : Nat) (E : Nat × mH) (d : Nat) (l1 : Int) (l2 : Int) (l3 : Int) (l4 : Int) (T : gT) (Q : Option Value → gT → Prop) : Prop := (-2147483648 ≤ l4 ∧ l4 < 2147483648) ∧ ((100 ≤ l4 → Q (some (.int (zI l3))) T) ∧ (¬ 100 ≤ l4 → 0 ≤ l4 ∧ l4 < 100 ∧ (((vI T 15 l4.toNat) = 0 → gW (tP sa) lM b E (d + 1 + 1) mX7_freeOf 170 [some (.ref (b + 0)), some (.int (zI l1)), some (.int (zI l2)), some (.int (zI (l3 + 0))), some (.int (zI (l4 + 1)))] [] T Q) ∧ (¬ (vI T 15 l4.toNat) = 0 → gW (tP sa) lM b E (d + 1 + 1) mX7_freeOf 170 [some (.ref (b + 0)), some (.int (zI l1)), some (.int (zI l2)), some (.int (zI (l3 + 1))), some (.int (zI (l4 + 1)))] [] T Q))))
set_option maxRecDepth 4000 in
theorem w_X7_freeOf_170 {sa : Nat → Nat} {b : Nat} {E : Nat × mH} {d : Nat} {l1 : Int} {l2 : Int} {l3 : Int} {l4 : Int} {T : gT} {Q : Option Value → gT → Prop} (h : f_X7_freeOf_170 sa b E d l1 l2 l3 l4 T Q) : gW (tP sa) lM b E (d + 1 + 1) mX7_freeOf 170 [some (.ref (b + 0)), some (.int (zI l1)), some (.int (zI l2)), some (.int (zI l3)), some (.int (zI l4))] [] T Q := by
  unfold f_X7_freeOf_170 at h
  refine g_iload dX7_freeOf_170 rfl ?_
  refine g_bipush (v := zI 100) dX7_freeOf_172 (by decide) ?_
  obtain ⟨a1, h⟩ := h
  refine g_icmp_geZ dX7_freeOf_174 rfl a1 (by decide) (fun c174 => ?_) (fun c174 => ?_)
  · replace h := h.1 c174
    refine g_iload_n dX7_freeOf_201 rfl ?_
    exact g_iret dX7_freeOf_202 rfl rfl h
  · replace h := h.2 c174
    refine g_iload_n dX7_freeOf_177 rfl ?_
    refine g_aload_n dX7_freeOf_178 rfl ?_
    refine g_getR dX7_freeOf_179 tF_7_54 lM_0 rfl ?_
    refine g_iload dX7_freeOf_182 rfl ?_
    obtain ⟨a2, h⟩ := h
    obtain ⟨a3, h⟩ := h
    refine g_zaldZ (v := vI T 15 l4.toNat) dX7_freeOf_184 lM_15 a2 a3 (by decide) (zI_v T 15 l4.toNat) ?_
    refine g_if_eqZ dX7_freeOf_185 rfl ⟨vI_lo _ _ _, vI_hi _ _ _⟩  (fun c185 => ?_) (fun c185 => ?_)
    · replace h := h.1 c185
      refine g_iconst (v := zI 0) dX7_freeOf_192 (by decide) ?_
      refine g_iaddZ dX7_freeOf_193 ?_
      refine g_istore_n (L' := [some (.ref (b + 0)), some (.int (zI l1)), some (.int (zI l2)), some (.int (zI (l3 + 0))), some (.int (zI l4))]) dX7_freeOf_194 rfl ?_
      refine g_iinc (x := zI l4) (v := zI (l4 + 1)) (L' := [some (.ref (b + 0)), some (.int (zI l1)), some (.int (zI l2)), some (.int (zI (l3 + 0))), some (.int (zI (l4 + 1)))]) dX7_freeOf_195 rfl (zI_add _ _) rfl ?_
      refine g_goto dX7_freeOf_198 rfl ?_
      exact h
    · replace h := h.2 c185
      refine g_iconst (v := zI 1) dX7_freeOf_188 (by decide) ?_
      refine g_goto dX7_freeOf_189 rfl ?_
      refine g_iaddZ dX7_freeOf_193 ?_
      refine g_istore_n (L' := [some (.ref (b + 0)), some (.int (zI l1)), some (.int (zI l2)), some (.int (zI (l3 + 1))), some (.int (zI l4))]) dX7_freeOf_194 rfl ?_
      refine g_iinc (x := zI l4) (v := zI (l4 + 1)) (L' := [some (.ref (b + 0)), some (.int (zI l1)), some (.int (zI l2)), some (.int (zI (l3 + 1))), some (.int (zI (l4 + 1)))]) dX7_freeOf_195 rfl (zI_add _ _) rfl ?_
      refine g_goto dX7_freeOf_198 rfl ?_
      exact h
def f_X7_freeOf_120 (sa : Nat → Nat) (b : Nat) (E : Nat × mH) (d : Nat) (l1 : Int) (l2 : Int) (l3 : Int) (l4 : Int) (T : gT) (Q : Option Value → gT → Prop) : Prop := gC (tP sa) lM b E (d + 1) mX7_isIn [.ref (b + 0), .int (zI l3), .int (zI l2)] T (fun r T123 => pI r (fun v123 => (-2147483648 ≤ v123 ∧ v123 < 2147483648) ∧ ((v123 = 0 → gW (tP sa) lM b E (d + 1 + 1) mX7_freeOf 81 [some (.ref (b + 0)), some (.int (zI l1)), some (.int (zI l2)), some (.int (zI (l3 + 1))), some (.int (zI l4))] [] T123 Q) ∧ (¬ v123 = 0 → (vI T123 0 3 = 0 ∨ vI T123 0 3 = 1) ∧ (0 ≤ l3 ∧ l3 < 200) ∧ 0 ≤ cV T123 (vI T123 0 3).toNat l3.toNat 1 ∧ cV T123 (vI T123 0 3).toNat l3.toNat 1 < 100 ∧ (-2147483648 ≤ l4 ∧ l4 < 2147483648) ∧ ((¬ l4 = 3 → gW (tP sa) lM b E (d + 1 + 1) mX7_freeOf 81 [some (.ref (b + 0)), some (.int (zI l1)), some (.int (zI l2)), some (.int (zI (l3 + 1))), some (.int (zI l4))] [] (gI T123 15 (cV T123 (vI T123 0 3).toNat l3.toNat 1).toNat (zI 0)) Q) ∧ (l4 = 3 → (0 ≤ l3 ∧ l3 < 200) ∧ 0 ≤ cV T123 (vI T123 0 3).toNat l3.toNat 2 ∧ cV T123 (vI T123 0 3).toNat l3.toNat 2 < 100 ∧ gW (tP sa) lM b E (d + 1 + 1) mX7_freeOf 81 [some (.ref (b + 0)), some (.int (zI l1)), some (.int (zI l2)), some (.int (zI (l3 + 1))), some (.int (zI l4))] [] (gI (gI T123 15 (cV T123 (vI T123 0 3).toNat l3.toNat 1).toNat (zI 0)) 15 (cV T123 (vI T123 0 3).toNat l3.toNat 2).toNat (zI 0)) Q))))))
set_option maxRecDepth 4000 in
theorem w_X7_freeOf_120 {sa : Nat → Nat} {b : Nat} {E : Nat × mH} {d : Nat} {l1 : Int} {l2 : Int} {l3 : Int} {l4 : Int} {T : gT} {Q : Option Value → gT → Prop} (h : f_X7_freeOf_120 sa b E d l1 l2 l3 l4 T Q) : gW (tP sa) lM b E (d + 1 + 1) mX7_freeOf 120 [some (.ref (b + 0)), some (.int (zI l1)), some (.int (zI l2)), some (.int (zI l3)), some (.int (zI l4))] [] T Q := by
  unfold f_X7_freeOf_120 at h
  refine g_aload_n dX7_freeOf_120 rfl ?_
  refine g_iload_n dX7_freeOf_121 rfl ?_
  refine g_iload_n dX7_freeOf_122 rfl ?_
  refine g_callV [.ref (b + 0), .int (zI l3), .int (zI l2)] [] dX7_freeOf_123 tG_7_243 tM_141 lM_0 rfl rfl rfl rfl (by decide) rfl ?_
  refine gC.mono h (Nat.le_refl _) ?_
  rintro _ T123 ⟨v123, rfl, h⟩
  obtain ⟨a1, h⟩ := h
  refine g_if_eqZ dX7_freeOf_126 rfl a1  (fun c126 => ?_) (fun c126 => ?_)
  · replace h := h.1 c126
    refine g_iinc (x := zI l3) (v := zI (l3 + 1)) (L' := [some (.ref (b + 0)), some (.int (zI l1)), some (.int (zI l2)), some (.int (zI (l3 + 1))), some (.int (zI l4))]) dX7_freeOf_159 rfl (zI_add _ _) rfl ?_
    refine g_goto dX7_freeOf_162 rfl ?_
    exact h
  · replace h := h.2 c126
    refine g_aload_n dX7_freeOf_129 rfl ?_
    refine g_getR dX7_freeOf_130 tF_7_54 lM_0 rfl ?_
    refine g_aload_n dX7_freeOf_133 rfl ?_
    refine g_iload_n dX7_freeOf_134 rfl ?_
    refine g_iconst (v := zI 1) dX7_freeOf_135 (by decide) ?_
    obtain ⟨a2, h⟩ := h
    obtain ⟨a3, h⟩ := h
    refine g_callV [.ref (b + 0), .int (zI l3), .int (zI 1)] [.ref (b + 15)] dX7_freeOf_136 tG_7_219 tM_113 lM_0 rfl rfl rfl rfl (by decide) rfl ?_
    refine gC.mono (c_getZ sa b E d _ (n := vI T123 0 3) (by first | exact (zI_v _ _ _).symm | rfl) a2 a3 (by decide)) (Nat.le_refl _) ?_
    rintro _ _ ⟨rfl, h9⟩
    obtain rfl := h9.symm
    refine g_iconst (v := zI 0) dX7_freeOf_139 (by decide) ?_
    obtain ⟨a4, h⟩ := h
    obtain ⟨a5, h⟩ := h
    refine g_zastZ dX7_freeOf_140 lM_15 a4 a5 (by decide) (by decide) ?_
    refine g_iload dX7_freeOf_141 rfl ?_
    refine g_iconst (v := zI 3) dX7_freeOf_143 (by decide) ?_
    obtain ⟨a6, h⟩ := h
    refine g_icmp_neZ dX7_freeOf_144 rfl a6 (by decide) (fun c144 => ?_) (fun c144 => ?_)
    · replace h := h.1 c144
      refine g_iinc (x := zI l3) (v := zI (l3 + 1)) (L' := [some (.ref (b + 0)), some (.int (zI l1)), some (.int (zI l2)), some (.int (zI (l3 + 1))), some (.int (zI l4))]) dX7_freeOf_159 rfl (zI_add _ _) rfl ?_
      refine g_goto dX7_freeOf_162 rfl ?_
      exact h
    · replace h := h.2 c144
      refine g_aload_n dX7_freeOf_147 rfl ?_
      refine g_getR dX7_freeOf_148 tF_7_54 lM_0 rfl ?_
      refine g_aload_n dX7_freeOf_151 rfl ?_
      refine g_iload_n dX7_freeOf_152 rfl ?_
      refine g_iconst (v := zI 2) dX7_freeOf_153 (by decide) ?_
      obtain ⟨a7, h⟩ := h
      refine g_callV [.ref (b + 0), .int (zI l3), .int (zI 2)] [.ref (b + 15)] dX7_freeOf_154 tG_7_219 tM_113 lM_0 rfl rfl rfl rfl (by decide) rfl ?_
      refine gC.mono (c_getZ sa b E d _ (n := vI T123 0 3) (by first | exact (zI_v _ _ _).symm | rfl) a2 a7 (by decide)) (Nat.le_refl _) ?_
      rintro _ _ ⟨rfl, h9⟩
      obtain rfl := h9.symm
      refine g_iconst (v := zI 0) dX7_freeOf_157 (by decide) ?_
      obtain ⟨a8, h⟩ := h
      obtain ⟨a9, h⟩ := h
      refine g_zastZ dX7_freeOf_158 lM_15 a8 a9 (by decide) (by decide) ?_
      refine g_iinc (x := zI l3) (v := zI (l3 + 1)) (L' := [some (.ref (b + 0)), some (.int (zI l1)), some (.int (zI l2)), some (.int (zI (l3 + 1))), some (.int (zI l4))]) dX7_freeOf_159 rfl (zI_add _ _) rfl ?_
      refine g_goto dX7_freeOf_162 rfl ?_
      exact h
def f_X7_freeOf_81b (sa : Nat → Nat) (b : Nat) (E : Nat × mH) (d : Nat) (l1 : Int) (l2 : Int) (l3 : Int) (l4 : Int) (T : gT) (Q : Option Value → gT → Prop) : Prop := 0 ≤ vI T 0 3 ∧ vI T 0 3 < 2 ∧ (-2147483648 ≤ l3 ∧ l3 < 2147483648) ∧ (((vI T 2 (vI T 0 3).toNat) ≤ l3 → gW (tP sa) lM b E (d + 1 + 1) mX7_freeOf 170 [some (.ref (b + 0)), some (.int (zI l1)), some (.int (zI l2)), some (.int (zI 0)), some (.int (zI 0))] [] T Q) ∧ (¬ (vI T 2 (vI T 0 3).toNat) ≤ l3 → (vI T 0 3 = 0 ∨ vI T 0 3 = 1) ∧ (0 ≤ l3 ∧ l3 < 200) ∧ (((cV T (vI T 0 3).toNat l3.toNat 0) = 2 → gW (tP sa) lM b E (d + 1 + 1) mX7_freeOf 120 [some (.ref (b + 0)), some (.int (zI l1)), some (.int (zI l2)), some (.int (zI l3)), some (.int (zI (cV T (vI T 0 3).toNat l3.toNat 0)))] [] T Q) ∧ (¬ (cV T (vI T 0 3).toNat l3.toNat 0) = 2 → (((cV T (vI T 0 3).toNat l3.toNat 0) = 3 → gW (tP sa) lM b E (d + 1 + 1) mX7_freeOf 120 [some (.ref (b + 0)), some (.int (zI l1)), some (.int (zI l2)), some (.int (zI l3)), some (.int (zI (cV T (vI T 0 3).toNat l3.toNat 0)))] [] T Q) ∧ (¬ (cV T (vI T 0 3).toNat l3.toNat 0) = 3 → ((¬ (cV T (vI T 0 3).toNat l3.toNat 0) = 5 → gW (tP sa) lM b E (d + 1 + 1) mX7_freeOf 81 [some (.ref (b + 0)), some (.int (zI l1)), some (.int (zI l2)), some (.int (zI (l3 + 1))), some (.int (zI (cV T (vI T 0 3).toNat l3.toNat 0)))] [] T Q) ∧ ((cV T (vI T 0 3).toNat l3.toNat 0) = 5 → gW (tP sa) lM b E (d + 1 + 1) mX7_freeOf 120 [some (.ref (b + 0)), some (.int (zI l1)), some (.int (zI l2)), some (.int (zI l3)), some (.int (zI (cV T (vI T 0 3).toNat l3.toNat 0)))] [] T Q))))))))
set_option maxRecDepth 4000 in
theorem w_X7_freeOf_81b {sa : Nat → Nat} {b : Nat} {E : Nat × mH} {d : Nat} {l1 : Int} {l2 : Int} {l3 : Int} {l4 : Int} {T : gT} {Q : Option Value → gT → Prop} (h : f_X7_freeOf_81b sa b E d l1 l2 l3 l4 T Q) : gW (tP sa) lM b E (d + 1 + 1) mX7_freeOf 81 [some (.ref (b + 0)), some (.int (zI l1)), some (.int (zI l2)), some (.int (zI l3)), some (.int (zI l4))] [] T Q := by
  unfold f_X7_freeOf_81b at h
  refine g_iload_n dX7_freeOf_81 rfl ?_
  refine g_aload_n dX7_freeOf_82 rfl ?_
  refine g_getR dX7_freeOf_83 tF_7_13 lM_0 rfl ?_
  refine g_aload_n dX7_freeOf_86 rfl ?_
  refine g_getZ (v := vI T 0 3) dX7_freeOf_87 tF_7_101 lM_0 rfl (zI_v T 0 3) ?_
  obtain ⟨a1, h⟩ := h
  obtain ⟨a2, h⟩ := h
  refine g_ialdZ (v := vI T 2 (vI T 0 3).toNat) dX7_freeOf_90 lM_2 a1 a2 (by decide) (zI_v T 2 (vI T 0 3).toNat) ?_
  obtain ⟨a3, h⟩ := h
  refine g_icmp_geZ dX7_freeOf_91 rfl a3 ⟨vI_lo _ _ _, vI_hi _ _ _⟩ (fun c91 => ?_) (fun c91 => ?_)
  · replace h := h.1 c91
    refine g_iconst (v := zI 0) dX7_freeOf_165 (by decide) ?_
    refine g_istore_n (L' := [some (.ref (b + 0)), some (.int (zI l1)), some (.int (zI l2)), some (.int (zI 0)), some (.int (zI l4))]) dX7_freeOf_166 rfl ?_
    refine g_iconst (v := zI 0) dX7_freeOf_167 (by decide) ?_
    refine g_istore (L' := [some (.ref (b + 0)), some (.int (zI l1)), some (.int (zI l2)), some (.int (zI 0)), some (.int (zI 0))]) dX7_freeOf_168 rfl ?_
    exact h
  · replace h := h.2 c91
    refine g_aload_n dX7_freeOf_94 rfl ?_
    refine g_iload_n dX7_freeOf_95 rfl ?_
    refine g_iconst (v := zI 0) dX7_freeOf_96 (by decide) ?_
    obtain ⟨a4, h⟩ := h
    obtain ⟨a5, h⟩ := h
    refine g_callV [.ref (b + 0), .int (zI l3), .int (zI 0)] [] dX7_freeOf_97 tG_7_219 tM_113 lM_0 rfl rfl rfl rfl (by decide) rfl ?_
    refine gC.mono (c_getZ sa b E d _ (n := vI T 0 3) (by first | exact (zI_v _ _ _).symm | rfl) a4 a5 (by decide)) (Nat.le_refl _) ?_
    rintro _ _ ⟨rfl, h9⟩
    obtain rfl := h9.symm
    refine g_istore (L' := [some (.ref (b + 0)), some (.int (zI l1)), some (.int (zI l2)), some (.int (zI l3)), some (.int (zI (cV T (vI T 0 3).toNat l3.toNat 0)))]) dX7_freeOf_100 rfl ?_
    refine g_iload dX7_freeOf_102 rfl ?_
    refine g_iconst (v := zI 2) dX7_freeOf_104 (by decide) ?_
    refine g_icmp_eqZ dX7_freeOf_105 rfl ⟨vI_lo _ _ _, vI_hi _ _ _⟩ (by decide) (fun c105 => ?_) (fun c105 => ?_)
    · replace h := h.1 c105
      exact h
    · replace h := h.2 c105
      refine g_iload dX7_freeOf_108 rfl ?_
      refine g_iconst (v := zI 3) dX7_freeOf_110 (by decide) ?_
      refine g_icmp_eqZ dX7_freeOf_111 rfl ⟨vI_lo _ _ _, vI_hi _ _ _⟩ (by decide) (fun c111 => ?_) (fun c111 => ?_)
      · replace h := h.1 c111
        exact h
      · replace h := h.2 c111
        refine g_iload dX7_freeOf_114 rfl ?_
        refine g_iconst (v := zI 5) dX7_freeOf_116 (by decide) ?_
        refine g_icmp_neZ dX7_freeOf_117 rfl ⟨vI_lo _ _ _, vI_hi _ _ _⟩ (by decide) (fun c117 => ?_) (fun c117 => ?_)
        · replace h := h.1 c117
          refine g_iinc (x := zI l3) (v := zI (l3 + 1)) (L' := [some (.ref (b + 0)), some (.int (zI l1)), some (.int (zI l2)), some (.int (zI (l3 + 1))), some (.int (zI (cV T (vI T 0 3).toNat l3.toNat 0)))]) dX7_freeOf_159 rfl (zI_add _ _) rfl ?_
          refine g_goto dX7_freeOf_162 rfl ?_
          exact h
        · replace h := h.2 c117
          exact h
def f_X7_push (sa : Nat → Nat) (b : Nat) (E : Nat × mH) (d : Nat) (l1 : Int) (l2 : Int) (T : gT) (Q : Option Value → gT → Prop) : Prop := 0 ≤ vI T 0 36 ∧ vI T 0 36 < 2100 ∧ Q none (gI (gI (gI (gI T 16 (vI T 0 36).toNat (zI l1)) 17 (vI T 0 36).toNat (zI l2)) 18 (vI T 0 36).toNat (zI 0)) 0 36 (zI ((vI T 0 36) + 1)))
set_option maxRecDepth 4000 in
theorem w_X7_push {sa : Nat → Nat} {b : Nat} {E : Nat × mH} {d : Nat} {l1 : Int} {l2 : Int} {T : gT} {Q : Option Value → gT → Prop} (h : f_X7_push sa b E d l1 l2 T Q) : gC (tP sa) lM b E d mX7_push [.ref (b + 0), .int (zI l1), .int (zI l2)] T Q := by
  unfold f_X7_push at h
  refine ⟨Nat.le_of_ble_eq_true rfl, ?_⟩
  show gW (tP sa) lM b E d mX7_push 0 [some (.ref (b + 0)), some (.int (zI l1)), some (.int (zI l2))] [] T Q
  refine g_aload_n dX7_push_0 rfl ?_
  refine g_getR dX7_push_1 tF_7_58 lM_0 rfl ?_
  refine g_aload_n dX7_push_4 rfl ?_
  refine g_getZ (v := vI T 0 36) dX7_push_5 tF_7_280 lM_0 rfl (zI_v T 0 36) ?_
  refine g_iload_n dX7_push_8 rfl ?_
  obtain ⟨a1, h⟩ := h
  obtain ⟨a2, h⟩ := h
  refine g_iastZ dX7_push_9 lM_16 a1 a2 (by decide) ?_
  refine g_aload_n dX7_push_10 rfl ?_
  refine g_getR dX7_push_11 tF_7_61 lM_0 rfl ?_
  refine g_aload_n dX7_push_14 rfl ?_
  refine g_getZ (v := vI T 0 36) dX7_push_15 tF_7_280 lM_0 rfl (zI_v T 0 36) ?_
  refine g_iload_n dX7_push_18 rfl ?_
  refine g_iastZ dX7_push_19 lM_17 a1 a2 (by decide) ?_
  refine g_aload_n dX7_push_20 rfl ?_
  refine g_getR dX7_push_21 tF_7_64 lM_0 rfl ?_
  refine g_aload_n dX7_push_24 rfl ?_
  refine g_getZ (v := vI T 0 36) dX7_push_25 tF_7_280 lM_0 rfl (zI_v T 0 36) ?_
  refine g_iconst (v := zI 0) dX7_push_28 (by decide) ?_
  refine g_iastZ dX7_push_29 lM_18 a1 a2 (by decide) ?_
  refine g_aload_n dX7_push_30 rfl ?_
  refine g_dup dX7_push_31 rfl ?_
  refine g_getZ (v := vI T 0 36) dX7_push_32 tF_7_280 lM_0 rfl (zI_v T 0 36) ?_
  refine g_iconst (v := zI 1) dX7_push_35 (by decide) ?_
  refine g_iaddZ dX7_push_36 ?_
  refine g_putI dX7_push_37 tF_7_280 lM_0 rfl rfl ⟨rfl, rfl⟩ rfl ?_
  exact g_vret dX7_push_40 rfl h
def f_X7_run (sa : Nat → Nat) (b : Nat) (E : Nat × mH) (d : Nat) (l1 : Int) (T : gT) (Q : Option Value → gT → Prop) : Prop := (((vI T 0 4) = 0 → Q (some (.int (zI (-2)))) (gI T 0 0 (zI 0))) ∧ (¬ (vI T 0 4) = 0 → (-2147483648 ≤ l1 ∧ l1 < 2147483648) ∧ ((l1 < 1 → Q (some (.int (zI (-2)))) (gI T 0 0 (zI 0))) ∧ (¬ l1 < 1 → ((l1 ≤ 2000 → gW (tP sa) lM b E (d + 1) mX7_run 59 [some (.ref (b + 0)), some (.int (zI l1)), some (.int (zI 0))] [] (gI (gI (gI (gJ (gI (gI (gI T 0 0 (zI 0)) 0 16 (zI 1)) 0 17 (zI 0)) 0 18 0) 0 36 (zI 0)) 0 42 (zI 0)) 0 46 (zI (-1))) Q) ∧ (¬ l1 ≤ 2000 → Q (some (.int (zI (-2)))) (gI T 0 0 (zI 0))))))))
set_option maxRecDepth 4000 in
theorem w_X7_run {sa : Nat → Nat} {b : Nat} {E : Nat × mH} {d : Nat} {l1 : Int} {T : gT} {Q : Option Value → gT → Prop} (h : f_X7_run sa b E d l1 T Q) : gC (tP sa) lM b E (d + 1) mX7_run [.ref (b + 0), .int (zI l1)] T Q := by
  unfold f_X7_run at h
  refine ⟨Nat.le_of_ble_eq_true rfl, ?_⟩
  show gW (tP sa) lM b E (d + 1) mX7_run 0 [some (.ref (b + 0)), some (.int (zI l1)), none] [] T Q
  refine g_aload_n dX7_run_0 rfl ?_
  refine g_iconst (v := zI 0) dX7_run_1 (by decide) ?_
  refine g_putI dX7_run_2 tF_7_97 lM_0 rfl rfl ⟨rfl, rfl⟩ rfl ?_
  refine g_aload_n dX7_run_5 rfl ?_
  refine g_getZ (v := vI T 0 4) dX7_run_6 tF_7_203 lM_0 rfl (zI_v T 0 4) ?_
  refine g_if_eqZ dX7_run_9 rfl ⟨vI_lo _ _ _, vI_hi _ _ _⟩  (fun c9 => ?_) (fun c9 => ?_)
  · replace h := h.1 c9
    refine g_bipush (v := zI (-2)) dX7_run_24 (by decide) ?_
    exact g_iret dX7_run_26 rfl rfl h
  · replace h := h.2 c9
    refine g_iload_n dX7_run_12 rfl ?_
    refine g_iconst (v := zI 1) dX7_run_13 (by decide) ?_
    obtain ⟨a1, h⟩ := h
    refine g_icmp_ltZ dX7_run_14 rfl a1 (by decide) (fun c14 => ?_) (fun c14 => ?_)
    · replace h := h.1 c14
      refine g_bipush (v := zI (-2)) dX7_run_24 (by decide) ?_
      exact g_iret dX7_run_26 rfl rfl h
    · replace h := h.2 c14
      refine g_iload_n dX7_run_17 rfl ?_
      refine g_sipush (v := zI 2000) dX7_run_18 (by decide) ?_
      refine g_icmp_leZ dX7_run_21 rfl a1 (by decide) (fun c21 => ?_) (fun c21 => ?_)
      · replace h := h.1 c21
        refine g_aload_n dX7_run_27 rfl ?_
        refine g_iconst (v := zI 1) dX7_run_28 (by decide) ?_
        refine g_putI dX7_run_29 tF_7_206 lM_0 rfl rfl ⟨rfl, rfl⟩ rfl ?_
        refine g_aload_n dX7_run_32 rfl ?_
        refine g_iconst (v := zI 0) dX7_run_33 (by decide) ?_
        refine g_putI dX7_run_34 tF_7_209 lM_0 rfl rfl ⟨rfl, rfl⟩ rfl ?_
        refine g_aload_n dX7_run_37 rfl ?_
        refine g_lconst (v := 0) dX7_run_38 (by decide) ?_
        refine g_putJ dX7_run_39 tF_7_212 lM_0 rfl rfl rfl ?_
        refine g_aload_n dX7_run_42 rfl ?_
        refine g_iconst (v := zI 0) dX7_run_43 (by decide) ?_
        refine g_putI dX7_run_44 tF_7_280 lM_0 rfl rfl ⟨rfl, rfl⟩ rfl ?_
        refine g_aload_n dX7_run_47 rfl ?_
        refine g_iconst (v := zI 0) dX7_run_48 (by decide) ?_
        refine g_putI dX7_run_49 tF_7_268 lM_0 rfl rfl ⟨rfl, rfl⟩ rfl ?_
        refine g_aload_n dX7_run_52 rfl ?_
        refine g_iconst (v := zI (-1)) dX7_run_53 (by decide) ?_
        refine g_putI dX7_run_54 tF_7_283 lM_0 rfl rfl ⟨rfl, rfl⟩ rfl ?_
        refine g_iconst (v := zI 0) dX7_run_57 (by decide) ?_
        refine g_istore_n (L' := [some (.ref (b + 0)), some (.int (zI l1)), some (.int (zI 0))]) dX7_run_58 rfl ?_
        exact h
      · replace h := h.2 c21
        refine g_bipush (v := zI (-2)) dX7_run_24 (by decide) ?_
        exact g_iret dX7_run_26 rfl rfl h
def f_X7_run_59 (sa : Nat → Nat) (b : Nat) (E : Nat × mH) (d : Nat) (l1 : Int) (l2 : Int) (T : gT) (Q : Option Value → gT → Prop) : Prop := (-2147483648 ≤ l2 ∧ l2 < 2147483648) ∧ ((200 ≤ l2 → gC (tP sa) lM b E d mX7_push [.ref (b + 0), .int (zI 0), .int (zI (-1))] T (fun r T82 => pV r (gW (tP sa) lM b E (d + 1) mX7_run 85 [some (.ref (b + 0)), some (.int (zI l1)), some (.int (zI l2))] [] T82 Q))) ∧ (¬ 200 ≤ l2 → 0 ≤ l2 ∧ l2 < 200 ∧ gW (tP sa) lM b E (d + 1) mX7_run 59 [some (.ref (b + 0)), some (.int (zI l1)), some (.int (zI (l2 + 1)))] [] (gJ T 12 l2.toNat 0) Q))
set_option maxRecDepth 4000 in
theorem w_X7_run_59 {sa : Nat → Nat} {b : Nat} {E : Nat × mH} {d : Nat} {l1 : Int} {l2 : Int} {T : gT} {Q : Option Value → gT → Prop} (h : f_X7_run_59 sa b E d l1 l2 T Q) : gW (tP sa) lM b E (d + 1) mX7_run 59 [some (.ref (b + 0)), some (.int (zI l1)), some (.int (zI l2))] [] T Q := by
  unfold f_X7_run_59 at h
  refine g_iload_n dX7_run_59 rfl ?_
  refine g_sipush (v := zI 200) dX7_run_60 (by decide) ?_
  obtain ⟨a1, h⟩ := h
  refine g_icmp_geZ dX7_run_63 rfl a1 (by decide) (fun c63 => ?_) (fun c63 => ?_)
  · replace h := h.1 c63
    refine g_aload_n dX7_run_79 rfl ?_
    refine g_iconst (v := zI 0) dX7_run_80 (by decide) ?_
    refine g_iconst (v := zI (-1)) dX7_run_81 (by decide) ?_
    refine g_callV [.ref (b + 0), .int (zI 0), .int (zI (-1))] [] dX7_run_82 tG_7_286 tM_153 lM_0 rfl rfl rfl rfl (by decide) rfl ?_
    refine gC.mono h (Nat.le_refl _) ?_
    rintro _ T82 ⟨rfl, h⟩
    exact h
  · replace h := h.2 c63
    refine g_aload_n dX7_run_66 rfl ?_
    refine g_getR dX7_run_67 tF_7_45 lM_0 rfl ?_
    refine g_iload_n dX7_run_70 rfl ?_
    refine g_lconst (v := 0) dX7_run_71 (by decide) ?_
    obtain ⟨a2, h⟩ := h
    obtain ⟨a3, h⟩ := h
    refine g_lastZ dX7_run_72 lM_12 a2 a3 (by decide) ?_
    refine g_iinc (x := zI l2) (v := zI (l2 + 1)) (L' := [some (.ref (b + 0)), some (.int (zI l1)), some (.int (zI (l2 + 1)))]) dX7_run_73 rfl (zI_add _ _) rfl ?_
    refine g_goto dX7_run_76 rfl ?_
    exact h
def f_X7_run_85 (sa : Nat → Nat) (b : Nat) (E : Nat × mH) (d : Nat) (l1 : Int) (l2 : Int) (T : gT) (Q : Option Value → gT → Prop) : Prop := (((vI T 0 36) ≤ 0 → gW (tP sa) lM b E (d + 1) mX7_run 154 [some (.ref (b + 0)), some (.int (zI l1)), some (.int (zI l2))] [] T Q) ∧ (¬ (vI T 0 36) ≤ 0 → ((¬ (vI T 0 46) = (-1) → gW (tP sa) lM b E (d + 1) mX7_run 154 [some (.ref (b + 0)), some (.int (zI l1)), some (.int (zI l2))] [] T Q) ∧ ((vI T 0 46) = (-1) → 0 ≤ (vI T 0 36) - 1 ∧ (vI T 0 36) - 1 < 2100 ∧ ((¬ (vI T 18 ((vI T 0 36) - 1).toNat) = 0 → gC (tP sa) lM b E d mX7_goOn [.ref (b + 0)] T (fun r T148 => pV r (gW (tP sa) lM b E (d + 1) mX7_run 85 [some (.ref (b + 0)), some (.int (zI l1)), some (.int (zI l2))] [] T148 Q))) ∧ ((vI T 18 ((vI T 0 36) - 1).toNat) = 0 → (-2147483648 ≤ l1 ∧ l1 < 2147483648) ∧ ((¬ (vI T 0 17) = l1 → gC (tP sa) lM b E d mX7_work [.ref (b + 0)] (gI T 0 17 (zI ((vI T 0 17) + 1))) (fun r T141 => pV r (gW (tP sa) lM b E (d + 1) mX7_run 85 [some (.ref (b + 0)), some (.int (zI l1)), some (.int (zI l2))] [] T141 Q))) ∧ ((vI T 0 17) = l1 → gW (tP sa) lM b E (d + 1) mX7_run 85 [some (.ref (b + 0)), some (.int (zI l1)), some (.int (zI l2))] [] (gI T 0 46 (zI 3)) Q))))))))
set_option maxRecDepth 4000 in
theorem w_X7_run_85 {sa : Nat → Nat} {b : Nat} {E : Nat × mH} {d : Nat} {l1 : Int} {l2 : Int} {T : gT} {Q : Option Value → gT → Prop} (h : f_X7_run_85 sa b E d l1 l2 T Q) : gW (tP sa) lM b E (d + 1) mX7_run 85 [some (.ref (b + 0)), some (.int (zI l1)), some (.int (zI l2))] [] T Q := by
  unfold f_X7_run_85 at h
  refine g_aload_n dX7_run_85 rfl ?_
  refine g_getZ (v := vI T 0 36) dX7_run_86 tF_7_280 lM_0 rfl (zI_v T 0 36) ?_
  refine g_if_leZ dX7_run_89 rfl ⟨vI_lo _ _ _, vI_hi _ _ _⟩  (fun c89 => ?_) (fun c89 => ?_)
  · replace h := h.1 c89
    exact h
  · replace h := h.2 c89
    refine g_aload_n dX7_run_92 rfl ?_
    refine g_getZ (v := vI T 0 46) dX7_run_93 tF_7_283 lM_0 rfl (zI_v T 0 46) ?_
    refine g_iconst (v := zI (-1)) dX7_run_96 (by decide) ?_
    refine g_icmp_neZ dX7_run_97 rfl ⟨vI_lo _ _ _, vI_hi _ _ _⟩ (by decide) (fun c97 => ?_) (fun c97 => ?_)
    · replace h := h.1 c97
      exact h
    · replace h := h.2 c97
      refine g_aload_n dX7_run_100 rfl ?_
      refine g_getR dX7_run_101 tF_7_64 lM_0 rfl ?_
      refine g_aload_n dX7_run_104 rfl ?_
      refine g_getZ (v := vI T 0 36) dX7_run_105 tF_7_280 lM_0 rfl (zI_v T 0 36) ?_
      refine g_iconst (v := zI 1) dX7_run_108 (by decide) ?_
      refine g_isubZ dX7_run_109 ?_
      obtain ⟨a1, h⟩ := h
      obtain ⟨a2, h⟩ := h
      refine g_ialdZ (v := vI T 18 ((vI T 0 36) - 1).toNat) dX7_run_110 lM_18 a1 a2 (by decide) (zI_v T 18 ((vI T 0 36) - 1).toNat) ?_
      refine g_if_neZ dX7_run_111 rfl ⟨vI_lo _ _ _, vI_hi _ _ _⟩  (fun c111 => ?_) (fun c111 => ?_)
      · replace h := h.1 c111
        refine g_aload_n dX7_run_147 rfl ?_
        refine g_callV [.ref (b + 0)] [] dX7_run_148 tG_7_293 tM_156 lM_0 rfl rfl rfl rfl (by decide) rfl ?_
        refine gC.mono h (Nat.le_refl _) ?_
        rintro _ T148 ⟨rfl, h⟩
        refine g_goto dX7_run_151 rfl ?_
        exact h
      · replace h := h.2 c111
        refine g_aload_n dX7_run_114 rfl ?_
        refine g_getZ (v := vI T 0 17) dX7_run_115 tF_7_209 lM_0 rfl (zI_v T 0 17) ?_
        refine g_iload_n dX7_run_118 rfl ?_
        obtain ⟨a3, h⟩ := h
        refine g_icmp_neZ dX7_run_119 rfl ⟨vI_lo _ _ _, vI_hi _ _ _⟩ a3 (fun c119 => ?_) (fun c119 => ?_)
        · replace h := h.1 c119
          refine g_aload_n dX7_run_130 rfl ?_
          refine g_dup dX7_run_131 rfl ?_
          refine g_getZ (v := vI T 0 17) dX7_run_132 tF_7_209 lM_0 rfl (zI_v T 0 17) ?_
          refine g_iconst (v := zI 1) dX7_run_135 (by decide) ?_
          refine g_iaddZ dX7_run_136 ?_
          refine g_putI dX7_run_137 tF_7_209 lM_0 rfl rfl ⟨rfl, rfl⟩ rfl ?_
          refine g_aload_n dX7_run_140 rfl ?_
          refine g_callV [.ref (b + 0)] [] dX7_run_141 tG_7_290 tM_155 lM_0 rfl rfl rfl rfl (by decide) rfl ?_
          refine gC.mono h (Nat.le_refl _) ?_
          rintro _ T141 ⟨rfl, h⟩
          refine g_goto dX7_run_144 rfl ?_
          exact h
        · replace h := h.2 c119
          refine g_aload_n dX7_run_122 rfl ?_
          refine g_iconst (v := zI 3) dX7_run_123 (by decide) ?_
          refine g_putI dX7_run_124 tF_7_283 lM_0 rfl rfl ⟨rfl, rfl⟩ rfl ?_
          refine g_goto dX7_run_127 rfl ?_
          exact h
def f_X7_run_154 (sa : Nat → Nat) (b : Nat) (E : Nat × mH) (d : Nat) (l1 : Int) (l2 : Int) (T : gT) (Q : Option Value → gT → Prop) : Prop := ((¬ (vI T 0 46) = (-1) → Q (some (.int (zI (vI T 0 46)))) T) ∧ ((vI T 0 46) = (-1) → Q (some (.int (zI (vI T 0 43)))) (gJ (gI T 0 46 (zI (vI T 0 43))) 0 18 (T.2.1 0 44))))
set_option maxRecDepth 4000 in
theorem w_X7_run_154 {sa : Nat → Nat} {b : Nat} {E : Nat × mH} {d : Nat} {l1 : Int} {l2 : Int} {T : gT} {Q : Option Value → gT → Prop} (h : f_X7_run_154 sa b E d l1 l2 T Q) : gW (tP sa) lM b E (d + 1) mX7_run 154 [some (.ref (b + 0)), some (.int (zI l1)), some (.int (zI l2))] [] T Q := by
  unfold f_X7_run_154 at h
  refine g_aload_n dX7_run_154 rfl ?_
  refine g_getZ (v := vI T 0 46) dX7_run_155 tF_7_283 lM_0 rfl (zI_v T 0 46) ?_
  refine g_iconst (v := zI (-1)) dX7_run_158 (by decide) ?_
  refine g_icmp_neZ dX7_run_159 rfl ⟨vI_lo _ _ _, vI_hi _ _ _⟩ (by decide) (fun c159 => ?_) (fun c159 => ?_)
  · replace h := h.1 c159
    refine g_aload_n dX7_run_178 rfl ?_
    refine g_getZ (v := vI T 0 46) dX7_run_179 tF_7_283 lM_0 rfl (zI_v T 0 46) ?_
    exact g_iret dX7_run_182 rfl rfl h
  · replace h := h.2 c159
    refine g_aload_n dX7_run_162 rfl ?_
    refine g_aload_n dX7_run_163 rfl ?_
    refine g_getZ (v := vI T 0 43) dX7_run_164 tF_7_271 lM_0 rfl (zI_v T 0 43) ?_
    refine g_putI dX7_run_167 tF_7_283 lM_0 rfl rfl ⟨rfl, rfl⟩ rfl ?_
    refine g_aload_n dX7_run_170 rfl ?_
    refine g_aload_n dX7_run_171 rfl ?_
    refine g_getJv (v := T.2.1 0 44) dX7_run_172 tF_7_274 lM_0 rfl rfl ?_
    refine g_putJ dX7_run_175 tF_7_212 lM_0 rfl rfl rfl ?_
    refine g_aload_n dX7_run_178 rfl ?_
    refine g_getZ (v := vI T 0 43) dX7_run_179 tF_7_283 lM_0 rfl rfl ?_
    exact g_iret dX7_run_182 rfl rfl h
def f_X7_stuck (sa : Nat → Nat) (b : Nat) (E : Nat × mH) (d : Nat) (l1 : Int) (T : gT) (Q : Option Value → gT → Prop) : Prop := Q none (gJ (gI T 0 46 (zI 2)) 0 18 ((zI l1).toInt64))
set_option maxRecDepth 4000 in
theorem w_X7_stuck {sa : Nat → Nat} {b : Nat} {E : Nat × mH} {d : Nat} {l1 : Int} {T : gT} {Q : Option Value → gT → Prop} (h : f_X7_stuck sa b E d l1 T Q) : gC (tP sa) lM b E d mX7_stuck [.ref (b + 0), .int (zI l1)] T Q := by
  unfold f_X7_stuck at h
  refine ⟨Nat.le_of_ble_eq_true rfl, ?_⟩
  show gW (tP sa) lM b E d mX7_stuck 0 [some (.ref (b + 0)), some (.int (zI l1))] [] T Q
  refine g_aload_n dX7_stuck_0 rfl ?_
  refine g_iconst (v := zI 2) dX7_stuck_1 (by decide) ?_
  refine g_putI dX7_stuck_2 tF_7_283 lM_0 rfl rfl ⟨rfl, rfl⟩ rfl ?_
  refine g_aload_n dX7_stuck_5 rfl ?_
  refine g_iload_n dX7_stuck_6 rfl ?_
  refine g_i2l dX7_stuck_7 ?_
  refine g_putJ dX7_stuck_8 tF_7_212 lM_0 rfl rfl rfl ?_
  exact g_vret dX7_stuck_11 rfl h
def f_X7_call (sa : Nat → Nat) (b : Nat) (E : Nat × mH) (d : Nat) (l1 : Int) (l2 : Int) (T : gT) (Q : Option Value → gT → Prop) : Prop := 0 ≤ l2 ∧ l2 < 2100 ∧ ((¬ (vI T 19 l2.toNat) = 0 → 0 ≤ l1 ∧ l1 < 200 ∧ 0 ≤ (T.2.1 20 l2.toNat).toInt32.toInt ∧ (T.2.1 20 l2.toNat).toInt32.toInt < 50 ∧ (vI T 0 3 = 0 ∨ vI T 0 3 = 1) ∧ (0 ≤ vI T 6 ((T.2.1 20 l2.toNat).toInt32.toInt).toNat ∧ vI T 6 ((T.2.1 20 l2.toNat).toInt32.toInt).toNat < 200) ∧ ((¬ (cV T (vI T 0 3).toNat (vI T 6 ((T.2.1 20 l2.toNat).toInt32.toInt).toNat).toNat 0) = 3 → gW (tP sa) lM b E (d + 1 + 1) mX7_call 112 [some (.ref (b + 0)), some (.int (zI l1)), some (.int (zI l2)), some (.int (zI ((T.2.1 20 l2.toNat).toInt32.toInt))), some (.int (zI (vI T 6 ((T.2.1 20 l2.toNat).toInt32.toInt).toNat))), some (.int (zI (vI T 0 43))), some (.long (T.2.1 0 44)), none, some (.int (zI (vI T 0 45))), some (.int (zI (vI T 21 l2.toNat)))] [] (gJ T 12 l1.toNat ((T.2.1 12 l1.toNat) ||| (1 <<< ((zI ((T.2.1 20 l2.toNat).toInt32.toInt)).toInt64 &&& 63)))) Q) ∧ ((cV T (vI T 0 3).toNat (vI T 6 ((T.2.1 20 l2.toNat).toInt32.toInt).toNat).toNat 0) = 3 → (0 ≤ vI T 6 ((T.2.1 20 l2.toNat).toInt32.toInt).toNat ∧ vI T 6 ((T.2.1 20 l2.toNat).toInt32.toInt).toNat < 200) ∧ gC (tP sa) lM b E (d + 1) mX7_chain [.ref (b + 0), .int (zI (cV T (vI T 0 3).toNat (vI T 6 ((T.2.1 20 l2.toNat).toInt32.toInt).toNat).toNat 2)), .int (zI (vI T 21 l2.toNat))] (gI (gJ (gI (gJ T 12 l1.toNat ((T.2.1 12 l1.toNat) ||| (1 <<< ((zI ((T.2.1 20 l2.toNat).toInt32.toInt)).toInt64 &&& 63)))) 0 43 (zI 1)) 0 44 ((zI ((T.2.1 20 l2.toNat).toInt32.toInt)).toInt64)) 0 45 (zI (vI T 21 l2.toNat))) (fun r T107 => pI r (fun v107 => gW (tP sa) lM b E (d + 1 + 1) mX7_call 112 [some (.ref (b + 0)), some (.int (zI l1)), some (.int (zI l2)), some (.int (zI ((T.2.1 20 l2.toNat).toInt32.toInt))), some (.int (zI (vI T 6 ((T.2.1 20 l2.toNat).toInt32.toInt).toNat))), some (.int (zI (vI T 0 43))), some (.long (T.2.1 0 44)), none, some (.int (zI (vI T 0 45))), some (.int (zI v107))] [] T107 Q))))) ∧ ((vI T 19 l2.toNat) = 0 → gC (tP sa) lM b E (d + 1) mX7_stuck [.ref (b + 0), .int (zI l1)] T (fun r T11 => pV r (Q none T11))))
set_option maxRecDepth 4000 in
theorem w_X7_call {sa : Nat → Nat} {b : Nat} {E : Nat × mH} {d : Nat} {l1 : Int} {l2 : Int} {T : gT} {Q : Option Value → gT → Prop} (h : f_X7_call sa b E d l1 l2 T Q) : gC (tP sa) lM b E (d + 1 + 1) mX7_call [.ref (b + 0), .int (zI l1), .int (zI l2)] T Q := by
  unfold f_X7_call at h
  refine ⟨Nat.le_of_ble_eq_true rfl, ?_⟩
  show gW (tP sa) lM b E (d + 1 + 1) mX7_call 0 [some (.ref (b + 0)), some (.int (zI l1)), some (.int (zI l2)), none, none, none, none, none, none, none] [] T Q
  refine g_aload_n dX7_call_0 rfl ?_
  refine g_getR dX7_call_1 tF_7_67 lM_0 rfl ?_
  refine g_iload_n dX7_call_4 rfl ?_
  obtain ⟨a1, h⟩ := h
  obtain ⟨a2, h⟩ := h
  refine g_ialdZ (v := vI T 19 l2.toNat) dX7_call_5 lM_19 a1 a2 (by decide) (zI_v T 19 l2.toNat) ?_
  refine g_if_neZ dX7_call_6 rfl ⟨vI_lo _ _ _, vI_hi _ _ _⟩  (fun c6 => ?_) (fun c6 => ?_)
  · replace h := h.1 c6
    refine g_aload_n dX7_call_15 rfl ?_
    refine g_getR dX7_call_16 tF_7_70 lM_0 rfl ?_
    refine g_iload_n dX7_call_19 rfl ?_
    refine g_laldZ (v := T.2.1 20 l2.toNat) dX7_call_20 lM_20 a1 a2 (by decide) rfl ?_
    refine g_l2iZ dX7_call_21 ?_
    refine g_istore_n (L' := [some (.ref (b + 0)), some (.int (zI l1)), some (.int (zI l2)), some (.int (zI ((T.2.1 20 l2.toNat).toInt32.toInt))), none, none, none, none, none, none]) dX7_call_22 rfl ?_
    refine g_aload_n dX7_call_23 rfl ?_
    refine g_getR dX7_call_24 tF_7_45 lM_0 rfl ?_
    refine g_iload_n dX7_call_27 rfl ?_
    refine g_dup2 dX7_call_28 rfl rfl ?_
    obtain ⟨a3, h⟩ := h
    obtain ⟨a4, h⟩ := h
    refine g_laldZ (v := T.2.1 12 l1.toNat) dX7_call_29 lM_12 a3 a4 (by decide) rfl ?_
    refine g_lconst (v := 1) dX7_call_30 (by decide) ?_
    refine g_iload_n dX7_call_31 rfl ?_
    refine g_lshl dX7_call_32 ?_
    refine g_lor dX7_call_33 ?_
    refine g_lastZ dX7_call_34 lM_12 a3 a4 (by decide) ?_
    refine g_aload_n dX7_call_35 rfl ?_
    refine g_getR dX7_call_36 tF_7_26 lM_0 rfl ?_
    refine g_iload_n dX7_call_39 rfl ?_
    obtain ⟨a5, h⟩ := h
    obtain ⟨a6, h⟩ := h
    refine g_ialdZ (v := vI T 6 ((T.2.1 20 l2.toNat).toInt32.toInt).toNat) dX7_call_40 lM_6 a5 a6 (by decide) (zI_v T 6 ((T.2.1 20 l2.toNat).toInt32.toInt).toNat) ?_
    refine g_istore (L' := [some (.ref (b + 0)), some (.int (zI l1)), some (.int (zI l2)), some (.int (zI ((T.2.1 20 l2.toNat).toInt32.toInt))), some (.int (zI (vI T 6 ((T.2.1 20 l2.toNat).toInt32.toInt).toNat))), none, none, none, none, none]) dX7_call_41 rfl ?_
    refine g_aload_n dX7_call_43 rfl ?_
    refine g_getZ (v := vI T 0 43) dX7_call_44 tF_7_271 lM_0 rfl (zI_v T 0 43) ?_
    refine g_istore (L' := [some (.ref (b + 0)), some (.int (zI l1)), some (.int (zI l2)), some (.int (zI ((T.2.1 20 l2.toNat).toInt32.toInt))), some (.int (zI (vI T 6 ((T.2.1 20 l2.toNat).toInt32.toInt).toNat))), some (.int (zI (vI T 0 43))), none, none, none, none]) dX7_call_47 rfl ?_
    refine g_aload_n dX7_call_49 rfl ?_
    refine g_getJv (v := T.2.1 0 44) dX7_call_50 tF_7_274 lM_0 rfl rfl ?_
    refine g_lstore (L' := [some (.ref (b + 0)), some (.int (zI l1)), some (.int (zI l2)), some (.int (zI ((T.2.1 20 l2.toNat).toInt32.toInt))), some (.int (zI (vI T 6 ((T.2.1 20 l2.toNat).toInt32.toInt).toNat))), some (.int (zI (vI T 0 43))), some (.long (T.2.1 0 44)), none, none, none]) dX7_call_53 rfl ?_
    refine g_aload_n dX7_call_55 rfl ?_
    refine g_getZ (v := vI T 0 45) dX7_call_56 tF_7_277 lM_0 rfl (zI_v T 0 45) ?_
    refine g_istore (L' := [some (.ref (b + 0)), some (.int (zI l1)), some (.int (zI l2)), some (.int (zI ((T.2.1 20 l2.toNat).toInt32.toInt))), some (.int (zI (vI T 6 ((T.2.1 20 l2.toNat).toInt32.toInt).toNat))), some (.int (zI (vI T 0 43))), some (.long (T.2.1 0 44)), none, some (.int (zI (vI T 0 45))), none]) dX7_call_59 rfl ?_
    refine g_aload_n dX7_call_61 rfl ?_
    refine g_getR dX7_call_62 tF_7_73 lM_0 rfl ?_
    refine g_iload_n dX7_call_65 rfl ?_
    refine g_ialdZ (v := vI T 21 l2.toNat) dX7_call_66 lM_21 a1 a2 (by decide) (zI_v T 21 l2.toNat) ?_
    refine g_istore (L' := [some (.ref (b + 0)), some (.int (zI l1)), some (.int (zI l2)), some (.int (zI ((T.2.1 20 l2.toNat).toInt32.toInt))), some (.int (zI (vI T 6 ((T.2.1 20 l2.toNat).toInt32.toInt).toNat))), some (.int (zI (vI T 0 43))), some (.long (T.2.1 0 44)), none, some (.int (zI (vI T 0 45))), some (.int (zI (vI T 21 l2.toNat)))]) dX7_call_67 rfl ?_
    refine g_aload_n dX7_call_69 rfl ?_
    refine g_iload dX7_call_70 rfl ?_
    refine g_iconst (v := zI 0) dX7_call_72 (by decide) ?_
    obtain ⟨a7, h⟩ := h
    obtain ⟨a8, h⟩ := h
    refine g_callV [.ref (b + 0), .int (zI (vI T 6 ((T.2.1 20 l2.toNat).toInt32.toInt).toNat)), .int (zI 0)] [] dX7_call_73 tG_7_219 tM_113 lM_0 rfl rfl rfl rfl (by decide) rfl ?_
    refine gC.mono (c_getZ sa b E d _ (n := vI T 0 3) (by first | exact (zI_v _ _ _).symm | rfl) a7 a8 (by decide)) (Nat.le_refl _) ?_
    rintro _ _ ⟨rfl, h9⟩
    obtain rfl := h9.symm
    refine g_iconst (v := zI 3) dX7_call_76 (by decide) ?_
    refine g_icmp_neZ dX7_call_77 rfl ⟨vI_lo _ _ _, vI_hi _ _ _⟩ (by decide) (fun c77 => ?_) (fun c77 => ?_)
    · replace h := h.1 c77
      exact h
    · replace h := h.2 c77
      refine g_aload_n dX7_call_80 rfl ?_
      refine g_iconst (v := zI 1) dX7_call_81 (by decide) ?_
      refine g_putI dX7_call_82 tF_7_271 lM_0 rfl rfl ⟨rfl, rfl⟩ rfl ?_
      refine g_aload_n dX7_call_85 rfl ?_
      refine g_iload_n dX7_call_86 rfl ?_
      refine g_i2l dX7_call_87 ?_
      refine g_putJ dX7_call_88 tF_7_274 lM_0 rfl rfl rfl ?_
      refine g_aload_n dX7_call_91 rfl ?_
      refine g_iload dX7_call_92 rfl ?_
      refine g_putI dX7_call_94 tF_7_277 lM_0 rfl rfl ⟨rfl, rfl⟩ rfl ?_
      refine g_aload_n dX7_call_97 rfl ?_
      refine g_aload_n dX7_call_98 rfl ?_
      refine g_iload dX7_call_99 rfl ?_
      refine g_iconst (v := zI 2) dX7_call_101 (by decide) ?_
      obtain ⟨a9, h⟩ := h
      refine g_callV [.ref (b + 0), .int (zI (vI T 6 ((T.2.1 20 l2.toNat).toInt32.toInt).toNat)), .int (zI 2)] [.ref (b + 0)] dX7_call_102 tG_7_219 tM_113 lM_0 rfl rfl rfl rfl (by decide) rfl ?_
      refine gC.mono (c_getZ sa b E d _ (n := vI T 0 3) (by first | exact (zI_v _ _ _).symm | rfl) a7 a9 (by decide)) (Nat.le_refl _) ?_
      rintro _ _ ⟨rfl, h9⟩
      obtain rfl := h9.symm
      refine g_iload dX7_call_105 rfl ?_
      refine g_callV [.ref (b + 0), .int (zI (cV T (vI T 0 3).toNat (vI T 6 ((T.2.1 20 l2.toNat).toInt32.toInt).toNat).toNat 2)), .int (zI (vI T 21 l2.toNat))] [] dX7_call_107 tG_7_299 tM_152 lM_0 rfl rfl rfl rfl (by decide) rfl ?_
      refine gC.mono h (Nat.le_refl _) ?_
      rintro _ T107 ⟨v107, rfl, h⟩
      refine g_istore (L' := [some (.ref (b + 0)), some (.int (zI l1)), some (.int (zI l2)), some (.int (zI ((T.2.1 20 l2.toNat).toInt32.toInt))), some (.int (zI (vI T 6 ((T.2.1 20 l2.toNat).toInt32.toInt).toNat))), some (.int (zI (vI T 0 43))), some (.long (T.2.1 0 44)), none, some (.int (zI (vI T 0 45))), some (.int (zI v107))]) dX7_call_110 rfl ?_
      exact h
  · replace h := h.2 c6
    refine g_aload_n dX7_call_9 rfl ?_
    refine g_iload_n dX7_call_10 rfl ?_
    refine g_callV [.ref (b + 0), .int (zI l1)] [] dX7_call_11 tG_7_296 tM_157 lM_0 rfl rfl rfl rfl (by decide) rfl ?_
    refine gC.mono h (Nat.le_refl _) ?_
    rintro _ T11 ⟨rfl, h⟩
    exact g_vret dX7_call_14 rfl h
def f_X7_call_112 (sa : Nat → Nat) (b : Nat) (E : Nat × mH) (d : Nat) (l1 : Int) (l2 : Int) (l3 : Int) (l4 : Int) (l5 : Int) (l6 : Int64) (l8 : Int) (l9 : Int) (T : gT) (Q : Option Value → gT → Prop) : Prop := (vI T 0 3 = 0 ∨ vI T 0 3 = 1) ∧ (0 ≤ l4 ∧ l4 < 200) ∧ gC (tP sa) lM b E (d + 1) mX7_chain [.ref (b + 0), .int (zI (cV T (vI T 0 3).toNat l4.toNat 1)), .int (zI l9)] (gI (gJ (gI T 0 43 (zI l5)) 0 44 l6) 0 45 (zI l8)) (fun r T140 => pI r (fun v140 => (vI T140 0 3 = 0 ∨ vI T140 0 3 = 1) ∧ (0 ≤ l4 ∧ l4 < 200) ∧ gC (tP sa) lM b E (d + 1) mX7_push [.ref (b + 0), .int (zI (cV T140 (vI T140 0 3).toNat l4.toNat 3)), .int (zI v140)] (gI T140 0 36 (zI ((vI T140 0 36) - 1))) (fun r T165 => pV r (Q none T165))))
set_option maxRecDepth 4000 in
theorem w_X7_call_112 {sa : Nat → Nat} {b : Nat} {E : Nat × mH} {d : Nat} {l1 : Int} {l2 : Int} {l3 : Int} {l4 : Int} {l5 : Int} {l6 : Int64} {l8 : Int} {l9 : Int} {T : gT} {Q : Option Value → gT → Prop} (h : f_X7_call_112 sa b E d l1 l2 l3 l4 l5 l6 l8 l9 T Q) : gW (tP sa) lM b E (d + 1 + 1) mX7_call 112 [some (.ref (b + 0)), some (.int (zI l1)), some (.int (zI l2)), some (.int (zI l3)), some (.int (zI l4)), some (.int (zI l5)), some (.long l6), none, some (.int (zI l8)), some (.int (zI l9))] [] T Q := by
  unfold f_X7_call_112 at h
  refine g_aload_n dX7_call_112 rfl ?_
  refine g_iload dX7_call_113 rfl ?_
  refine g_putI dX7_call_115 tF_7_271 lM_0 rfl rfl ⟨rfl, rfl⟩ rfl ?_
  refine g_aload_n dX7_call_118 rfl ?_
  refine g_lload dX7_call_119 rfl ?_
  refine g_putJ dX7_call_121 tF_7_274 lM_0 rfl rfl rfl ?_
  refine g_aload_n dX7_call_124 rfl ?_
  refine g_iload dX7_call_125 rfl ?_
  refine g_putI dX7_call_127 tF_7_277 lM_0 rfl rfl ⟨rfl, rfl⟩ rfl ?_
  refine g_aload_n dX7_call_130 rfl ?_
  refine g_aload_n dX7_call_131 rfl ?_
  refine g_iload dX7_call_132 rfl ?_
  refine g_iconst (v := zI 1) dX7_call_134 (by decide) ?_
  obtain ⟨a1, h⟩ := h
  obtain ⟨a2, h⟩ := h
  refine g_callV [.ref (b + 0), .int (zI l4), .int (zI 1)] [.ref (b + 0)] dX7_call_135 tG_7_219 tM_113 lM_0 rfl rfl rfl rfl (by decide) rfl ?_
  refine gC.mono (c_getZ sa b E d _ (n := vI T 0 3) (by first | exact (zI_v _ _ _).symm | rfl) a1 a2 (by decide)) (Nat.le_refl _) ?_
  rintro _ _ ⟨rfl, h9⟩
  obtain rfl := h9.symm
  refine g_iload dX7_call_138 rfl ?_
  refine g_callV [.ref (b + 0), .int (zI (cV T (vI T 0 3).toNat l4.toNat 1)), .int (zI l9)] [] dX7_call_140 tG_7_299 tM_152 lM_0 rfl rfl rfl rfl (by decide) rfl ?_
  refine gC.mono h (Nat.le_refl _) ?_
  rintro _ T140 ⟨v140, rfl, h⟩
  refine g_istore (L' := [some (.ref (b + 0)), some (.int (zI l1)), some (.int (zI l2)), some (.int (zI l3)), some (.int (zI l4)), some (.int (zI l5)), some (.long l6), none, some (.int (zI l8)), some (.int (zI v140))]) dX7_call_143 rfl ?_
  refine g_aload_n dX7_call_145 rfl ?_
  refine g_dup dX7_call_146 rfl ?_
  refine g_getZ (v := vI T140 0 36) dX7_call_147 tF_7_280 lM_0 rfl (zI_v T140 0 36) ?_
  refine g_iconst (v := zI 1) dX7_call_150 (by decide) ?_
  refine g_isubZ dX7_call_151 ?_
  refine g_putI dX7_call_152 tF_7_280 lM_0 rfl rfl ⟨rfl, rfl⟩ rfl ?_
  refine g_aload_n dX7_call_155 rfl ?_
  refine g_aload_n dX7_call_156 rfl ?_
  refine g_iload dX7_call_157 rfl ?_
  refine g_iconst (v := zI 3) dX7_call_159 (by decide) ?_
  obtain ⟨a3, h⟩ := h
  obtain ⟨a4, h⟩ := h
  refine g_callV [.ref (b + 0), .int (zI l4), .int (zI 3)] [.ref (b + 0)] dX7_call_160 tG_7_219 tM_113 lM_0 rfl rfl rfl rfl (by decide) rfl ?_
  refine gC.mono (c_getZ sa b E d _ (n := vI T140 0 3) (by first | exact (zI_v _ _ _).symm | rfl) a3 a4 (by decide)) (Nat.le_refl _) ?_
  rintro _ _ ⟨rfl, h9⟩
  obtain rfl := h9.symm
  refine g_iload dX7_call_163 rfl ?_
  refine g_callV [.ref (b + 0), .int (zI (cV T140 (vI T140 0 3).toNat l4.toNat 3)), .int (zI v140)] [] dX7_call_165 tG_7_286 tM_153 lM_0 rfl rfl rfl rfl (by decide) rfl ?_
  refine gC.mono h (Nat.le_refl _) ?_
  rintro _ T165 ⟨rfl, h⟩
  exact g_vret dX7_call_168 rfl h
def f_X7_binder (sa : Nat → Nat) (b : Nat) (E : Nat × mH) (d : Nat) (l1 : Int) (l2 : Int) (l3 : Int) (T : gT) (Q : Option Value → gT → Prop) : Prop := (vI T 0 3 = 0 ∨ vI T 0 3 = 1) ∧ (0 ≤ l1 ∧ l1 < 200) ∧ gC (tP sa) lM b E (d + 1) mX7_fresh [.ref (b + 0)] T (fun r T17 => pI r (fun v17 => (0 ≤ 1 - (vI T 0 3) ∧ 1 - (vI T 0 3) < 2) ∧ (0 ≤ l2 ∧ l2 < 200) ∧ (vI T17 0 3 = 0 ∨ vI T17 0 3 = 1) ∧ (0 ≤ l1 ∧ l1 < 200) ∧ ((¬ (cV (cS T17 (1 - (vI T 0 3)).toNat l2.toNat 1 v17) (vI T17 0 3).toNat l1.toNat 0) = 5 → gW (tP sa) lM b E (d + 1 + 1) mX7_binder 47 [some (.ref (b + 0)), some (.int (zI l1)), some (.int (zI l2)), some (.int (zI l3)), some (.int (zI (1 - (vI T 0 3)))), some (.int (zI (cV T (vI T 0 3).toNat l1.toNat 1))), some (.int (zI v17)), none, none, none] [.int (zI 3)] (cS T17 (1 - (vI T 0 3)).toNat l2.toNat 1 v17) Q) ∧ ((cV (cS T17 (1 - (vI T 0 3)).toNat l2.toNat 1 v17) (vI T17 0 3).toNat l1.toNat 0) = 5 → gW (tP sa) lM b E (d + 1 + 1) mX7_binder 47 [some (.ref (b + 0)), some (.int (zI l1)), some (.int (zI l2)), some (.int (zI l3)), some (.int (zI (1 - (vI T 0 3)))), some (.int (zI (cV T (vI T 0 3).toNat l1.toNat 1))), some (.int (zI v17)), none, none, none] [.int (zI 4)] (cS T17 (1 - (vI T 0 3)).toNat l2.toNat 1 v17) Q))))
set_option maxRecDepth 4000 in
theorem w_X7_binder {sa : Nat → Nat} {b : Nat} {E : Nat × mH} {d : Nat} {l1 : Int} {l2 : Int} {l3 : Int} {T : gT} {Q : Option Value → gT → Prop} (h : f_X7_binder sa b E d l1 l2 l3 T Q) : gC (tP sa) lM b E (d + 1 + 1) mX7_binder [.ref (b + 0), .int (zI l1), .int (zI l2), .int (zI l3)] T Q := by
  unfold f_X7_binder at h
  refine ⟨Nat.le_of_ble_eq_true rfl, ?_⟩
  show gW (tP sa) lM b E (d + 1 + 1) mX7_binder 0 [some (.ref (b + 0)), some (.int (zI l1)), some (.int (zI l2)), some (.int (zI l3)), none, none, none, none, none, none] [] T Q
  refine g_iconst (v := zI 1) dX7_binder_0 (by decide) ?_
  refine g_aload_n dX7_binder_1 rfl ?_
  refine g_getZ (v := vI T 0 3) dX7_binder_2 tF_7_101 lM_0 rfl (zI_v T 0 3) ?_
  refine g_isubZ dX7_binder_5 ?_
  refine g_istore (L' := [some (.ref (b + 0)), some (.int (zI l1)), some (.int (zI l2)), some (.int (zI l3)), some (.int (zI (1 - (vI T 0 3)))), none, none, none, none, none]) dX7_binder_6 rfl ?_
  refine g_aload_n dX7_binder_8 rfl ?_
  refine g_iload_n dX7_binder_9 rfl ?_
  refine g_iconst (v := zI 1) dX7_binder_10 (by decide) ?_
  obtain ⟨a1, h⟩ := h
  obtain ⟨a2, h⟩ := h
  refine g_callV [.ref (b + 0), .int (zI l1), .int (zI 1)] [] dX7_binder_11 tG_7_219 tM_113 lM_0 rfl rfl rfl rfl (by decide) rfl ?_
  refine gC.mono (c_getZ sa b E d _ (n := vI T 0 3) (by first | exact (zI_v _ _ _).symm | rfl) a1 a2 (by decide)) (Nat.le_refl _) ?_
  rintro _ _ ⟨rfl, h9⟩
  obtain rfl := h9.symm
  refine g_istore (L' := [some (.ref (b + 0)), some (.int (zI l1)), some (.int (zI l2)), some (.int (zI l3)), some (.int (zI (1 - (vI T 0 3)))), some (.int (zI (cV T (vI T 0 3).toNat l1.toNat 1))), none, none, none, none]) dX7_binder_14 rfl ?_
  refine g_aload_n dX7_binder_16 rfl ?_
  refine g_callV [.ref (b + 0)] [] dX7_binder_17 tG_7_320 tM_163 lM_0 rfl rfl rfl rfl (by decide) rfl ?_
  refine gC.mono h (Nat.le_refl _) ?_
  rintro _ T17 ⟨v17, rfl, h⟩
  refine g_istore (L' := [some (.ref (b + 0)), some (.int (zI l1)), some (.int (zI l2)), some (.int (zI l3)), some (.int (zI (1 - (vI T 0 3)))), some (.int (zI (cV T (vI T 0 3).toNat l1.toNat 1))), some (.int (zI v17)), none, none, none]) dX7_binder_20 rfl ?_
  refine g_aload_n dX7_binder_22 rfl ?_
  refine g_iload dX7_binder_23 rfl ?_
  refine g_iload_n dX7_binder_25 rfl ?_
  refine g_iconst (v := zI 1) dX7_binder_26 (by decide) ?_
  refine g_iload dX7_binder_27 rfl ?_
  obtain ⟨a3, h⟩ := h
  obtain ⟨a4, h⟩ := h
  refine g_callV [.ref (b + 0), .int (zI (1 - (vI T 0 3))), .int (zI l2), .int (zI 1), .int (zI v17)] [] dX7_binder_29 tG_7_108 tM_114 lM_0 rfl rfl rfl rfl (by decide) rfl ?_
  refine gC.mono (c_setZ sa b E _ _ a3 a4 (by decide)) (Nat.le_refl _) ?_
  rintro _ _ ⟨rfl, h9⟩
  obtain rfl := h9.symm
  refine g_aload_n dX7_binder_32 rfl ?_
  refine g_iload_n dX7_binder_33 rfl ?_
  refine g_iconst (v := zI 0) dX7_binder_34 (by decide) ?_
  obtain ⟨a5, h⟩ := h
  obtain ⟨a6, h⟩ := h
  refine g_callV [.ref (b + 0), .int (zI l1), .int (zI 0)] [] dX7_binder_35 tG_7_219 tM_113 lM_0 rfl rfl rfl rfl (by decide) rfl ?_
  refine gC.mono (c_getZ sa b E d _ (n := vI T17 0 3) (by first | exact (zI_v _ _ _).symm | rfl) a5 a6 (by decide)) (Nat.le_refl _) ?_
  rintro _ _ ⟨rfl, h9⟩
  obtain rfl := h9.symm
  refine g_iconst (v := zI 5) dX7_binder_38 (by decide) ?_
  refine g_icmp_neZ dX7_binder_39 rfl ⟨vI_lo _ _ _, vI_hi _ _ _⟩ (by decide) (fun c39 => ?_) (fun c39 => ?_)
  · replace h := h.1 c39
    refine g_iconst (v := zI 3) dX7_binder_46 (by decide) ?_
    exact h
  · replace h := h.2 c39
    refine g_iconst (v := zI 4) dX7_binder_42 (by decide) ?_
    refine g_goto dX7_binder_43 rfl ?_
    exact h
def f_X7_binder_47 (sa : Nat → Nat) (b : Nat) (E : Nat × mH) (d : Nat) (l1 : Int) (l2 : Int) (l3 : Int) (l4 : Int) (l5 : Int) (l6 : Int) (s0 : Int) (T : gT) (Q : Option Value → gT → Prop) : Prop := (-2147483648 ≤ s0 ∧ s0 < 2147483648) ∧ ((¬ s0 = 4 → gW (tP sa) lM b E (d + 1 + 1) mX7_binder 79 [some (.ref (b + 0)), some (.int (zI l1)), some (.int (zI l2)), some (.int (zI l3)), some (.int (zI l4)), some (.int (zI l5)), some (.int (zI l6)), some (.int (zI s0)), none, none] [] T Q) ∧ (s0 = 4 → (vI T 0 3 = 0 ∨ vI T 0 3 = 1) ∧ (0 ≤ l1 ∧ l1 < 200) ∧ gC (tP sa) lM b E (d + 1) mX7_copy [.ref (b + 0), .int (zI (cV T (vI T 0 3).toNat l1.toNat 3)), .int (zI l2), .int (zI l3)] T (fun r T64 => pI r (fun v64 => (0 ≤ l4 ∧ l4 < 2) ∧ (0 ≤ l2 ∧ l2 < 200) ∧ gW (tP sa) lM b E (d + 1 + 1) mX7_binder 79 [some (.ref (b + 0)), some (.int (zI l1)), some (.int (zI l2)), some (.int (zI l3)), some (.int (zI l4)), some (.int (zI l5)), some (.int (zI l6)), some (.int (zI s0)), some (.int (zI v64)), none] [] (cS T64 l4.toNat l2.toNat 3 v64) Q))))
set_option maxRecDepth 4000 in
theorem w_X7_binder_47 {sa : Nat → Nat} {b : Nat} {E : Nat × mH} {d : Nat} {l1 : Int} {l2 : Int} {l3 : Int} {l4 : Int} {l5 : Int} {l6 : Int} {s0 : Int} {T : gT} {Q : Option Value → gT → Prop} (h : f_X7_binder_47 sa b E d l1 l2 l3 l4 l5 l6 s0 T Q) : gW (tP sa) lM b E (d + 1 + 1) mX7_binder 47 [some (.ref (b + 0)), some (.int (zI l1)), some (.int (zI l2)), some (.int (zI l3)), some (.int (zI l4)), some (.int (zI l5)), some (.int (zI l6)), none, none, none] [.int (zI s0)] T Q := by
  unfold f_X7_binder_47 at h
  refine g_istore (L' := [some (.ref (b + 0)), some (.int (zI l1)), some (.int (zI l2)), some (.int (zI l3)), some (.int (zI l4)), some (.int (zI l5)), some (.int (zI l6)), some (.int (zI s0)), none, none]) dX7_binder_47 rfl ?_
  refine g_iload dX7_binder_49 rfl ?_
  refine g_iconst (v := zI 4) dX7_binder_51 (by decide) ?_
  obtain ⟨a1, h⟩ := h
  refine g_icmp_neZ dX7_binder_52 rfl a1 (by decide) (fun c52 => ?_) (fun c52 => ?_)
  · replace h := h.1 c52
    exact h
  · replace h := h.2 c52
    refine g_aload_n dX7_binder_55 rfl ?_
    refine g_aload_n dX7_binder_56 rfl ?_
    refine g_iload_n dX7_binder_57 rfl ?_
    refine g_iconst (v := zI 3) dX7_binder_58 (by decide) ?_
    obtain ⟨a2, h⟩ := h
    obtain ⟨a3, h⟩ := h
    refine g_callV [.ref (b + 0), .int (zI l1), .int (zI 3)] [.ref (b + 0)] dX7_binder_59 tG_7_219 tM_113 lM_0 rfl rfl rfl rfl (by decide) rfl ?_
    refine gC.mono (c_getZ sa b E d _ (n := vI T 0 3) (by first | exact (zI_v _ _ _).symm | rfl) a2 a3 (by decide)) (Nat.le_refl _) ?_
    rintro _ _ ⟨rfl, h9⟩
    obtain rfl := h9.symm
    refine g_iload_n dX7_binder_62 rfl ?_
    refine g_iload_n dX7_binder_63 rfl ?_
    refine g_callV [.ref (b + 0), .int (zI (cV T (vI T 0 3).toNat l1.toNat 3)), .int (zI l2), .int (zI l3)] [] dX7_binder_64 tG_7_312 tM_162 lM_0 rfl rfl rfl rfl (by decide) rfl ?_
    refine gC.mono h (Nat.le_refl _) ?_
    rintro _ T64 ⟨v64, rfl, h⟩
    refine g_istore (L' := [some (.ref (b + 0)), some (.int (zI l1)), some (.int (zI l2)), some (.int (zI l3)), some (.int (zI l4)), some (.int (zI l5)), some (.int (zI l6)), some (.int (zI s0)), some (.int (zI v64)), none]) dX7_binder_67 rfl ?_
    refine g_aload_n dX7_binder_69 rfl ?_
    refine g_iload dX7_binder_70 rfl ?_
    refine g_iload_n dX7_binder_72 rfl ?_
    refine g_iconst (v := zI 3) dX7_binder_73 (by decide) ?_
    refine g_iload dX7_binder_74 rfl ?_
    obtain ⟨a4, h⟩ := h
    obtain ⟨a5, h⟩ := h
    refine g_callV [.ref (b + 0), .int (zI l4), .int (zI l2), .int (zI 3), .int (zI v64)] [] dX7_binder_76 tG_7_108 tM_114 lM_0 rfl rfl rfl rfl (by decide) rfl ?_
    refine gC.mono (c_setZ sa b E _ _ a4 a5 (by decide)) (Nat.le_refl _) ?_
    rintro _ _ ⟨rfl, h9⟩
    obtain rfl := h9.symm
    exact h
def f_X7_binder_79 (sa : Nat → Nat) (b : Nat) (E : Nat × mH) (d : Nat) (l1 : Int) (l2 : Int) (l3 : Int) (l4 : Int) (l5 : Int) (l6 : Int) (l7 : Int) (T : gT) (Q : Option Value → gT → Prop) : Prop := (((vI T 0 49) = 0 → 0 ≤ l5 ∧ l5 < 100 ∧ (vI T 0 3 = 0 ∨ vI T 0 3 = 1) ∧ (0 ≤ l1 ∧ l1 < 200) ∧ (0 ≤ l7 ∧ l7 < 7) ∧ gC (tP sa) lM b E (d + 1) mX7_copy [.ref (b + 0), .int (zI (cV T (vI T 0 3).toNat l1.toNat l7.toNat)), .int (zI l2), .int (zI l3)] (gI T 27 l5.toNat (zI l6)) (fun r T115 => pI r (fun v115 => (0 ≤ l4 ∧ l4 < 2) ∧ (0 ≤ l2 ∧ l2 < 200) ∧ (0 ≤ l7 ∧ l7 < 7) ∧ Q none (gI (cS T115 l4.toNat l2.toNat l7.toNat v115) 27 l5.toNat (zI (vI T 27 l5.toNat)))))) ∧ (¬ (vI T 0 49) = 0 → Q none T))
set_option maxRecDepth 4000 in
theorem w_X7_binder_79 {sa : Nat → Nat} {b : Nat} {E : Nat × mH} {d : Nat} {l1 : Int} {l2 : Int} {l3 : Int} {l4 : Int} {l5 : Int} {l6 : Int} {l7 : Int} {T : gT} {Q : Option Value → gT → Prop} (h : f_X7_binder_79 sa b E d l1 l2 l3 l4 l5 l6 l7 T Q) : gW (tP sa) lM b E (d + 1 + 1) mX7_binder 79 [some (.ref (b + 0)), some (.int (zI l1)), some (.int (zI l2)), some (.int (zI l3)), some (.int (zI l4)), some (.int (zI l5)), some (.int (zI l6)), some (.int (zI l7)), none, none] [] T Q := by
  unfold f_X7_binder_79 at h
  refine g_aload_n dX7_binder_79 rfl ?_
  refine g_getZ (v := vI T 0 49) dX7_binder_80 tF_7_309 lM_0 rfl (zI_v T 0 49) ?_
  refine g_if_eqZ dX7_binder_83 rfl ⟨vI_lo _ _ _, vI_hi _ _ _⟩  (fun c83 => ?_) (fun c83 => ?_)
  · replace h := h.1 c83
    refine g_aload_n dX7_binder_87 rfl ?_
    refine g_getR dX7_binder_88 tF_7_91 lM_0 rfl ?_
    refine g_iload dX7_binder_91 rfl ?_
    obtain ⟨a1, h⟩ := h
    obtain ⟨a2, h⟩ := h
    refine g_ialdZ (v := vI T 27 l5.toNat) dX7_binder_93 lM_27 a1 a2 (by decide) (zI_v T 27 l5.toNat) ?_
    refine g_istore (L' := [some (.ref (b + 0)), some (.int (zI l1)), some (.int (zI l2)), some (.int (zI l3)), some (.int (zI l4)), some (.int (zI l5)), some (.int (zI l6)), some (.int (zI l7)), some (.int (zI (vI T 27 l5.toNat))), none]) dX7_binder_94 rfl ?_
    refine g_aload_n dX7_binder_96 rfl ?_
    refine g_getR dX7_binder_97 tF_7_91 lM_0 rfl ?_
    refine g_iload dX7_binder_100 rfl ?_
    refine g_iload dX7_binder_102 rfl ?_
    refine g_iastZ dX7_binder_104 lM_27 a1 a2 (by decide) ?_
    refine g_aload_n dX7_binder_105 rfl ?_
    refine g_aload_n dX7_binder_106 rfl ?_
    refine g_iload_n dX7_binder_107 rfl ?_
    refine g_iload dX7_binder_108 rfl ?_
    obtain ⟨a3, h⟩ := h
    obtain ⟨a4, h⟩ := h
    obtain ⟨a5, h⟩ := h
    refine g_callV [.ref (b + 0), .int (zI l1), .int (zI l7)] [.ref (b + 0)] dX7_binder_110 tG_7_219 tM_113 lM_0 rfl rfl rfl rfl (by decide) rfl ?_
    refine gC.mono (c_getZ sa b E d _ (n := vI T 0 3) (by first | exact (zI_v _ _ _).symm | rfl) a3 a4 a5) (Nat.le_refl _) ?_
    rintro _ _ ⟨rfl, h9⟩
    obtain rfl := h9.symm
    refine g_iload_n dX7_binder_113 rfl ?_
    refine g_iload_n dX7_binder_114 rfl ?_
    refine g_callV [.ref (b + 0), .int (zI (cV T (vI T 0 3).toNat l1.toNat l7.toNat)), .int (zI l2), .int (zI l3)] [] dX7_binder_115 tG_7_312 tM_162 lM_0 rfl rfl rfl rfl (by decide) rfl ?_
    refine gC.mono h (Nat.le_refl _) ?_
    rintro _ T115 ⟨v115, rfl, h⟩
    refine g_istore (L' := [some (.ref (b + 0)), some (.int (zI l1)), some (.int (zI l2)), some (.int (zI l3)), some (.int (zI l4)), some (.int (zI l5)), some (.int (zI l6)), some (.int (zI l7)), some (.int (zI (vI T 27 l5.toNat))), some (.int (zI v115))]) dX7_binder_118 rfl ?_
    refine g_aload_n dX7_binder_120 rfl ?_
    refine g_iload dX7_binder_121 rfl ?_
    refine g_iload_n dX7_binder_123 rfl ?_
    refine g_iload dX7_binder_124 rfl ?_
    refine g_iload dX7_binder_126 rfl ?_
    obtain ⟨a6, h⟩ := h
    obtain ⟨a7, h⟩ := h
    obtain ⟨a8, h⟩ := h
    refine g_callV [.ref (b + 0), .int (zI l4), .int (zI l2), .int (zI l7), .int (zI v115)] [] dX7_binder_128 tG_7_108 tM_114 lM_0 rfl rfl rfl rfl (by decide) rfl ?_
    refine gC.mono (c_setZ sa b E _ _ a6 a7 a8) (Nat.le_refl _) ?_
    rintro _ _ ⟨rfl, h9⟩
    obtain rfl := h9.symm
    refine g_aload_n dX7_binder_131 rfl ?_
    refine g_getR dX7_binder_132 tF_7_91 lM_0 rfl ?_
    refine g_iload dX7_binder_135 rfl ?_
    refine g_iload dX7_binder_137 rfl ?_
    refine g_iastZ dX7_binder_139 lM_27 a1 a2 (by decide) ?_
    exact g_vret dX7_binder_140 rfl h
  · replace h := h.2 c83
    exact g_vret dX7_binder_86 rfl h
def f_X7_binder_79b (sa : Nat → Nat) (b : Nat) (E : Nat × mH) (d : Nat) (l1 : Int) (l2 : Int) (l3 : Int) (l4 : Int) (l5 : Int) (l6 : Int) (l7 : Int) (l8 : Int) (T : gT) (Q : Option Value → gT → Prop) : Prop := (((vI T 0 49) = 0 → 0 ≤ l5 ∧ l5 < 100 ∧ (vI T 0 3 = 0 ∨ vI T 0 3 = 1) ∧ (0 ≤ l1 ∧ l1 < 200) ∧ (0 ≤ l7 ∧ l7 < 7) ∧ gC (tP sa) lM b E (d + 1) mX7_copy [.ref (b + 0), .int (zI (cV T (vI T 0 3).toNat l1.toNat l7.toNat)), .int (zI l2), .int (zI l3)] (gI T 27 l5.toNat (zI l6)) (fun r T115 => pI r (fun v115 => (0 ≤ l4 ∧ l4 < 2) ∧ (0 ≤ l2 ∧ l2 < 200) ∧ (0 ≤ l7 ∧ l7 < 7) ∧ Q none (gI (cS T115 l4.toNat l2.toNat l7.toNat v115) 27 l5.toNat (zI (vI T 27 l5.toNat)))))) ∧ (¬ (vI T 0 49) = 0 → Q none T))
set_option maxRecDepth 4000 in
theorem w_X7_binder_79b {sa : Nat → Nat} {b : Nat} {E : Nat × mH} {d : Nat} {l1 : Int} {l2 : Int} {l3 : Int} {l4 : Int} {l5 : Int} {l6 : Int} {l7 : Int} {l8 : Int} {T : gT} {Q : Option Value → gT → Prop} (h : f_X7_binder_79b sa b E d l1 l2 l3 l4 l5 l6 l7 l8 T Q) : gW (tP sa) lM b E (d + 1 + 1) mX7_binder 79 [some (.ref (b + 0)), some (.int (zI l1)), some (.int (zI l2)), some (.int (zI l3)), some (.int (zI l4)), some (.int (zI l5)), some (.int (zI l6)), some (.int (zI l7)), some (.int (zI l8)), none] [] T Q := by
  unfold f_X7_binder_79b at h
  refine g_aload_n dX7_binder_79 rfl ?_
  refine g_getZ (v := vI T 0 49) dX7_binder_80 tF_7_309 lM_0 rfl (zI_v T 0 49) ?_
  refine g_if_eqZ dX7_binder_83 rfl ⟨vI_lo _ _ _, vI_hi _ _ _⟩  (fun c83 => ?_) (fun c83 => ?_)
  · replace h := h.1 c83
    refine g_aload_n dX7_binder_87 rfl ?_
    refine g_getR dX7_binder_88 tF_7_91 lM_0 rfl ?_
    refine g_iload dX7_binder_91 rfl ?_
    obtain ⟨a1, h⟩ := h
    obtain ⟨a2, h⟩ := h
    refine g_ialdZ (v := vI T 27 l5.toNat) dX7_binder_93 lM_27 a1 a2 (by decide) (zI_v T 27 l5.toNat) ?_
    refine g_istore (L' := [some (.ref (b + 0)), some (.int (zI l1)), some (.int (zI l2)), some (.int (zI l3)), some (.int (zI l4)), some (.int (zI l5)), some (.int (zI l6)), some (.int (zI l7)), some (.int (zI (vI T 27 l5.toNat))), none]) dX7_binder_94 rfl ?_
    refine g_aload_n dX7_binder_96 rfl ?_
    refine g_getR dX7_binder_97 tF_7_91 lM_0 rfl ?_
    refine g_iload dX7_binder_100 rfl ?_
    refine g_iload dX7_binder_102 rfl ?_
    refine g_iastZ dX7_binder_104 lM_27 a1 a2 (by decide) ?_
    refine g_aload_n dX7_binder_105 rfl ?_
    refine g_aload_n dX7_binder_106 rfl ?_
    refine g_iload_n dX7_binder_107 rfl ?_
    refine g_iload dX7_binder_108 rfl ?_
    obtain ⟨a3, h⟩ := h
    obtain ⟨a4, h⟩ := h
    obtain ⟨a5, h⟩ := h
    refine g_callV [.ref (b + 0), .int (zI l1), .int (zI l7)] [.ref (b + 0)] dX7_binder_110 tG_7_219 tM_113 lM_0 rfl rfl rfl rfl (by decide) rfl ?_
    refine gC.mono (c_getZ sa b E d _ (n := vI T 0 3) (by first | exact (zI_v _ _ _).symm | rfl) a3 a4 a5) (Nat.le_refl _) ?_
    rintro _ _ ⟨rfl, h9⟩
    obtain rfl := h9.symm
    refine g_iload_n dX7_binder_113 rfl ?_
    refine g_iload_n dX7_binder_114 rfl ?_
    refine g_callV [.ref (b + 0), .int (zI (cV T (vI T 0 3).toNat l1.toNat l7.toNat)), .int (zI l2), .int (zI l3)] [] dX7_binder_115 tG_7_312 tM_162 lM_0 rfl rfl rfl rfl (by decide) rfl ?_
    refine gC.mono h (Nat.le_refl _) ?_
    rintro _ T115 ⟨v115, rfl, h⟩
    refine g_istore (L' := [some (.ref (b + 0)), some (.int (zI l1)), some (.int (zI l2)), some (.int (zI l3)), some (.int (zI l4)), some (.int (zI l5)), some (.int (zI l6)), some (.int (zI l7)), some (.int (zI (vI T 27 l5.toNat))), some (.int (zI v115))]) dX7_binder_118 rfl ?_
    refine g_aload_n dX7_binder_120 rfl ?_
    refine g_iload dX7_binder_121 rfl ?_
    refine g_iload_n dX7_binder_123 rfl ?_
    refine g_iload dX7_binder_124 rfl ?_
    refine g_iload dX7_binder_126 rfl ?_
    obtain ⟨a6, h⟩ := h
    obtain ⟨a7, h⟩ := h
    obtain ⟨a8, h⟩ := h
    refine g_callV [.ref (b + 0), .int (zI l4), .int (zI l2), .int (zI l7), .int (zI v115)] [] dX7_binder_128 tG_7_108 tM_114 lM_0 rfl rfl rfl rfl (by decide) rfl ?_
    refine gC.mono (c_setZ sa b E _ _ a6 a7 a8) (Nat.le_refl _) ?_
    rintro _ _ ⟨rfl, h9⟩
    obtain rfl := h9.symm
    refine g_aload_n dX7_binder_131 rfl ?_
    refine g_getR dX7_binder_132 tF_7_91 lM_0 rfl ?_
    refine g_iload dX7_binder_135 rfl ?_
    refine g_iload dX7_binder_137 rfl ?_
    refine g_iastZ dX7_binder_139 lM_27 a1 a2 (by decide) ?_
    exact g_vret dX7_binder_140 rfl h
  · replace h := h.2 c83
    exact g_vret dX7_binder_86 rfl h
def f_X7_sayNumber (sa : Nat → Nat) (b : Nat) (E : Nat × mH) (d : Nat) (l1 : Int) (T : gT) (Q : Option Value → gT → Prop) : Prop := (-2147483648 ≤ l1 ∧ l1 < 2147483648) ∧ ((0 ≤ l1 → ((0 ≤ l1 → gW (tP sa) lM b E (d + 1) mX7_sayNumber 23 [some (.ref (b + 0)), some (.int (zI l1)), some (.int (zI l1)), some (.int (zI 1))] [] T Q) ∧ (¬ 0 ≤ l1 → gC (tP sa) lM b E d mX7_say [.ref (b + 0), .int (zI 45)] T (fun r T18 => pV r (gW (tP sa) lM b E (d + 1) mX7_sayNumber 23 [some (.ref (b + 0)), some (.int (zI l1)), some (.int (zI l1)), some (.int (zI 1))] [] T18 Q))))) ∧ (¬ 0 ≤ l1 → ((0 ≤ l1 → gW (tP sa) lM b E (d + 1) mX7_sayNumber 23 [some (.ref (b + 0)), some (.int (zI l1)), some (.int (zI (-l1))), some (.int (zI 1))] [] T Q) ∧ (¬ 0 ≤ l1 → gC (tP sa) lM b E d mX7_say [.ref (b + 0), .int (zI 45)] T (fun r T18 => pV r (gW (tP sa) lM b E (d + 1) mX7_sayNumber 23 [some (.ref (b + 0)), some (.int (zI l1)), some (.int (zI (-l1))), some (.int (zI 1))] [] T18 Q))))))
set_option maxRecDepth 4000 in
theorem w_X7_sayNumber {sa : Nat → Nat} {b : Nat} {E : Nat × mH} {d : Nat} {l1 : Int} {T : gT} {Q : Option Value → gT → Prop} (h : f_X7_sayNumber sa b E d l1 T Q) : gC (tP sa) lM b E (d + 1) mX7_sayNumber [.ref (b + 0), .int (zI l1)] T Q := by
  unfold f_X7_sayNumber at h
  refine ⟨Nat.le_of_ble_eq_true rfl, ?_⟩
  show gW (tP sa) lM b E (d + 1) mX7_sayNumber 0 [some (.ref (b + 0)), some (.int (zI l1)), none, none] [] T Q
  refine g_iload_n dX7_sayNumber_0 rfl ?_
  obtain ⟨a1, h⟩ := h
  refine g_if_geZ dX7_sayNumber_1 rfl a1  (fun c1 => ?_) (fun c1 => ?_)
  · replace h := h.1 c1
    refine g_iload_n dX7_sayNumber_9 rfl ?_
    refine g_istore_n (L' := [some (.ref (b + 0)), some (.int (zI l1)), some (.int (zI l1)), none]) dX7_sayNumber_10 rfl ?_
    refine g_iload_n dX7_sayNumber_11 rfl ?_
    refine g_if_geZ dX7_sayNumber_12 rfl a1  (fun c12 => ?_) (fun c12 => ?_)
    · replace h := h.1 c12
      refine g_iconst (v := zI 1) dX7_sayNumber_21 (by decide) ?_
      refine g_istore_n (L' := [some (.ref (b + 0)), some (.int (zI l1)), some (.int (zI l1)), some (.int (zI 1))]) dX7_sayNumber_22 rfl ?_
      exact h
    · replace h := h.2 c12
      refine g_aload_n dX7_sayNumber_15 rfl ?_
      refine g_bipush (v := zI 45) dX7_sayNumber_16 (by decide) ?_
      refine g_callV [.ref (b + 0), .int (zI 45)] [] dX7_sayNumber_18 tG_7_332 tM_171 lM_0 rfl rfl rfl rfl (by decide) rfl ?_
      refine gC.mono h (Nat.le_refl _) ?_
      rintro _ T18 ⟨rfl, h⟩
      refine g_iconst (v := zI 1) dX7_sayNumber_21 (by decide) ?_
      refine g_istore_n (L' := [some (.ref (b + 0)), some (.int (zI l1)), some (.int (zI l1)), some (.int (zI 1))]) dX7_sayNumber_22 rfl ?_
      exact h
  · replace h := h.2 c1
    refine g_iload_n dX7_sayNumber_4 rfl ?_
    refine g_inegZ dX7_sayNumber_5 ?_
    refine g_goto dX7_sayNumber_6 rfl ?_
    refine g_istore_n (L' := [some (.ref (b + 0)), some (.int (zI l1)), some (.int (zI (-l1))), none]) dX7_sayNumber_10 rfl ?_
    refine g_iload_n dX7_sayNumber_11 rfl ?_
    refine g_if_geZ dX7_sayNumber_12 rfl a1  (fun c12 => ?_) (fun c12 => ?_)
    · replace h := h.1 c12
      refine g_iconst (v := zI 1) dX7_sayNumber_21 (by decide) ?_
      refine g_istore_n (L' := [some (.ref (b + 0)), some (.int (zI l1)), some (.int (zI (-l1))), some (.int (zI 1))]) dX7_sayNumber_22 rfl ?_
      exact h
    · replace h := h.2 c12
      refine g_aload_n dX7_sayNumber_15 rfl ?_
      refine g_bipush (v := zI 45) dX7_sayNumber_16 (by decide) ?_
      refine g_callV [.ref (b + 0), .int (zI 45)] [] dX7_sayNumber_18 tG_7_332 tM_171 lM_0 rfl rfl rfl rfl (by decide) rfl ?_
      refine gC.mono h (Nat.le_refl _) ?_
      rintro _ T18 ⟨rfl, h⟩
      refine g_iconst (v := zI 1) dX7_sayNumber_21 (by decide) ?_
      refine g_istore_n (L' := [some (.ref (b + 0)), some (.int (zI l1)), some (.int (zI (-l1))), some (.int (zI 1))]) dX7_sayNumber_22 rfl ?_
      exact h
def f_X7_sayNumber_23 (sa : Nat → Nat) (b : Nat) (E : Nat × mH) (d : Nat) (l1 : Int) (l2 : Int) (l3 : Int) (T : gT) (Q : Option Value → gT → Prop) : Prop := (0 ≤ l2 ∧ l2 < 2147483648) ∧ (0 < l3 ∧ l3 < 2147483648) ∧ (-2147483648 ≤ l2 / l3 ∧ l2 / l3 < 2147483648) ∧ (((l2 / l3) < 10 → gW (tP sa) lM b E (d + 1) mX7_sayNumber 39 [some (.ref (b + 0)), some (.int (zI l1)), some (.int (zI l2)), some (.int (zI l3))] [] T Q) ∧ (¬ (l2 / l3) < 10 → gW (tP sa) lM b E (d + 1) mX7_sayNumber 23 [some (.ref (b + 0)), some (.int (zI l1)), some (.int (zI l2)), some (.int (zI (l3 * 10)))] [] T Q))
set_option maxRecDepth 4000 in
theorem w_X7_sayNumber_23 {sa : Nat → Nat} {b : Nat} {E : Nat × mH} {d : Nat} {l1 : Int} {l2 : Int} {l3 : Int} {T : gT} {Q : Option Value → gT → Prop} (h : f_X7_sayNumber_23 sa b E d l1 l2 l3 T Q) : gW (tP sa) lM b E (d + 1) mX7_sayNumber 23 [some (.ref (b + 0)), some (.int (zI l1)), some (.int (zI l2)), some (.int (zI l3))] [] T Q := by
  unfold f_X7_sayNumber_23 at h
  refine g_iload_n dX7_sayNumber_23 rfl ?_
  refine g_iload_n dX7_sayNumber_24 rfl ?_
  obtain ⟨a1, h⟩ := h
  obtain ⟨a2, h⟩ := h
  refine g_idivZ dX7_sayNumber_25 a1 a2 ?_
  refine g_bipush (v := zI 10) dX7_sayNumber_26 (by decide) ?_
  obtain ⟨a3, h⟩ := h
  refine g_icmp_ltZ dX7_sayNumber_28 rfl a3 (by decide) (fun c28 => ?_) (fun c28 => ?_)
  · replace h := h.1 c28
    exact h
  · replace h := h.2 c28
    refine g_iload_n dX7_sayNumber_31 rfl ?_
    refine g_bipush (v := zI 10) dX7_sayNumber_32 (by decide) ?_
    refine g_imulZ dX7_sayNumber_34 ?_
    refine g_istore_n (L' := [some (.ref (b + 0)), some (.int (zI l1)), some (.int (zI l2)), some (.int (zI (l3 * 10)))]) dX7_sayNumber_35 rfl ?_
    refine g_goto dX7_sayNumber_36 rfl ?_
    exact h
def f_X7_sayNumber_39 (sa : Nat → Nat) (b : Nat) (E : Nat × mH) (d : Nat) (l1 : Int) (l2 : Int) (l3 : Int) (T : gT) (Q : Option Value → gT → Prop) : Prop := (-2147483648 ≤ l3 ∧ l3 < 2147483648) ∧ ((l3 ≤ 0 → Q none T) ∧ (¬ l3 ≤ 0 → (0 ≤ l2 ∧ l2 < 2147483648) ∧ (0 < l3 ∧ l3 < 2147483648) ∧ (0 ≤ (l2 / l3) ∧ (l2 / l3) < 2147483648) ∧ gC (tP sa) lM b E d mX7_say [.ref (b + 0), .int (zI (48 + ((l2 / l3) % 10)))] T (fun r T53 => pV r ((0 ≤ l3 ∧ l3 < 2147483648) ∧ gW (tP sa) lM b E (d + 1) mX7_sayNumber 39 [some (.ref (b + 0)), some (.int (zI l1)), some (.int (zI l2)), some (.int (zI (l3 / 10)))] [] T53 Q))))
set_option maxRecDepth 4000 in
theorem w_X7_sayNumber_39 {sa : Nat → Nat} {b : Nat} {E : Nat × mH} {d : Nat} {l1 : Int} {l2 : Int} {l3 : Int} {T : gT} {Q : Option Value → gT → Prop} (h : f_X7_sayNumber_39 sa b E d l1 l2 l3 T Q) : gW (tP sa) lM b E (d + 1) mX7_sayNumber 39 [some (.ref (b + 0)), some (.int (zI l1)), some (.int (zI l2)), some (.int (zI l3))] [] T Q := by
  unfold f_X7_sayNumber_39 at h
  refine g_iload_n dX7_sayNumber_39 rfl ?_
  obtain ⟨a1, h⟩ := h
  refine g_if_leZ dX7_sayNumber_40 rfl a1  (fun c40 => ?_) (fun c40 => ?_)
  · replace h := h.1 c40
    exact g_vret dX7_sayNumber_64 rfl h
  · replace h := h.2 c40
    refine g_aload_n dX7_sayNumber_43 rfl ?_
    refine g_bipush (v := zI 48) dX7_sayNumber_44 (by decide) ?_
    refine g_iload_n dX7_sayNumber_46 rfl ?_
    refine g_iload_n dX7_sayNumber_47 rfl ?_
    obtain ⟨a2, h⟩ := h
    obtain ⟨a3, h⟩ := h
    refine g_idivZ dX7_sayNumber_48 a2 a3 ?_
    refine g_bipush (v := zI 10) dX7_sayNumber_49 (by decide) ?_
    obtain ⟨a4, h⟩ := h
    refine g_iremZ dX7_sayNumber_51 a4 (by decide) ?_
    refine g_iaddZ dX7_sayNumber_52 ?_
    refine g_callV [.ref (b + 0), .int (zI (48 + ((l2 / l3) % 10)))] [] dX7_sayNumber_53 tG_7_332 tM_171 lM_0 rfl rfl rfl rfl (by decide) rfl ?_
    refine gC.mono h (Nat.le_refl _) ?_
    rintro _ T53 ⟨rfl, h⟩
    refine g_iload_n dX7_sayNumber_56 rfl ?_
    refine g_bipush (v := zI 10) dX7_sayNumber_57 (by decide) ?_
    obtain ⟨a5, h⟩ := h
    refine g_idivZ dX7_sayNumber_59 a5 (by decide) ?_
    refine g_istore_n (L' := [some (.ref (b + 0)), some (.int (zI l1)), some (.int (zI l2)), some (.int (zI (l3 / 10)))]) dX7_sayNumber_60 rfl ?_
    refine g_goto dX7_sayNumber_61 rfl ?_
    exact h
def f_X7_out (sa : Nat → Nat) (b : Nat) (E : Nat × mH) (d : Nat) (l1 : Int) (T : gT) (Q : Option Value → gT → Prop) : Prop := gW (tP sa) lM b E d mX7_out 10 [some (.ref (b + 0)), some (.int (zI l1)), some (.long 0), none, some (.int (zI 0)), none, none] [] (gI T 0 0 (zI 0)) Q
set_option maxRecDepth 4000 in
theorem w_X7_out {sa : Nat → Nat} {b : Nat} {E : Nat × mH} {d : Nat} {l1 : Int} {T : gT} {Q : Option Value → gT → Prop} (h : f_X7_out sa b E d l1 T Q) : gC (tP sa) lM b E d mX7_out [.ref (b + 0), .int (zI l1)] T Q := by
  unfold f_X7_out at h
  refine ⟨Nat.le_of_ble_eq_true rfl, ?_⟩
  show gW (tP sa) lM b E d mX7_out 0 [some (.ref (b + 0)), some (.int (zI l1)), none, none, none, none, none] [] T Q
  refine g_aload_n dX7_out_0 rfl ?_
  refine g_iconst (v := zI 0) dX7_out_1 (by decide) ?_
  refine g_putI dX7_out_2 tF_7_97 lM_0 rfl rfl ⟨rfl, rfl⟩ rfl ?_
  refine g_lconst (v := 0) dX7_out_5 (by decide) ?_
  refine g_lstore_n (L' := [some (.ref (b + 0)), some (.int (zI l1)), some (.long 0), none, none, none, none]) dX7_out_6 rfl ?_
  refine g_iconst (v := zI 0) dX7_out_7 (by decide) ?_
  refine g_istore (L' := [some (.ref (b + 0)), some (.int (zI l1)), some (.long 0), none, some (.int (zI 0)), none, none]) dX7_out_8 rfl ?_
  exact h
def f_X7_out_10 (sa : Nat → Nat) (b : Nat) (E : Nat × mH) (d : Nat) (l1 : Int) (l2 : Int64) (l4 : Int) (T : gT) (Q : Option Value → gT → Prop) : Prop := (-2147483648 ≤ l4 ∧ l4 < 2147483648) ∧ ((8 ≤ l4 → Q (some (.long l2)) T) ∧ (¬ 8 ≤ l4 → (((((zI l1).toInt64) + ((zI l4).toInt64)) < 0 → gW (tP sa) lM b E d mX7_out 10 [some (.ref (b + 0)), some (.int (zI l1)), some (.long (l2 ||| 0)), none, some (.int (zI (l4 + 1))), some (.long (((zI l1).toInt64) + ((zI l4).toInt64))), none] [] T Q) ∧ (¬ (((zI l1).toInt64) + ((zI l4).toInt64)) < 0 → ((¬ (((zI l1).toInt64) + ((zI l4).toInt64)) < ((zI (vI T 0 2)).toInt64) → gW (tP sa) lM b E d mX7_out 10 [some (.ref (b + 0)), some (.int (zI l1)), some (.long (l2 ||| 0)), none, some (.int (zI (l4 + 1))), some (.long (((zI l1).toInt64) + ((zI l4).toInt64))), none] [] T Q) ∧ ((((zI l1).toInt64) + ((zI l4).toInt64)) < ((zI (vI T 0 2)).toInt64) → 0 ≤ (((zI l1).toInt64) + ((zI l4).toInt64)).toInt32.toInt ∧ (((zI l1).toInt64) + ((zI l4).toInt64)).toInt32.toInt < 400 ∧ gW (tP sa) lM b E d mX7_out 10 [some (.ref (b + 0)), some (.int (zI l1)), some (.long (l2 ||| ((((zI (vI T 1 ((((zI l1).toInt64) + ((zI l4).toInt64)).toInt32.toInt).toNat)).toInt64) &&& 255) <<< ((zI (8 * l4)).toInt64 &&& 63)))), none, some (.int (zI (l4 + 1))), some (.long (((zI l1).toInt64) + ((zI l4).toInt64))), none] [] T Q))))))
set_option maxRecDepth 4000 in
theorem w_X7_out_10 {sa : Nat → Nat} {b : Nat} {E : Nat × mH} {d : Nat} {l1 : Int} {l2 : Int64} {l4 : Int} {T : gT} {Q : Option Value → gT → Prop} (h : f_X7_out_10 sa b E d l1 l2 l4 T Q) : gW (tP sa) lM b E d mX7_out 10 [some (.ref (b + 0)), some (.int (zI l1)), some (.long l2), none, some (.int (zI l4)), none, none] [] T Q := by
  unfold f_X7_out_10 at h
  refine g_iload dX7_out_10 rfl ?_
  refine g_bipush (v := zI 8) dX7_out_12 (by decide) ?_
  obtain ⟨a1, h⟩ := h
  refine g_icmp_geZ dX7_out_14 rfl a1 (by decide) (fun c14 => ?_) (fun c14 => ?_)
  · replace h := h.1 c14
    refine g_lload_n dX7_out_75 rfl ?_
    exact g_lret dX7_out_76 rfl h
  · replace h := h.2 c14
    refine g_iload_n dX7_out_17 rfl ?_
    refine g_i2l dX7_out_18 ?_
    refine g_iload dX7_out_19 rfl ?_
    refine g_i2l dX7_out_21 ?_
    refine g_ladd dX7_out_22 ?_
    refine g_lstore (L' := [some (.ref (b + 0)), some (.int (zI l1)), some (.long l2), none, some (.int (zI l4)), some (.long (((zI l1).toInt64) + ((zI l4).toInt64))), none]) dX7_out_23 rfl ?_
    refine g_lload_n dX7_out_25 rfl ?_
    refine g_lload dX7_out_26 rfl ?_
    refine g_lconst (v := 0) dX7_out_28 (by decide) ?_
    refine g_lcmp dX7_out_29 ?_
    refine g_if_ltL dX7_out_30 rfl (fun c30 => ?_) (fun c30 => ?_)
    · replace h := h.1 c30
      refine g_lconst (v := 0) dX7_out_66 (by decide) ?_
      refine g_lor dX7_out_67 ?_
      refine g_lstore_n (L' := [some (.ref (b + 0)), some (.int (zI l1)), some (.long (l2 ||| 0)), none, some (.int (zI l4)), some (.long (((zI l1).toInt64) + ((zI l4).toInt64))), none]) dX7_out_68 rfl ?_
      refine g_iinc (x := zI l4) (v := zI (l4 + 1)) (L' := [some (.ref (b + 0)), some (.int (zI l1)), some (.long (l2 ||| 0)), none, some (.int (zI (l4 + 1))), some (.long (((zI l1).toInt64) + ((zI l4).toInt64))), none]) dX7_out_69 rfl (zI_add _ _) rfl ?_
      refine g_goto dX7_out_72 rfl ?_
      exact h
    · replace h := h.2 c30
      refine g_lload dX7_out_33 rfl ?_
      refine g_aload_n dX7_out_35 rfl ?_
      refine g_getZ (v := vI T 0 2) dX7_out_36 tF_7_115 lM_0 rfl (zI_v T 0 2) ?_
      refine g_i2l dX7_out_39 ?_
      refine g_lcmp dX7_out_40 ?_
      refine g_if_geL dX7_out_41 rfl (fun c41 => ?_) (fun c41 => ?_)
      · replace h := h.1 c41
        refine g_lconst (v := 0) dX7_out_66 (by decide) ?_
        refine g_lor dX7_out_67 ?_
        refine g_lstore_n (L' := [some (.ref (b + 0)), some (.int (zI l1)), some (.long (l2 ||| 0)), none, some (.int (zI l4)), some (.long (((zI l1).toInt64) + ((zI l4).toInt64))), none]) dX7_out_68 rfl ?_
        refine g_iinc (x := zI l4) (v := zI (l4 + 1)) (L' := [some (.ref (b + 0)), some (.int (zI l1)), some (.long (l2 ||| 0)), none, some (.int (zI (l4 + 1))), some (.long (((zI l1).toInt64) + ((zI l4).toInt64))), none]) dX7_out_69 rfl (zI_add _ _) rfl ?_
        refine g_goto dX7_out_72 rfl ?_
        exact h
      · replace h := h.2 c41
        refine g_aload_n dX7_out_44 rfl ?_
        refine g_getR dX7_out_45 tF_7_7 lM_0 rfl ?_
        refine g_lload dX7_out_48 rfl ?_
        refine g_l2iZ dX7_out_50 ?_
        obtain ⟨a2, h⟩ := h
        obtain ⟨a3, h⟩ := h
        refine g_baldZ (v := vI T 1 ((((zI l1).toInt64) + ((zI l4).toInt64)).toInt32.toInt).toNat) dX7_out_51 lM_1 a2 a3 (by decide) (zI_v T 1 ((((zI l1).toInt64) + ((zI l4).toInt64)).toInt32.toInt).toNat) ?_
        refine g_i2l dX7_out_52 ?_
        refine g_ldc2_w dX7_out_53 (tK_7_363 sa) ?_
        refine g_land dX7_out_56 ?_
        refine g_bipush (v := zI 8) dX7_out_57 (by decide) ?_
        refine g_iload dX7_out_59 rfl ?_
        refine g_imulZ dX7_out_61 ?_
        refine g_lshl dX7_out_62 ?_
        refine g_goto dX7_out_63 rfl ?_
        refine g_lor dX7_out_67 ?_
        refine g_lstore_n (L' := [some (.ref (b + 0)), some (.int (zI l1)), some (.long (l2 ||| ((((zI (vI T 1 ((((zI l1).toInt64) + ((zI l4).toInt64)).toInt32.toInt).toNat)).toInt64) &&& 255) <<< ((zI (8 * l4)).toInt64 &&& 63)))), none, some (.int (zI l4)), some (.long (((zI l1).toInt64) + ((zI l4).toInt64))), none]) dX7_out_68 rfl ?_
        refine g_iinc (x := zI l4) (v := zI (l4 + 1)) (L' := [some (.ref (b + 0)), some (.int (zI l1)), some (.long (l2 ||| ((((zI (vI T 1 ((((zI l1).toInt64) + ((zI l4).toInt64)).toInt32.toInt).toNat)).toInt64) &&& 255) <<< ((zI (8 * l4)).toInt64 &&& 63)))), none, some (.int (zI (l4 + 1))), some (.long (((zI l1).toInt64) + ((zI l4).toInt64))), none]) dX7_out_69 rfl (zI_add _ _) rfl ?_
        refine g_goto dX7_out_72 rfl ?_
        exact h
def f_X7_out_10b (sa : Nat → Nat) (b : Nat) (E : Nat × mH) (d : Nat) (l1 : Int) (l2 : Int64) (l4 : Int) (l5 : Int64) (T : gT) (Q : Option Value → gT → Prop) : Prop := (-2147483648 ≤ l4 ∧ l4 < 2147483648) ∧ ((8 ≤ l4 → Q (some (.long l2)) T) ∧ (¬ 8 ≤ l4 → (((((zI l1).toInt64) + ((zI l4).toInt64)) < 0 → gW (tP sa) lM b E d mX7_out 10 [some (.ref (b + 0)), some (.int (zI l1)), some (.long (l2 ||| 0)), none, some (.int (zI (l4 + 1))), some (.long (((zI l1).toInt64) + ((zI l4).toInt64))), none] [] T Q) ∧ (¬ (((zI l1).toInt64) + ((zI l4).toInt64)) < 0 → ((¬ (((zI l1).toInt64) + ((zI l4).toInt64)) < ((zI (vI T 0 2)).toInt64) → gW (tP sa) lM b E d mX7_out 10 [some (.ref (b + 0)), some (.int (zI l1)), some (.long (l2 ||| 0)), none, some (.int (zI (l4 + 1))), some (.long (((zI l1).toInt64) + ((zI l4).toInt64))), none] [] T Q) ∧ ((((zI l1).toInt64) + ((zI l4).toInt64)) < ((zI (vI T 0 2)).toInt64) → 0 ≤ (((zI l1).toInt64) + ((zI l4).toInt64)).toInt32.toInt ∧ (((zI l1).toInt64) + ((zI l4).toInt64)).toInt32.toInt < 400 ∧ gW (tP sa) lM b E d mX7_out 10 [some (.ref (b + 0)), some (.int (zI l1)), some (.long (l2 ||| ((((zI (vI T 1 ((((zI l1).toInt64) + ((zI l4).toInt64)).toInt32.toInt).toNat)).toInt64) &&& 255) <<< ((zI (8 * l4)).toInt64 &&& 63)))), none, some (.int (zI (l4 + 1))), some (.long (((zI l1).toInt64) + ((zI l4).toInt64))), none] [] T Q))))))
set_option maxRecDepth 4000 in
theorem w_X7_out_10b {sa : Nat → Nat} {b : Nat} {E : Nat × mH} {d : Nat} {l1 : Int} {l2 : Int64} {l4 : Int} {l5 : Int64} {T : gT} {Q : Option Value → gT → Prop} (h : f_X7_out_10b sa b E d l1 l2 l4 l5 T Q) : gW (tP sa) lM b E d mX7_out 10 [some (.ref (b + 0)), some (.int (zI l1)), some (.long l2), none, some (.int (zI l4)), some (.long l5), none] [] T Q := by
  unfold f_X7_out_10b at h
  refine g_iload dX7_out_10 rfl ?_
  refine g_bipush (v := zI 8) dX7_out_12 (by decide) ?_
  obtain ⟨a1, h⟩ := h
  refine g_icmp_geZ dX7_out_14 rfl a1 (by decide) (fun c14 => ?_) (fun c14 => ?_)
  · replace h := h.1 c14
    refine g_lload_n dX7_out_75 rfl ?_
    exact g_lret dX7_out_76 rfl h
  · replace h := h.2 c14
    refine g_iload_n dX7_out_17 rfl ?_
    refine g_i2l dX7_out_18 ?_
    refine g_iload dX7_out_19 rfl ?_
    refine g_i2l dX7_out_21 ?_
    refine g_ladd dX7_out_22 ?_
    refine g_lstore (L' := [some (.ref (b + 0)), some (.int (zI l1)), some (.long l2), none, some (.int (zI l4)), some (.long (((zI l1).toInt64) + ((zI l4).toInt64))), none]) dX7_out_23 rfl ?_
    refine g_lload_n dX7_out_25 rfl ?_
    refine g_lload dX7_out_26 rfl ?_
    refine g_lconst (v := 0) dX7_out_28 (by decide) ?_
    refine g_lcmp dX7_out_29 ?_
    refine g_if_ltL dX7_out_30 rfl (fun c30 => ?_) (fun c30 => ?_)
    · replace h := h.1 c30
      refine g_lconst (v := 0) dX7_out_66 (by decide) ?_
      refine g_lor dX7_out_67 ?_
      refine g_lstore_n (L' := [some (.ref (b + 0)), some (.int (zI l1)), some (.long (l2 ||| 0)), none, some (.int (zI l4)), some (.long (((zI l1).toInt64) + ((zI l4).toInt64))), none]) dX7_out_68 rfl ?_
      refine g_iinc (x := zI l4) (v := zI (l4 + 1)) (L' := [some (.ref (b + 0)), some (.int (zI l1)), some (.long (l2 ||| 0)), none, some (.int (zI (l4 + 1))), some (.long (((zI l1).toInt64) + ((zI l4).toInt64))), none]) dX7_out_69 rfl (zI_add _ _) rfl ?_
      refine g_goto dX7_out_72 rfl ?_
      exact h
    · replace h := h.2 c30
      refine g_lload dX7_out_33 rfl ?_
      refine g_aload_n dX7_out_35 rfl ?_
      refine g_getZ (v := vI T 0 2) dX7_out_36 tF_7_115 lM_0 rfl (zI_v T 0 2) ?_
      refine g_i2l dX7_out_39 ?_
      refine g_lcmp dX7_out_40 ?_
      refine g_if_geL dX7_out_41 rfl (fun c41 => ?_) (fun c41 => ?_)
      · replace h := h.1 c41
        refine g_lconst (v := 0) dX7_out_66 (by decide) ?_
        refine g_lor dX7_out_67 ?_
        refine g_lstore_n (L' := [some (.ref (b + 0)), some (.int (zI l1)), some (.long (l2 ||| 0)), none, some (.int (zI l4)), some (.long (((zI l1).toInt64) + ((zI l4).toInt64))), none]) dX7_out_68 rfl ?_
        refine g_iinc (x := zI l4) (v := zI (l4 + 1)) (L' := [some (.ref (b + 0)), some (.int (zI l1)), some (.long (l2 ||| 0)), none, some (.int (zI (l4 + 1))), some (.long (((zI l1).toInt64) + ((zI l4).toInt64))), none]) dX7_out_69 rfl (zI_add _ _) rfl ?_
        refine g_goto dX7_out_72 rfl ?_
        exact h
      · replace h := h.2 c41
        refine g_aload_n dX7_out_44 rfl ?_
        refine g_getR dX7_out_45 tF_7_7 lM_0 rfl ?_
        refine g_lload dX7_out_48 rfl ?_
        refine g_l2iZ dX7_out_50 ?_
        obtain ⟨a2, h⟩ := h
        obtain ⟨a3, h⟩ := h
        refine g_baldZ (v := vI T 1 ((((zI l1).toInt64) + ((zI l4).toInt64)).toInt32.toInt).toNat) dX7_out_51 lM_1 a2 a3 (by decide) (zI_v T 1 ((((zI l1).toInt64) + ((zI l4).toInt64)).toInt32.toInt).toNat) ?_
        refine g_i2l dX7_out_52 ?_
        refine g_ldc2_w dX7_out_53 (tK_7_363 sa) ?_
        refine g_land dX7_out_56 ?_
        refine g_bipush (v := zI 8) dX7_out_57 (by decide) ?_
        refine g_iload dX7_out_59 rfl ?_
        refine g_imulZ dX7_out_61 ?_
        refine g_lshl dX7_out_62 ?_
        refine g_goto dX7_out_63 rfl ?_
        refine g_lor dX7_out_67 ?_
        refine g_lstore_n (L' := [some (.ref (b + 0)), some (.int (zI l1)), some (.long (l2 ||| ((((zI (vI T 1 ((((zI l1).toInt64) + ((zI l4).toInt64)).toInt32.toInt).toNat)).toInt64) &&& 255) <<< ((zI (8 * l4)).toInt64 &&& 63)))), none, some (.int (zI l4)), some (.long (((zI l1).toInt64) + ((zI l4).toInt64))), none]) dX7_out_68 rfl ?_
        refine g_iinc (x := zI l4) (v := zI (l4 + 1)) (L' := [some (.ref (b + 0)), some (.int (zI l1)), some (.long (l2 ||| ((((zI (vI T 1 ((((zI l1).toInt64) + ((zI l4).toInt64)).toInt32.toInt).toNat)).toInt64) &&& 255) <<< ((zI (8 * l4)).toInt64 &&& 63)))), none, some (.int (zI (l4 + 1))), some (.long (((zI l1).toInt64) + ((zI l4).toInt64))), none]) dX7_out_69 rfl (zI_add _ _) rfl ?_
        refine g_goto dX7_out_72 rfl ?_
        exact h
