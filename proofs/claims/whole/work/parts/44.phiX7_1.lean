/-! THE REFERENCE: its blocks, 1 (printed by wip/whole/phi7.py) -/
def f_X7_name (sa : Nat → Nat) (b : Nat) (E : Nat × mH) (d : Nat) (T : gT) (Q : Option Value → gT → Prop) : Prop := gC (tP sa) lM b E d mX7_blanks [.ref (b + 0)] T (fun r T1 => pV r (gC (tP sa) lM b E d mX7_peek [.ref (b + 0)] T1 (fun r T10 => pI r (fun v10 => (-2147483648 ≤ v10 ∧ v10 < 2147483648) ∧ (((zL v10 = true) → gC (tP sa) lM b E d mX7_wordEnd [.ref (b + 0)] T10 (fun r T29 => pI r (fun v29 => (-2147483648 ≤ v29 - (vI T1 0 20) ∧ v29 - (vI T1 0 20) < 2147483648) ∧ ((4 < (v29 - (vI T1 0 20)) → gC (tP sa) lM b E d mX7_peek [.ref (b + 0)] T29 (fun r T47 => pI r (fun v47 => gW (tP sa) lM b E (d + 1) mX7_name 57 [some (.ref (b + 0)), some (.int (zI (vI T1 0 20))), some (.int (zI v29)), some (.int (zI 0)), some (.int (zI v47)), some (.int (zI ((vI T1 0 20) + 1)))] [] T47 Q))) ∧ (¬ 4 < (v29 - (vI T1 0 20)) → gC (tP sa) lM b E d mX7_peek [.ref (b + 0)] T29 (fun r T47 => pI r (fun v47 => gW (tP sa) lM b E (d + 1) mX7_name 57 [some (.ref (b + 0)), some (.int (zI (vI T1 0 20))), some (.int (zI v29)), some (.int (zI 1)), some (.int (zI v47)), some (.int (zI ((vI T1 0 20) + 1)))] [] T47 Q))))))) ∧ (¬ (zL v10 = true) → gC (tP sa) lM b E d mX7_fail [.ref (b + 0), .int (zI (vI T10 0 20))] T10 (fun r T24 => pI r (fun v24 => Q (some (.int (zI v24))) T24))))))))
set_option maxRecDepth 4000 in
theorem w_X7_name {sa : Nat → Nat} {b : Nat} {E : Nat × mH} {d : Nat} {T : gT} {Q : Option Value → gT → Prop} (h : f_X7_name sa b E d T Q) : gC (tP sa) lM b E (d + 1) mX7_name [.ref (b + 0)] T Q := by
  unfold f_X7_name at h
  refine ⟨Nat.le_of_ble_eq_true rfl, ?_⟩
  show gW (tP sa) lM b E (d + 1) mX7_name 0 [some (.ref (b + 0)), none, none, none, none, none] [] T Q
  refine g_aload_n dX7_name_0 rfl ?_
  refine g_callV [.ref (b + 0)] [] dX7_name_1 tG_7_148 tM_118 lM_0 rfl rfl rfl rfl (by decide) rfl ?_
  refine gC.mono h (Nat.le_refl _) ?_
  rintro _ T1 ⟨rfl, h⟩
  refine g_aload_n dX7_name_4 rfl ?_
  refine g_getZ (v := vI T1 0 20) dX7_name_5 tF_7_112 lM_0 rfl (zI_v T1 0 20) ?_
  refine g_istore_n (L' := [some (.ref (b + 0)), some (.int (zI (vI T1 0 20))), none, none, none, none]) dX7_name_8 rfl ?_
  refine g_aload_n dX7_name_9 rfl ?_
  refine g_callV [.ref (b + 0)] [] dX7_name_10 tG_7_118 tM_116 lM_0 rfl rfl rfl rfl (by decide) rfl ?_
  refine gC.mono h (Nat.le_refl _) ?_
  rintro _ T10 ⟨v10, rfl, h⟩
  obtain ⟨a1, h⟩ := h
  refine g_callS [.int (zI v10)] [] dX7_name_13 tG_7_129 tM_120 rfl rfl rfl rfl (by decide) ?_
  refine gC.mono (c_zL sa b E _ _ a1) (Nat.le_refl _) ?_
  rintro _ _ ⟨rfl, h9⟩
  obtain rfl := h9.symm
  refine g_if_neB dX7_name_16 rfl (fun c16 => ?_) (fun c16 => ?_)
  · replace h := h.1 c16
    refine g_aload_n dX7_name_28 rfl ?_
    refine g_callV [.ref (b + 0)] [] dX7_name_29 tG_7_141 tM_122 lM_0 rfl rfl rfl rfl (by decide) rfl ?_
    refine gC.mono h (Nat.le_refl _) ?_
    rintro _ T29 ⟨v29, rfl, h⟩
    refine g_istore_n (L' := [some (.ref (b + 0)), some (.int (zI (vI T1 0 20))), some (.int (zI v29)), none, none, none]) dX7_name_32 rfl ?_
    refine g_iload_n dX7_name_33 rfl ?_
    refine g_iload_n dX7_name_34 rfl ?_
    refine g_isubZ dX7_name_35 ?_
    refine g_iconst (v := zI 4) dX7_name_36 (by decide) ?_
    obtain ⟨a2, h⟩ := h
    refine g_icmp_gtZ dX7_name_37 rfl a2 (by decide) (fun c37 => ?_) (fun c37 => ?_)
    · replace h := h.1 c37
      refine g_iconst (v := zI 0) dX7_name_44 (by decide) ?_
      refine g_istore_n (L' := [some (.ref (b + 0)), some (.int (zI (vI T1 0 20))), some (.int (zI v29)), some (.int (zI 0)), none, none]) dX7_name_45 rfl ?_
      refine g_aload_n dX7_name_46 rfl ?_
      refine g_callV [.ref (b + 0)] [] dX7_name_47 tG_7_118 tM_116 lM_0 rfl rfl rfl rfl (by decide) rfl ?_
      refine gC.mono h (Nat.le_refl _) ?_
      rintro _ T47 ⟨v47, rfl, h⟩
      refine g_istore (L' := [some (.ref (b + 0)), some (.int (zI (vI T1 0 20))), some (.int (zI v29)), some (.int (zI 0)), some (.int (zI v47)), none]) dX7_name_50 rfl ?_
      refine g_iload_n dX7_name_52 rfl ?_
      refine g_iconst (v := zI 1) dX7_name_53 (by decide) ?_
      refine g_iaddZ dX7_name_54 ?_
      refine g_istore (L' := [some (.ref (b + 0)), some (.int (zI (vI T1 0 20))), some (.int (zI v29)), some (.int (zI 0)), some (.int (zI v47)), some (.int (zI ((vI T1 0 20) + 1)))]) dX7_name_55 rfl ?_
      exact h
    · replace h := h.2 c37
      refine g_iconst (v := zI 1) dX7_name_40 (by decide) ?_
      refine g_goto dX7_name_41 rfl ?_
      refine g_istore_n (L' := [some (.ref (b + 0)), some (.int (zI (vI T1 0 20))), some (.int (zI v29)), some (.int (zI 1)), none, none]) dX7_name_45 rfl ?_
      refine g_aload_n dX7_name_46 rfl ?_
      refine g_callV [.ref (b + 0)] [] dX7_name_47 tG_7_118 tM_116 lM_0 rfl rfl rfl rfl (by decide) rfl ?_
      refine gC.mono h (Nat.le_refl _) ?_
      rintro _ T47 ⟨v47, rfl, h⟩
      refine g_istore (L' := [some (.ref (b + 0)), some (.int (zI (vI T1 0 20))), some (.int (zI v29)), some (.int (zI 1)), some (.int (zI v47)), none]) dX7_name_50 rfl ?_
      refine g_iload_n dX7_name_52 rfl ?_
      refine g_iconst (v := zI 1) dX7_name_53 (by decide) ?_
      refine g_iaddZ dX7_name_54 ?_
      refine g_istore (L' := [some (.ref (b + 0)), some (.int (zI (vI T1 0 20))), some (.int (zI v29)), some (.int (zI 1)), some (.int (zI v47)), some (.int (zI ((vI T1 0 20) + 1)))]) dX7_name_55 rfl ?_
      exact h
  · replace h := h.2 c16
    refine g_aload_n dX7_name_19 rfl ?_
    refine g_aload_n dX7_name_20 rfl ?_
    refine g_getZ (v := vI T10 0 20) dX7_name_21 tF_7_112 lM_0 rfl (zI_v T10 0 20) ?_
    refine g_callV [.ref (b + 0), .int (zI (vI T10 0 20))] [] dX7_name_24 tG_7_151 tM_119 lM_0 rfl rfl rfl rfl (by decide) rfl ?_
    refine gC.mono h (Nat.le_refl _) ?_
    rintro _ T24 ⟨v24, rfl, h⟩
    exact g_iret dX7_name_27 rfl rfl h
def f_X7_name_57 (sa : Nat → Nat) (b : Nat) (E : Nat × mH) (d : Nat) (l1 : Int) (l2 : Int) (l3 : Int) (l4 : Int) (l5 : Int) (T : gT) (Q : Option Value → gT → Prop) : Prop := (-2147483648 ≤ l5 ∧ l5 < 2147483648) ∧ (-2147483648 ≤ l2 ∧ l2 < 2147483648) ∧ ((l2 ≤ l5 → (-2147483648 ≤ l3 ∧ l3 < 2147483648) ∧ ((¬ l3 = 0 → Q (some (.int (zI l4))) (gI T 0 20 (zI l2))) ∧ (l3 = 0 → gC (tP sa) lM b E d mX7_fail [.ref (b + 0), .int (zI l1)] T (fun r T105 => pI r (fun v105 => Q (some (.int (zI v105))) T105))))) ∧ (¬ l2 ≤ l5 → (-2147483648 ≤ l3 ∧ l3 < 2147483648) ∧ ((l3 = 0 → ((¬ l3 = 0 → Q (some (.int (zI l4))) (gI T 0 20 (zI l2))) ∧ (l3 = 0 → gC (tP sa) lM b E d mX7_fail [.ref (b + 0), .int (zI l1)] T (fun r T105 => pI r (fun v105 => Q (some (.int (zI v105))) T105))))) ∧ (¬ l3 = 0 → 0 ≤ l5 ∧ l5 < 400 ∧ gW (tP sa) lM b E (d + 1) mX7_name 57 [some (.ref (b + 0)), some (.int (zI l1)), some (.int (zI l2)), some (.int (zI (if zD (vI T 1 l5.toNat) = true then (1 : Int) else 0))), some (.int (zI ((zI ((zI l4 <<< (zI 8 &&& 31)).toInt) ||| zI (vI T 1 l5.toNat)).toInt))), some (.int (zI (l5 + 1)))] [] T Q))))
set_option maxRecDepth 4000 in
theorem w_X7_name_57 {sa : Nat → Nat} {b : Nat} {E : Nat × mH} {d : Nat} {l1 : Int} {l2 : Int} {l3 : Int} {l4 : Int} {l5 : Int} {T : gT} {Q : Option Value → gT → Prop} (h : f_X7_name_57 sa b E d l1 l2 l3 l4 l5 T Q) : gW (tP sa) lM b E (d + 1) mX7_name 57 [some (.ref (b + 0)), some (.int (zI l1)), some (.int (zI l2)), some (.int (zI l3)), some (.int (zI l4)), some (.int (zI l5))] [] T Q := by
  unfold f_X7_name_57 at h
  refine g_iload dX7_name_57 rfl ?_
  refine g_iload_n dX7_name_59 rfl ?_
  obtain ⟨a1, h⟩ := h
  obtain ⟨a2, h⟩ := h
  refine g_icmp_geZ dX7_name_60 rfl a1 a2 (fun c60 => ?_) (fun c60 => ?_)
  · replace h := h.1 c60
    refine g_iload_n dX7_name_99 rfl ?_
    obtain ⟨a3, h⟩ := h
    refine g_if_neZ dX7_name_100 rfl a3  (fun c100 => ?_) (fun c100 => ?_)
    · replace h := h.1 c100
      refine g_aload_n dX7_name_109 rfl ?_
      refine g_iload_n dX7_name_110 rfl ?_
      refine g_putI dX7_name_111 tF_7_112 lM_0 rfl rfl ⟨rfl, rfl⟩ rfl ?_
      refine g_iload dX7_name_114 rfl ?_
      exact g_iret dX7_name_116 rfl rfl h
    · replace h := h.2 c100
      refine g_aload_n dX7_name_103 rfl ?_
      refine g_iload_n dX7_name_104 rfl ?_
      refine g_callV [.ref (b + 0), .int (zI l1)] [] dX7_name_105 tG_7_151 tM_119 lM_0 rfl rfl rfl rfl (by decide) rfl ?_
      refine gC.mono h (Nat.le_refl _) ?_
      rintro _ T105 ⟨v105, rfl, h⟩
      exact g_iret dX7_name_108 rfl rfl h
  · replace h := h.2 c60
    refine g_iload_n dX7_name_63 rfl ?_
    obtain ⟨a4, h⟩ := h
    refine g_if_eqZ dX7_name_64 rfl a4  (fun c64 => ?_) (fun c64 => ?_)
    · replace h := h.1 c64
      refine g_iload_n dX7_name_99 rfl ?_
      refine g_if_neZ dX7_name_100 rfl a4  (fun c100 => ?_) (fun c100 => ?_)
      · replace h := h.1 c100
        refine g_aload_n dX7_name_109 rfl ?_
        refine g_iload_n dX7_name_110 rfl ?_
        refine g_putI dX7_name_111 tF_7_112 lM_0 rfl rfl ⟨rfl, rfl⟩ rfl ?_
        refine g_iload dX7_name_114 rfl ?_
        exact g_iret dX7_name_116 rfl rfl h
      · replace h := h.2 c100
        refine g_aload_n dX7_name_103 rfl ?_
        refine g_iload_n dX7_name_104 rfl ?_
        refine g_callV [.ref (b + 0), .int (zI l1)] [] dX7_name_105 tG_7_151 tM_119 lM_0 rfl rfl rfl rfl (by decide) rfl ?_
        refine gC.mono h (Nat.le_refl _) ?_
        rintro _ T105 ⟨v105, rfl, h⟩
        exact g_iret dX7_name_108 rfl rfl h
    · replace h := h.2 c64
      refine g_aload_n dX7_name_67 rfl ?_
      refine g_getR dX7_name_68 tF_7_7 lM_0 rfl ?_
      refine g_iload dX7_name_71 rfl ?_
      obtain ⟨a5, h⟩ := h
      obtain ⟨a6, h⟩ := h
      refine g_baldZ (v := vI T 1 l5.toNat) dX7_name_73 lM_1 a5 a6 (by decide) (zI_v T 1 l5.toNat) ?_
      refine g_callS [.int (zI (vI T 1 l5.toNat))] [] dX7_name_74 tG_7_133 tM_121 rfl rfl rfl rfl (by decide) ?_
      refine gC.mono (c_zD sa b E _ _ ⟨vI_lo _ _ _, vI_hi _ _ _⟩) (Nat.le_refl _) ?_
      rintro _ _ ⟨rfl, h9⟩
      obtain rfl := h9.symm
      refine g_istore_n (L' := [some (.ref (b + 0)), some (.int (zI l1)), some (.int (zI l2)), some (.int (zI (if zD (vI T 1 l5.toNat) = true then (1 : Int) else 0))), some (.int (zI l4)), some (.int (zI l5))]) dX7_name_77 rfl ?_
      refine g_iload dX7_name_78 rfl ?_
      refine g_bipush (v := zI 8) dX7_name_80 (by decide) ?_
      refine g_ishlZ dX7_name_82 ?_
      refine g_aload_n dX7_name_83 rfl ?_
      refine g_getR dX7_name_84 tF_7_7 lM_0 rfl ?_
      refine g_iload dX7_name_87 rfl ?_
      refine g_baldZ (v := vI T 1 l5.toNat) dX7_name_89 lM_1 a5 a6 (by decide) (zI_v T 1 l5.toNat) ?_
      refine g_iorZ dX7_name_90 ?_
      refine g_istore (L' := [some (.ref (b + 0)), some (.int (zI l1)), some (.int (zI l2)), some (.int (zI (if zD (vI T 1 l5.toNat) = true then (1 : Int) else 0))), some (.int (zI ((zI ((zI l4 <<< (zI 8 &&& 31)).toInt) ||| zI (vI T 1 l5.toNat)).toInt))), some (.int (zI l5))]) dX7_name_91 rfl ?_
      refine g_iinc (x := zI l5) (v := zI (l5 + 1)) (L' := [some (.ref (b + 0)), some (.int (zI l1)), some (.int (zI l2)), some (.int (zI (if zD (vI T 1 l5.toNat) = true then (1 : Int) else 0))), some (.int (zI ((zI ((zI l4 <<< (zI 8 &&& 31)).toInt) ||| zI (vI T 1 l5.toNat)).toInt))), some (.int (zI (l5 + 1)))]) dX7_name_93 rfl (zI_add _ _) rfl ?_
      refine g_goto dX7_name_96 rfl ?_
      exact h
def f_X7_form (sa : Nat → Nat) (b : Nat) (E : Nat × mH) (d : Nat) (l1 : Int) (l2 : Int) (T : gT) (Q : Option Value → gT → Prop) : Prop := gC (tP sa) lM b E d mX7_blanks [.ref (b + 0)] T (fun r T1 => pV r (gC (tP sa) lM b E d mX7_peek [.ref (b + 0)] T1 (fun r T12 => pI r (fun v12 => gC (tP sa) lM b E d mX7_isWord [.ref (b + 0), .ref (sa 8)] T12 (fun r T20 => pI r (fun v20 => (-2147483648 ≤ v20 ∧ v20 < 2147483648) ∧ ((v20 = 0 → gC (tP sa) lM b E d mX7_isWord [.ref (b + 0), .ref (sa 9)] T20 (fun r T33 => pI r (fun v33 => (-2147483648 ≤ v33 ∧ v33 < 2147483648) ∧ ((v33 = 0 → gC (tP sa) lM b E d mX7_isWord [.ref (b + 0), .ref (sa 10)] T33 (fun r T46 => pI r (fun v46 => (-2147483648 ≤ v46 ∧ v46 < 2147483648) ∧ ((v46 = 0 → (-2147483648 ≤ v12 ∧ v12 < 2147483648) ∧ ((¬ v12 = 43 → ((¬ v12 = 45 → gW (tP sa) lM b E (d + 1) mX7_form 90 [some (.ref (b + 0)), some (.int (zI l1)), some (.int (zI l2)), some (.int (zI (1 - (vI T1 0 3)))), some (.int (zI v12)), none, none, none, none, none, none] [] T46 Q) ∧ (v12 = 45 → gC (tP sa) lM b E d mX7_peekBehind [.ref (b + 0)] T46 (fun r T76 => pI r (fun v76 => (-2147483648 ≤ v76 ∧ v76 < 2147483648) ∧ (((zD v76 = true) → gW (tP sa) lM b E (d + 1) mX7_form 90 [some (.ref (b + 0)), some (.int (zI l1)), some (.int (zI l2)), some (.int (zI (1 - (vI T1 0 3)))), some (.int (zI v12)), none, none, none, none, none, none] [] T76 Q) ∧ (¬ (zD v76 = true) → gW (tP sa) lM b E (d + 1) mX7_form 128 [some (.ref (b + 0)), some (.int (zI l1)), some (.int (zI l2)), some (.int (zI (1 - (vI T1 0 3)))), some (.int (zI v12)), none, none, none, none, none, none] [.int (zI 7)] T76 Q))))))) ∧ (v12 = 43 → gW (tP sa) lM b E (d + 1) mX7_form 128 [some (.ref (b + 0)), some (.int (zI l1)), some (.int (zI l2)), some (.int (zI (1 - (vI T1 0 3)))), some (.int (zI v12)), none, none, none, none, none, none] [.int (zI 6)] T46 Q))) ∧ (¬ v46 = 0 → gW (tP sa) lM b E (d + 1) mX7_form 128 [some (.ref (b + 0)), some (.int (zI l1)), some (.int (zI l2)), some (.int (zI (1 - (vI T1 0 3)))), some (.int (zI v12)), none, none, none, none, none, none] [.int (zI 3)] T46 Q))))) ∧ (¬ v33 = 0 → gW (tP sa) lM b E (d + 1) mX7_form 128 [some (.ref (b + 0)), some (.int (zI l1)), some (.int (zI l2)), some (.int (zI (1 - (vI T1 0 3)))), some (.int (zI v12)), none, none, none, none, none, none] [.int (zI 5)] T33 Q))))) ∧ (¬ v20 = 0 → gW (tP sa) lM b E (d + 1) mX7_form 128 [some (.ref (b + 0)), some (.int (zI l1)), some (.int (zI l2)), some (.int (zI (1 - (vI T1 0 3)))), some (.int (zI v12)), none, none, none, none, none, none] [.int (zI 4)] T20 Q))))))))
set_option maxRecDepth 4000 in
theorem w_X7_form {sa : Nat → Nat} {b : Nat} {E : Nat × mH} {d : Nat} {l1 : Int} {l2 : Int} {T : gT} {Q : Option Value → gT → Prop} (h : f_X7_form sa b E d l1 l2 T Q) : gC (tP sa) lM b E (d + 1) mX7_form [.ref (b + 0), .int (zI l1), .int (zI l2)] T Q := by
  unfold f_X7_form at h
  refine ⟨Nat.le_of_ble_eq_true rfl, ?_⟩
  show gW (tP sa) lM b E (d + 1) mX7_form 0 [some (.ref (b + 0)), some (.int (zI l1)), some (.int (zI l2)), none, none, none, none, none, none, none, none] [] T Q
  refine g_aload_n dX7_form_0 rfl ?_
  refine g_callV [.ref (b + 0)] [] dX7_form_1 tG_7_148 tM_118 lM_0 rfl rfl rfl rfl (by decide) rfl ?_
  refine gC.mono h (Nat.le_refl _) ?_
  rintro _ T1 ⟨rfl, h⟩
  refine g_iconst (v := zI 1) dX7_form_4 (by decide) ?_
  refine g_aload_n dX7_form_5 rfl ?_
  refine g_getZ (v := vI T1 0 3) dX7_form_6 tF_7_101 lM_0 rfl (zI_v T1 0 3) ?_
  refine g_isubZ dX7_form_9 ?_
  refine g_istore_n (L' := [some (.ref (b + 0)), some (.int (zI l1)), some (.int (zI l2)), some (.int (zI (1 - (vI T1 0 3)))), none, none, none, none, none, none, none]) dX7_form_10 rfl ?_
  refine g_aload_n dX7_form_11 rfl ?_
  refine g_callV [.ref (b + 0)] [] dX7_form_12 tG_7_118 tM_116 lM_0 rfl rfl rfl rfl (by decide) rfl ?_
  refine gC.mono h (Nat.le_refl _) ?_
  rintro _ T12 ⟨v12, rfl, h⟩
  refine g_istore (L' := [some (.ref (b + 0)), some (.int (zI l1)), some (.int (zI l2)), some (.int (zI (1 - (vI T1 0 3)))), some (.int (zI v12)), none, none, none, none, none, none]) dX7_form_15 rfl ?_
  refine g_aload_n dX7_form_17 rfl ?_
  refine g_ldc dX7_form_18 (tK_7_187 sa) rfl ?_
  refine g_callV [.ref (b + 0), .ref (sa 8)] [] dX7_form_20 tG_7_189 tM_123 lM_0 rfl rfl rfl rfl (by decide) rfl ?_
  refine gC.mono h (Nat.le_refl _) ?_
  rintro _ T20 ⟨v20, rfl, h⟩
  obtain ⟨a1, h⟩ := h
  refine g_if_eqZ dX7_form_23 rfl a1  (fun c23 => ?_) (fun c23 => ?_)
  · replace h := h.1 c23
    refine g_aload_n dX7_form_30 rfl ?_
    refine g_ldc dX7_form_31 (tK_7_193 sa) rfl ?_
    refine g_callV [.ref (b + 0), .ref (sa 9)] [] dX7_form_33 tG_7_189 tM_123 lM_0 rfl rfl rfl rfl (by decide) rfl ?_
    refine gC.mono h (Nat.le_refl _) ?_
    rintro _ T33 ⟨v33, rfl, h⟩
    obtain ⟨a2, h⟩ := h
    refine g_if_eqZ dX7_form_36 rfl a2  (fun c36 => ?_) (fun c36 => ?_)
    · replace h := h.1 c36
      refine g_aload_n dX7_form_43 rfl ?_
      refine g_ldc dX7_form_44 (tK_7_195 sa) rfl ?_
      refine g_callV [.ref (b + 0), .ref (sa 10)] [] dX7_form_46 tG_7_189 tM_123 lM_0 rfl rfl rfl rfl (by decide) rfl ?_
      refine gC.mono h (Nat.le_refl _) ?_
      rintro _ T46 ⟨v46, rfl, h⟩
      obtain ⟨a3, h⟩ := h
      refine g_if_eqZ dX7_form_49 rfl a3  (fun c49 => ?_) (fun c49 => ?_)
      · replace h := h.1 c49
        refine g_iload dX7_form_56 rfl ?_
        refine g_bipush (v := zI 43) dX7_form_58 (by decide) ?_
        obtain ⟨a4, h⟩ := h
        refine g_icmp_neZ dX7_form_60 rfl a4 (by decide) (fun c60 => ?_) (fun c60 => ?_)
        · replace h := h.1 c60
          refine g_iload dX7_form_68 rfl ?_
          refine g_bipush (v := zI 45) dX7_form_70 (by decide) ?_
          refine g_icmp_neZ dX7_form_72 rfl a4 (by decide) (fun c72 => ?_) (fun c72 => ?_)
          · replace h := h.1 c72
            exact h
          · replace h := h.2 c72
            refine g_aload_n dX7_form_75 rfl ?_
            refine g_callV [.ref (b + 0)] [] dX7_form_76 tG_7_197 tM_117 lM_0 rfl rfl rfl rfl (by decide) rfl ?_
            refine gC.mono h (Nat.le_refl _) ?_
            rintro _ T76 ⟨v76, rfl, h⟩
            obtain ⟨a5, h⟩ := h
            refine g_callS [.int (zI v76)] [] dX7_form_79 tG_7_133 tM_121 rfl rfl rfl rfl (by decide) ?_
            refine gC.mono (c_zD sa b E _ _ a5) (Nat.le_refl _) ?_
            rintro _ _ ⟨rfl, h9⟩
            obtain rfl := h9.symm
            refine g_if_neB dX7_form_82 rfl (fun c82 => ?_) (fun c82 => ?_)
            · replace h := h.1 c82
              exact h
            · replace h := h.2 c82
              refine g_bipush (v := zI 7) dX7_form_85 (by decide) ?_
              refine g_goto dX7_form_87 rfl ?_
              exact h
        · replace h := h.2 c60
          refine g_bipush (v := zI 6) dX7_form_63 (by decide) ?_
          refine g_goto dX7_form_65 rfl ?_
          exact h
      · replace h := h.2 c49
        refine g_iconst (v := zI 3) dX7_form_52 (by decide) ?_
        refine g_goto dX7_form_53 rfl ?_
        exact h
    · replace h := h.2 c36
      refine g_iconst (v := zI 5) dX7_form_39 (by decide) ?_
      refine g_goto dX7_form_40 rfl ?_
      exact h
  · replace h := h.2 c23
    refine g_iconst (v := zI 4) dX7_form_26 (by decide) ?_
    refine g_goto dX7_form_27 rfl ?_
    exact h
def f_X7_form_90 (sa : Nat → Nat) (b : Nat) (E : Nat × mH) (d : Nat) (l1 : Int) (l2 : Int) (l3 : Int) (l4 : Int) (T : gT) (Q : Option Value → gT → Prop) : Prop := (-2147483648 ≤ l4 ∧ l4 < 2147483648) ∧ ((¬ l4 = 42 → ((¬ l4 = 61 → ((¬ l4 = 60 → gW (tP sa) lM b E (d + 1) mX7_form 128 [some (.ref (b + 0)), some (.int (zI l1)), some (.int (zI l2)), some (.int (zI l3)), some (.int (zI l4)), none, none, none, none, none, none] [.int (zI 11)] T Q) ∧ (l4 = 60 → gW (tP sa) lM b E (d + 1) mX7_form 128 [some (.ref (b + 0)), some (.int (zI l1)), some (.int (zI l2)), some (.int (zI l3)), some (.int (zI l4)), none, none, none, none, none, none] [.int (zI 10)] T Q))) ∧ (l4 = 61 → gW (tP sa) lM b E (d + 1) mX7_form 128 [some (.ref (b + 0)), some (.int (zI l1)), some (.int (zI l2)), some (.int (zI l3)), some (.int (zI l4)), none, none, none, none, none, none] [.int (zI 9)] T Q))) ∧ (l4 = 42 → gW (tP sa) lM b E (d + 1) mX7_form 128 [some (.ref (b + 0)), some (.int (zI l1)), some (.int (zI l2)), some (.int (zI l3)), some (.int (zI l4)), none, none, none, none, none, none] [.int (zI 8)] T Q))
set_option maxRecDepth 4000 in
theorem w_X7_form_90 {sa : Nat → Nat} {b : Nat} {E : Nat × mH} {d : Nat} {l1 : Int} {l2 : Int} {l3 : Int} {l4 : Int} {T : gT} {Q : Option Value → gT → Prop} (h : f_X7_form_90 sa b E d l1 l2 l3 l4 T Q) : gW (tP sa) lM b E (d + 1) mX7_form 90 [some (.ref (b + 0)), some (.int (zI l1)), some (.int (zI l2)), some (.int (zI l3)), some (.int (zI l4)), none, none, none, none, none, none] [] T Q := by
  unfold f_X7_form_90 at h
  refine g_iload dX7_form_90 rfl ?_
  refine g_bipush (v := zI 42) dX7_form_92 (by decide) ?_
  obtain ⟨a1, h⟩ := h
  refine g_icmp_neZ dX7_form_94 rfl a1 (by decide) (fun c94 => ?_) (fun c94 => ?_)
  · replace h := h.1 c94
    refine g_iload dX7_form_102 rfl ?_
    refine g_bipush (v := zI 61) dX7_form_104 (by decide) ?_
    refine g_icmp_neZ dX7_form_106 rfl a1 (by decide) (fun c106 => ?_) (fun c106 => ?_)
    · replace h := h.1 c106
      refine g_iload dX7_form_114 rfl ?_
      refine g_bipush (v := zI 60) dX7_form_116 (by decide) ?_
      refine g_icmp_neZ dX7_form_118 rfl a1 (by decide) (fun c118 => ?_) (fun c118 => ?_)
      · replace h := h.1 c118
        refine g_bipush (v := zI 11) dX7_form_126 (by decide) ?_
        exact h
      · replace h := h.2 c118
        refine g_bipush (v := zI 10) dX7_form_121 (by decide) ?_
        refine g_goto dX7_form_123 rfl ?_
        exact h
    · replace h := h.2 c106
      refine g_bipush (v := zI 9) dX7_form_109 (by decide) ?_
      refine g_goto dX7_form_111 rfl ?_
      exact h
  · replace h := h.2 c94
    refine g_bipush (v := zI 8) dX7_form_97 (by decide) ?_
    refine g_goto dX7_form_99 rfl ?_
    exact h
def f_X7_form_128 (sa : Nat → Nat) (b : Nat) (E : Nat × mH) (d : Nat) (l1 : Int) (l2 : Int) (l3 : Int) (l4 : Int) (s0 : Int) (T : gT) (Q : Option Value → gT → Prop) : Prop := (-2147483648 ≤ s0 ∧ s0 < 2147483648) ∧ ((¬ s0 = 3 → gW (tP sa) lM b E (d + 1) mX7_form 151 [some (.ref (b + 0)), some (.int (zI l1)), some (.int (zI l2)), some (.int (zI l3)), some (.int (zI l4)), some (.int (zI s0)), none, none, none, none, none] [] T Q) ∧ (s0 = 3 → ((¬ (vI T 0 24) = 50 → gW (tP sa) lM b E (d + 1) mX7_form 151 [some (.ref (b + 0)), some (.int (zI l1)), some (.int (zI l2)), some (.int (zI l3)), some (.int (zI l4)), some (.int (zI s0)), none, none, none, none, none] [] T Q) ∧ ((vI T 0 24) = 50 → gC (tP sa) lM b E d mX7_fail [.ref (b + 0), .int (zI l1)] T (fun r T147 => pI r (fun v147 => Q (some (.int (zI v147))) T147))))))
set_option maxRecDepth 4000 in
theorem w_X7_form_128 {sa : Nat → Nat} {b : Nat} {E : Nat × mH} {d : Nat} {l1 : Int} {l2 : Int} {l3 : Int} {l4 : Int} {s0 : Int} {T : gT} {Q : Option Value → gT → Prop} (h : f_X7_form_128 sa b E d l1 l2 l3 l4 s0 T Q) : gW (tP sa) lM b E (d + 1) mX7_form 128 [some (.ref (b + 0)), some (.int (zI l1)), some (.int (zI l2)), some (.int (zI l3)), some (.int (zI l4)), none, none, none, none, none, none] [.int (zI s0)] T Q := by
  unfold f_X7_form_128 at h
  refine g_istore (L' := [some (.ref (b + 0)), some (.int (zI l1)), some (.int (zI l2)), some (.int (zI l3)), some (.int (zI l4)), some (.int (zI s0)), none, none, none, none, none]) dX7_form_128 rfl ?_
  refine g_iload dX7_form_130 rfl ?_
  refine g_iconst (v := zI 3) dX7_form_132 (by decide) ?_
  obtain ⟨a1, h⟩ := h
  refine g_icmp_neZ dX7_form_133 rfl a1 (by decide) (fun c133 => ?_) (fun c133 => ?_)
  · replace h := h.1 c133
    exact h
  · replace h := h.2 c133
    refine g_aload_n dX7_form_136 rfl ?_
    refine g_getZ (v := vI T 0 24) dX7_form_137 tF_7_178 lM_0 rfl (zI_v T 0 24) ?_
    refine g_bipush (v := zI 50) dX7_form_140 (by decide) ?_
    refine g_icmp_neZ dX7_form_142 rfl ⟨vI_lo _ _ _, vI_hi _ _ _⟩ (by decide) (fun c142 => ?_) (fun c142 => ?_)
    · replace h := h.1 c142
      exact h
    · replace h := h.2 c142
      refine g_aload_n dX7_form_145 rfl ?_
      refine g_iload_n dX7_form_146 rfl ?_
      refine g_callV [.ref (b + 0), .int (zI l1)] [] dX7_form_147 tG_7_151 tM_119 lM_0 rfl rfl rfl rfl (by decide) rfl ?_
      refine gC.mono h (Nat.le_refl _) ?_
      rintro _ T147 ⟨v147, rfl, h⟩
      exact g_iret dX7_form_150 rfl rfl h
def f_X7_form_151 (sa : Nat → Nat) (b : Nat) (E : Nat × mH) (d : Nat) (l1 : Int) (l2 : Int) (l3 : Int) (l4 : Int) (l5 : Int) (T : gT) (Q : Option Value → gT → Prop) : Prop := (-2147483648 ≤ l5 ∧ l5 < 2147483648) ∧ ((¬ l5 = 3 → gW (tP sa) lM b E (d + 1) mX7_form 167 [some (.ref (b + 0)), some (.int (zI l1)), some (.int (zI l2)), some (.int (zI l3)), some (.int (zI l4)), some (.int (zI l5)), none, none, none, none, none] [.int (zI 0), .int (zI (vI T 0 24)), .ref (b + 0)] T Q) ∧ (l5 = 3 → gW (tP sa) lM b E (d + 1) mX7_form 167 [some (.ref (b + 0)), some (.int (zI l1)), some (.int (zI l2)), some (.int (zI l3)), some (.int (zI l4)), some (.int (zI l5)), none, none, none, none, none] [.int (zI 1), .int (zI (vI T 0 24)), .ref (b + 0)] T Q))
set_option maxRecDepth 4000 in
theorem w_X7_form_151 {sa : Nat → Nat} {b : Nat} {E : Nat × mH} {d : Nat} {l1 : Int} {l2 : Int} {l3 : Int} {l4 : Int} {l5 : Int} {T : gT} {Q : Option Value → gT → Prop} (h : f_X7_form_151 sa b E d l1 l2 l3 l4 l5 T Q) : gW (tP sa) lM b E (d + 1) mX7_form 151 [some (.ref (b + 0)), some (.int (zI l1)), some (.int (zI l2)), some (.int (zI l3)), some (.int (zI l4)), some (.int (zI l5)), none, none, none, none, none] [] T Q := by
  unfold f_X7_form_151 at h
  refine g_aload_n dX7_form_151 rfl ?_
  refine g_dup dX7_form_152 rfl ?_
  refine g_getZ (v := vI T 0 24) dX7_form_153 tF_7_178 lM_0 rfl (zI_v T 0 24) ?_
  refine g_iload dX7_form_156 rfl ?_
  refine g_iconst (v := zI 3) dX7_form_158 (by decide) ?_
  obtain ⟨a1, h⟩ := h
  refine g_icmp_neZ dX7_form_159 rfl a1 (by decide) (fun c159 => ?_) (fun c159 => ?_)
  · replace h := h.1 c159
    refine g_iconst (v := zI 0) dX7_form_166 (by decide) ?_
    exact h
  · replace h := h.2 c159
    refine g_iconst (v := zI 1) dX7_form_162 (by decide) ?_
    refine g_goto dX7_form_163 rfl ?_
    exact h
def f_X7_form_167 (sa : Nat → Nat) (b : Nat) (E : Nat × mH) (d : Nat) (l1 : Int) (l2 : Int) (l3 : Int) (l4 : Int) (l5 : Int) (s0 : Int) (s1 : Int) (T : gT) (Q : Option Value → gT → Prop) : Prop := (-2147483648 ≤ l5 ∧ l5 < 2147483648) ∧ ((¬ l5 = 4 → ((l5 = 5 → gW (tP sa) lM b E (d + 1) mX7_form 198 [some (.ref (b + 0)), some (.int (zI l1)), some (.int (zI l2)), some (.int (zI l3)), some (.int (zI l4)), some (.int (zI l5)), none, none, none, none, none] [.int (zI (vI T 0 20)), .ref (b + 0)] (gI T 0 24 (zI (s1 + s0))) Q) ∧ (¬ l5 = 5 → ((¬ l5 = 3 → ((11 ≤ l5 → gW (tP sa) lM b E (d + 1) mX7_form 214 [some (.ref (b + 0)), some (.int (zI l1)), some (.int (zI l2)), some (.int (zI l3)), some (.int (zI l4)), some (.int (zI l5)), none, none, none, none, none] [.int (zI 0), .int (zI (vI T 0 20)), .ref (b + 0)] (gI T 0 24 (zI (s1 + s0))) Q) ∧ (¬ 11 ≤ l5 → gW (tP sa) lM b E (d + 1) mX7_form 214 [some (.ref (b + 0)), some (.int (zI l1)), some (.int (zI l2)), some (.int (zI l3)), some (.int (zI l4)), some (.int (zI l5)), none, none, none, none, none] [.int (zI 1), .int (zI (vI T 0 20)), .ref (b + 0)] (gI T 0 24 (zI (s1 + s0))) Q))) ∧ (l5 = 3 → gW (tP sa) lM b E (d + 1) mX7_form 198 [some (.ref (b + 0)), some (.int (zI l1)), some (.int (zI l2)), some (.int (zI l3)), some (.int (zI l4)), some (.int (zI l5)), none, none, none, none, none] [.int (zI (vI T 0 20)), .ref (b + 0)] (gI T 0 24 (zI (s1 + s0))) Q))))) ∧ (l5 = 4 → gW (tP sa) lM b E (d + 1) mX7_form 214 [some (.ref (b + 0)), some (.int (zI l1)), some (.int (zI l2)), some (.int (zI l3)), some (.int (zI l4)), some (.int (zI l5)), none, none, none, none, none] [.int (zI 2), .int (zI (vI T 0 20)), .ref (b + 0)] (gI T 0 24 (zI (s1 + s0))) Q))
set_option maxRecDepth 4000 in
theorem w_X7_form_167 {sa : Nat → Nat} {b : Nat} {E : Nat × mH} {d : Nat} {l1 : Int} {l2 : Int} {l3 : Int} {l4 : Int} {l5 : Int} {s0 : Int} {s1 : Int} {T : gT} {Q : Option Value → gT → Prop} (h : f_X7_form_167 sa b E d l1 l2 l3 l4 l5 s0 s1 T Q) : gW (tP sa) lM b E (d + 1) mX7_form 167 [some (.ref (b + 0)), some (.int (zI l1)), some (.int (zI l2)), some (.int (zI l3)), some (.int (zI l4)), some (.int (zI l5)), none, none, none, none, none] [.int (zI s0), .int (zI s1), .ref (b + 0)] T Q := by
  unfold f_X7_form_167 at h
  refine g_iaddZ dX7_form_167 ?_
  refine g_putI dX7_form_168 tF_7_178 lM_0 rfl rfl ⟨rfl, rfl⟩ rfl ?_
  refine g_aload_n dX7_form_171 rfl ?_
  refine g_dup dX7_form_172 rfl ?_
  refine g_getZ (v := vI T 0 20) dX7_form_173 tF_7_112 lM_0 rfl (zI_v T 0 20) ?_
  refine g_iload dX7_form_176 rfl ?_
  refine g_iconst (v := zI 4) dX7_form_178 (by decide) ?_
  obtain ⟨a1, h⟩ := h
  refine g_icmp_neZ dX7_form_179 rfl a1 (by decide) (fun c179 => ?_) (fun c179 => ?_)
  · replace h := h.1 c179
    refine g_iload dX7_form_186 rfl ?_
    refine g_iconst (v := zI 5) dX7_form_188 (by decide) ?_
    refine g_icmp_eqZ dX7_form_189 rfl a1 (by decide) (fun c189 => ?_) (fun c189 => ?_)
    · replace h := h.1 c189
      exact h
    · replace h := h.2 c189
      refine g_iload dX7_form_192 rfl ?_
      refine g_iconst (v := zI 3) dX7_form_194 (by decide) ?_
      refine g_icmp_neZ dX7_form_195 rfl a1 (by decide) (fun c195 => ?_) (fun c195 => ?_)
      · replace h := h.1 c195
        refine g_iload dX7_form_202 rfl ?_
        refine g_bipush (v := zI 11) dX7_form_204 (by decide) ?_
        refine g_icmp_geZ dX7_form_206 rfl a1 (by decide) (fun c206 => ?_) (fun c206 => ?_)
        · replace h := h.1 c206
          refine g_iconst (v := zI 0) dX7_form_213 (by decide) ?_
          exact h
        · replace h := h.2 c206
          refine g_iconst (v := zI 1) dX7_form_209 (by decide) ?_
          refine g_goto dX7_form_210 rfl ?_
          exact h
      · replace h := h.2 c195
        exact h
  · replace h := h.2 c179
    refine g_iconst (v := zI 2) dX7_form_182 (by decide) ?_
    refine g_goto dX7_form_183 rfl ?_
    exact h
def f_X7_form_198 (sa : Nat → Nat) (b : Nat) (E : Nat × mH) (d : Nat) (l1 : Int) (l2 : Int) (l3 : Int) (l4 : Int) (l5 : Int) (s0 : Int) (T : gT) (Q : Option Value → gT → Prop) : Prop := gW (tP sa) lM b E (d + 1) mX7_form 214 [some (.ref (b + 0)), some (.int (zI l1)), some (.int (zI l2)), some (.int (zI l3)), some (.int (zI l4)), some (.int (zI l5)), none, none, none, none, none] [.int (zI 3), .int (zI s0), .ref (b + 0)] T Q
set_option maxRecDepth 4000 in
theorem w_X7_form_198 {sa : Nat → Nat} {b : Nat} {E : Nat × mH} {d : Nat} {l1 : Int} {l2 : Int} {l3 : Int} {l4 : Int} {l5 : Int} {s0 : Int} {T : gT} {Q : Option Value → gT → Prop} (h : f_X7_form_198 sa b E d l1 l2 l3 l4 l5 s0 T Q) : gW (tP sa) lM b E (d + 1) mX7_form 198 [some (.ref (b + 0)), some (.int (zI l1)), some (.int (zI l2)), some (.int (zI l3)), some (.int (zI l4)), some (.int (zI l5)), none, none, none, none, none] [.int (zI s0), .ref (b + 0)] T Q := by
  unfold f_X7_form_198 at h
  refine g_iconst (v := zI 3) dX7_form_198 (by decide) ?_
  refine g_goto dX7_form_199 rfl ?_
  exact h
def f_X7_form_214 (sa : Nat → Nat) (b : Nat) (E : Nat × mH) (d : Nat) (l1 : Int) (l2 : Int) (l3 : Int) (l4 : Int) (l5 : Int) (s0 : Int) (s1 : Int) (T : gT) (Q : Option Value → gT → Prop) : Prop := gC (tP sa) lM b E d mX7_begin [.ref (b + 0), .int (zI l3), .int (zI l5), .int (zI (-1)), .int (zI l2)] (gI T 0 20 (zI (s1 + s0))) (fun r T224 => pI r (fun v224 => (-2147483648 ≤ l5 ∧ l5 < 2147483648) ∧ ((¬ l5 = 3 → ((¬ l5 = 5 → ((¬ l5 = 4 → gW (tP sa) lM b E (d + 1) mX7_form 478 [some (.ref (b + 0)), some (.int (zI l1)), some (.int (zI l2)), some (.int (zI l3)), some (.int (zI l4)), some (.int (zI l5)), some (.int (zI v224)), some (.int (zI 2)), some (.int (zI 0)), none, none] [] T224 Q) ∧ (l5 = 4 → gW (tP sa) lM b E (d + 1) mX7_form 478 [some (.ref (b + 0)), some (.int (zI l1)), some (.int (zI l2)), some (.int (zI l3)), some (.int (zI l4)), some (.int (zI l5)), some (.int (zI v224)), some (.int (zI 3)), some (.int (zI 0)), none, none] [] T224 Q))) ∧ (l5 = 5 → gC (tP sa) lM b E d mX7_binding [.ref (b + 0)] T224 (fun r T325 => pI r (fun v325 => (((vI T325 0 22) = 0 → (0 ≤ l3 ∧ l3 < 2) ∧ (0 ≤ v224 ∧ v224 < 200) ∧ 0 ≤ (vI T325 0 27) - 1 ∧ (vI T325 0 27) - 1 < 200 ∧ gC (tP sa) lM b E d mX7_expression [.ref (b + 0), .int (zI v224)] (gI (cS T325 l3.toNat v224.toNat 1 v325) 0 27 (zI ((vI T325 0 27) - 1))) (fun r T373 => pI r (fun v373 => (0 ≤ l3 ∧ l3 < 2) ∧ (0 ≤ v224 ∧ v224 < 200) ∧ 0 ≤ vI T373 0 27 ∧ vI T373 0 27 < 200 ∧ (((vI T373 0 22) = 0 → gC (tP sa) lM b E d mX7_expression [.ref (b + 0), .int (zI v224)] (gI (gI (gI (cS T373 l3.toNat v224.toNat 3 v373) 13 (vI T373 0 27).toNat (zI (vI T325 13 ((vI T325 0 27) - 1).toNat))) 14 (vI T373 0 27).toNat (zI v325)) 0 27 (zI ((vI T373 0 27) + 1))) (fun r T434 => pI r (fun v434 => gW (tP sa) lM b E (d + 1) mX7_form 437 [some (.ref (b + 0)), some (.int (zI l1)), some (.int (zI l2)), some (.int (zI l3)), some (.int (zI l4)), some (.int (zI l5)), some (.int (zI v224)), some (.int (zI v325)), some (.int (zI (vI T325 13 ((vI T325 0 27) - 1).toNat))), some (.int (zI v373)), none] [.int (zI v434)] T434 Q))) ∧ (¬ (vI T373 0 22) = 0 → gW (tP sa) lM b E (d + 1) mX7_form 437 [some (.ref (b + 0)), some (.int (zI l1)), some (.int (zI l2)), some (.int (zI l3)), some (.int (zI l4)), some (.int (zI l5)), some (.int (zI v224)), some (.int (zI v325)), some (.int (zI (vI T325 13 ((vI T325 0 27) - 1).toNat))), some (.int (zI v373)), none] [.int (zI (-1))] (gI (gI (gI (cS T373 l3.toNat v224.toNat 3 v373) 13 (vI T373 0 27).toNat (zI (vI T325 13 ((vI T325 0 27) - 1).toNat))) 14 (vI T373 0 27).toNat (zI v325)) 0 27 (zI ((vI T373 0 27) + 1))) Q))))) ∧ (¬ (vI T325 0 22) = 0 → Q (some (.int (zI (-1)))) T325))))))) ∧ (l5 = 3 → gC (tP sa) lM b E d mX7_binding [.ref (b + 0)] T224 (fun r T236 => pI r (fun v236 => (((vI T236 0 22) = 0 → gC (tP sa) lM b E d mX7_binding [.ref (b + 0)] T236 (fun r T253 => pI r (fun v253 => gW (tP sa) lM b E (d + 1) mX7_form 256 [some (.ref (b + 0)), some (.int (zI l1)), some (.int (zI l2)), some (.int (zI l3)), some (.int (zI l4)), some (.int (zI l5)), some (.int (zI v224)), some (.int (zI v236)), none, none, none] [.int (zI v253)] T253 Q))) ∧ (¬ (vI T236 0 22) = 0 → gW (tP sa) lM b E (d + 1) mX7_form 256 [some (.ref (b + 0)), some (.int (zI l1)), some (.int (zI l2)), some (.int (zI l3)), some (.int (zI l4)), some (.int (zI l5)), some (.int (zI v224)), some (.int (zI v236)), none, none, none] [.int (zI 0)] T236 Q))))))))
set_option maxRecDepth 4000 in
theorem w_X7_form_214 {sa : Nat → Nat} {b : Nat} {E : Nat × mH} {d : Nat} {l1 : Int} {l2 : Int} {l3 : Int} {l4 : Int} {l5 : Int} {s0 : Int} {s1 : Int} {T : gT} {Q : Option Value → gT → Prop} (h : f_X7_form_214 sa b E d l1 l2 l3 l4 l5 s0 s1 T Q) : gW (tP sa) lM b E (d + 1) mX7_form 214 [some (.ref (b + 0)), some (.int (zI l1)), some (.int (zI l2)), some (.int (zI l3)), some (.int (zI l4)), some (.int (zI l5)), none, none, none, none, none] [.int (zI s0), .int (zI s1), .ref (b + 0)] T Q := by
  unfold f_X7_form_214 at h
  refine g_iaddZ dX7_form_214 ?_
  refine g_putI dX7_form_215 tF_7_112 lM_0 rfl rfl ⟨rfl, rfl⟩ rfl ?_
  refine g_aload_n dX7_form_218 rfl ?_
  refine g_iload_n dX7_form_219 rfl ?_
  refine g_iload dX7_form_220 rfl ?_
  refine g_iconst (v := zI (-1)) dX7_form_222 (by decide) ?_
  refine g_iload_n dX7_form_223 rfl ?_
  refine g_callV [.ref (b + 0), .int (zI l3), .int (zI l5), .int (zI (-1)), .int (zI l2)] [] dX7_form_224 tG_7_161 tM_115 lM_0 rfl rfl rfl rfl (by decide) rfl ?_
  refine gC.mono h (Nat.le_refl _) ?_
  rintro _ T224 ⟨v224, rfl, h⟩
  refine g_istore (L' := [some (.ref (b + 0)), some (.int (zI l1)), some (.int (zI l2)), some (.int (zI l3)), some (.int (zI l4)), some (.int (zI l5)), some (.int (zI v224)), none, none, none, none]) dX7_form_227 rfl ?_
  refine g_iload dX7_form_229 rfl ?_
  refine g_iconst (v := zI 3) dX7_form_231 (by decide) ?_
  obtain ⟨a1, h⟩ := h
  refine g_icmp_neZ dX7_form_232 rfl a1 (by decide) (fun c232 => ?_) (fun c232 => ?_)
  · replace h := h.1 c232
    refine g_iload dX7_form_318 rfl ?_
    refine g_iconst (v := zI 5) dX7_form_320 (by decide) ?_
    refine g_icmp_neZ dX7_form_321 rfl a1 (by decide) (fun c321 => ?_) (fun c321 => ?_)
    · replace h := h.1 c321
      refine g_iload dX7_form_462 rfl ?_
      refine g_iconst (v := zI 4) dX7_form_464 (by decide) ?_
      refine g_icmp_neZ dX7_form_465 rfl a1 (by decide) (fun c465 => ?_) (fun c465 => ?_)
      · replace h := h.1 c465
        refine g_iconst (v := zI 2) dX7_form_472 (by decide) ?_
        refine g_istore (L' := [some (.ref (b + 0)), some (.int (zI l1)), some (.int (zI l2)), some (.int (zI l3)), some (.int (zI l4)), some (.int (zI l5)), some (.int (zI v224)), some (.int (zI 2)), none, none, none]) dX7_form_473 rfl ?_
        refine g_iconst (v := zI 0) dX7_form_475 (by decide) ?_
        refine g_istore (L' := [some (.ref (b + 0)), some (.int (zI l1)), some (.int (zI l2)), some (.int (zI l3)), some (.int (zI l4)), some (.int (zI l5)), some (.int (zI v224)), some (.int (zI 2)), some (.int (zI 0)), none, none]) dX7_form_476 rfl ?_
        exact h
      · replace h := h.2 c465
        refine g_iconst (v := zI 3) dX7_form_468 (by decide) ?_
        refine g_goto dX7_form_469 rfl ?_
        refine g_istore (L' := [some (.ref (b + 0)), some (.int (zI l1)), some (.int (zI l2)), some (.int (zI l3)), some (.int (zI l4)), some (.int (zI l5)), some (.int (zI v224)), some (.int (zI 3)), none, none, none]) dX7_form_473 rfl ?_
        refine g_iconst (v := zI 0) dX7_form_475 (by decide) ?_
        refine g_istore (L' := [some (.ref (b + 0)), some (.int (zI l1)), some (.int (zI l2)), some (.int (zI l3)), some (.int (zI l4)), some (.int (zI l5)), some (.int (zI v224)), some (.int (zI 3)), some (.int (zI 0)), none, none]) dX7_form_476 rfl ?_
        exact h
    · replace h := h.2 c321
      refine g_aload_n dX7_form_324 rfl ?_
      refine g_callV [.ref (b + 0)] [] dX7_form_325 tG_7_181 tM_125 lM_0 rfl rfl rfl rfl (by decide) rfl ?_
      refine gC.mono h (Nat.le_refl _) ?_
      rintro _ T325 ⟨v325, rfl, h⟩
      refine g_istore (L' := [some (.ref (b + 0)), some (.int (zI l1)), some (.int (zI l2)), some (.int (zI l3)), some (.int (zI l4)), some (.int (zI l5)), some (.int (zI v224)), some (.int (zI v325)), none, none, none]) dX7_form_328 rfl ?_
      refine g_aload_n dX7_form_330 rfl ?_
      refine g_getZ (v := vI T325 0 22) dX7_form_331 tF_7_122 lM_0 rfl (zI_v T325 0 22) ?_
      refine g_if_eqZ dX7_form_334 rfl ⟨vI_lo _ _ _, vI_hi _ _ _⟩  (fun c334 => ?_) (fun c334 => ?_)
      · replace h := h.1 c334
        refine g_aload_n dX7_form_339 rfl ?_
        refine g_iload_n dX7_form_340 rfl ?_
        refine g_iload dX7_form_341 rfl ?_
        refine g_iconst (v := zI 1) dX7_form_343 (by decide) ?_
        refine g_iload dX7_form_344 rfl ?_
        obtain ⟨a2, h⟩ := h
        obtain ⟨a3, h⟩ := h
        refine g_callV [.ref (b + 0), .int (zI l3), .int (zI v224), .int (zI 1), .int (zI v325)] [] dX7_form_346 tG_7_108 tM_114 lM_0 rfl rfl rfl rfl (by decide) rfl ?_
        refine gC.mono (c_setZ sa b E _ _ a2 a3 (by decide)) (Nat.le_refl _) ?_
        rintro _ _ ⟨rfl, h9⟩
        obtain rfl := h9.symm
        refine g_aload_n dX7_form_349 rfl ?_
        refine g_dup dX7_form_350 rfl ?_
        refine g_getZ (v := vI T325 0 27) dX7_form_351 tF_7_158 lM_0 rfl (zI_v T325 0 27) ?_
        refine g_iconst (v := zI 1) dX7_form_354 (by decide) ?_
        refine g_isubZ dX7_form_355 ?_
        refine g_putI dX7_form_356 tF_7_158 lM_0 rfl rfl ⟨rfl, rfl⟩ rfl ?_
        refine g_aload_n dX7_form_359 rfl ?_
        refine g_getR dX7_form_360 tF_7_48 lM_0 rfl ?_
        refine g_aload_n dX7_form_363 rfl ?_
        refine g_getZ (v := (vI T325 0 27) - 1) dX7_form_364 tF_7_158 lM_0 rfl rfl ?_
        obtain ⟨a4, h⟩ := h
        obtain ⟨a5, h⟩ := h
        refine g_ialdZ (v := vI T325 13 ((vI T325 0 27) - 1).toNat) dX7_form_367 lM_13 a4 a5 (by decide) (zI_v T325 13 ((vI T325 0 27) - 1).toNat) ?_
        refine g_istore (L' := [some (.ref (b + 0)), some (.int (zI l1)), some (.int (zI l2)), some (.int (zI l3)), some (.int (zI l4)), some (.int (zI l5)), some (.int (zI v224)), some (.int (zI v325)), some (.int (zI (vI T325 13 ((vI T325 0 27) - 1).toNat))), none, none]) dX7_form_368 rfl ?_
        refine g_aload_n dX7_form_370 rfl ?_
        refine g_iload dX7_form_371 rfl ?_
        refine g_callV [.ref (b + 0), .int (zI v224)] [] dX7_form_373 tG_7_184 tM_126 lM_0 rfl rfl rfl rfl (by decide) rfl ?_
        refine gC.mono h (Nat.le_refl _) ?_
        rintro _ T373 ⟨v373, rfl, h⟩
        refine g_istore (L' := [some (.ref (b + 0)), some (.int (zI l1)), some (.int (zI l2)), some (.int (zI l3)), some (.int (zI l4)), some (.int (zI l5)), some (.int (zI v224)), some (.int (zI v325)), some (.int (zI (vI T325 13 ((vI T325 0 27) - 1).toNat))), some (.int (zI v373)), none]) dX7_form_376 rfl ?_
        refine g_aload_n dX7_form_378 rfl ?_
        refine g_iload_n dX7_form_379 rfl ?_
        refine g_iload dX7_form_380 rfl ?_
        refine g_iconst (v := zI 3) dX7_form_382 (by decide) ?_
        refine g_iload dX7_form_383 rfl ?_
        obtain ⟨a6, h⟩ := h
        obtain ⟨a7, h⟩ := h
        refine g_callV [.ref (b + 0), .int (zI l3), .int (zI v224), .int (zI 3), .int (zI v373)] [] dX7_form_385 tG_7_108 tM_114 lM_0 rfl rfl rfl rfl (by decide) rfl ?_
        refine gC.mono (c_setZ sa b E _ _ a6 a7 (by decide)) (Nat.le_refl _) ?_
        rintro _ _ ⟨rfl, h9⟩
        obtain rfl := h9.symm
        refine g_aload_n dX7_form_388 rfl ?_
        refine g_getR dX7_form_389 tF_7_48 lM_0 rfl ?_
        refine g_aload_n dX7_form_392 rfl ?_
        refine g_getZ (v := vI T373 0 27) dX7_form_393 tF_7_158 lM_0 rfl (zI_v T373 0 27) ?_
        refine g_iload dX7_form_396 rfl ?_
        obtain ⟨a8, h⟩ := h
        obtain ⟨a9, h⟩ := h
        refine g_iastZ dX7_form_398 lM_13 a8 a9 (by decide) ?_
        refine g_aload_n dX7_form_399 rfl ?_
        refine g_getR dX7_form_400 tF_7_51 lM_0 rfl ?_
        refine g_aload_n dX7_form_403 rfl ?_
        refine g_getZ (v := vI T373 0 27) dX7_form_404 tF_7_158 lM_0 rfl (zI_v T373 0 27) ?_
        refine g_iload dX7_form_407 rfl ?_
        refine g_iastZ dX7_form_409 lM_14 a8 a9 (by decide) ?_
        refine g_aload_n dX7_form_410 rfl ?_
        refine g_dup dX7_form_411 rfl ?_
        refine g_getZ (v := vI T373 0 27) dX7_form_412 tF_7_158 lM_0 rfl (zI_v T373 0 27) ?_
        refine g_iconst (v := zI 1) dX7_form_415 (by decide) ?_
        refine g_iaddZ dX7_form_416 ?_
        refine g_putI dX7_form_417 tF_7_158 lM_0 rfl rfl ⟨rfl, rfl⟩ rfl ?_
        refine g_aload_n dX7_form_420 rfl ?_
        refine g_getZ (v := vI T373 0 22) dX7_form_421 tF_7_122 lM_0 rfl (zI_v T373 0 22) ?_
        refine g_if_eqZ dX7_form_424 rfl ⟨vI_lo _ _ _, vI_hi _ _ _⟩  (fun c424 => ?_) (fun c424 => ?_)
        · replace h := h.1 c424
          refine g_aload_n dX7_form_431 rfl ?_
          refine g_iload dX7_form_432 rfl ?_
          refine g_callV [.ref (b + 0), .int (zI v224)] [] dX7_form_434 tG_7_184 tM_126 lM_0 rfl rfl rfl rfl (by decide) rfl ?_
          refine gC.mono h (Nat.le_refl _) ?_
          rintro _ T434 ⟨v434, rfl, h⟩
          exact h
        · replace h := h.2 c424
          refine g_iconst (v := zI (-1)) dX7_form_427 (by decide) ?_
          refine g_goto dX7_form_428 rfl ?_
          exact h
      · replace h := h.2 c334
        refine g_iconst (v := zI (-1)) dX7_form_337 (by decide) ?_
        exact g_iret dX7_form_338 rfl rfl h
  · replace h := h.2 c232
    refine g_aload_n dX7_form_235 rfl ?_
    refine g_callV [.ref (b + 0)] [] dX7_form_236 tG_7_181 tM_125 lM_0 rfl rfl rfl rfl (by decide) rfl ?_
    refine gC.mono h (Nat.le_refl _) ?_
    rintro _ T236 ⟨v236, rfl, h⟩
    refine g_istore (L' := [some (.ref (b + 0)), some (.int (zI l1)), some (.int (zI l2)), some (.int (zI l3)), some (.int (zI l4)), some (.int (zI l5)), some (.int (zI v224)), some (.int (zI v236)), none, none, none]) dX7_form_239 rfl ?_
    refine g_aload_n dX7_form_241 rfl ?_
    refine g_getZ (v := vI T236 0 22) dX7_form_242 tF_7_122 lM_0 rfl (zI_v T236 0 22) ?_
    refine g_if_eqZ dX7_form_245 rfl ⟨vI_lo _ _ _, vI_hi _ _ _⟩  (fun c245 => ?_) (fun c245 => ?_)
    · replace h := h.1 c245
      refine g_aload_n dX7_form_252 rfl ?_
      refine g_callV [.ref (b + 0)] [] dX7_form_253 tG_7_181 tM_125 lM_0 rfl rfl rfl rfl (by decide) rfl ?_
      refine gC.mono h (Nat.le_refl _) ?_
      rintro _ T253 ⟨v253, rfl, h⟩
      exact h
    · replace h := h.2 c245
      refine g_iconst (v := zI 0) dX7_form_248 (by decide) ?_
      refine g_goto dX7_form_249 rfl ?_
      exact h
def f_X7_form_478 (sa : Nat → Nat) (b : Nat) (E : Nat × mH) (d : Nat) (l1 : Int) (l2 : Int) (l3 : Int) (l4 : Int) (l5 : Int) (l6 : Int) (l7 : Int) (l8 : Int) (T : gT) (Q : Option Value → gT → Prop) : Prop := (-2147483648 ≤ l8 ∧ l8 < 2147483648) ∧ (-2147483648 ≤ l7 ∧ l7 < 2147483648) ∧ ((l7 ≤ l8 → gW (tP sa) lM b E (d + 1) mX7_form 519 [some (.ref (b + 0)), some (.int (zI l1)), some (.int (zI l2)), some (.int (zI l3)), some (.int (zI l4)), some (.int (zI l5)), some (.int (zI l6)), some (.int (zI l7)), some (.int (zI l8)), none, none] [] T Q) ∧ (¬ l7 ≤ l8 → ((¬ (vI T 0 22) = 0 → gW (tP sa) lM b E (d + 1) mX7_form 519 [some (.ref (b + 0)), some (.int (zI l1)), some (.int (zI l2)), some (.int (zI l3)), some (.int (zI l4)), some (.int (zI l5)), some (.int (zI l6)), some (.int (zI l7)), some (.int (zI l8)), none, none] [] T Q) ∧ ((vI T 0 22) = 0 → gC (tP sa) lM b E d mX7_expression [.ref (b + 0), .int (zI l6)] T (fun r T495 => pI r (fun v495 => (0 ≤ l3 ∧ l3 < 2) ∧ (0 ≤ l6 ∧ l6 < 200) ∧ (0 ≤ 3 + l8 ∧ 3 + l8 < 7) ∧ gW (tP sa) lM b E (d + 1) mX7_form 478 [some (.ref (b + 0)), some (.int (zI l1)), some (.int (zI l2)), some (.int (zI l3)), some (.int (zI l4)), some (.int (zI l5)), some (.int (zI l6)), some (.int (zI l7)), some (.int (zI (l8 + 1))), some (.int (zI v495)), none] [] (cS T495 l3.toNat l6.toNat (3 + l8).toNat v495) Q))))))
set_option maxRecDepth 4000 in
theorem w_X7_form_478 {sa : Nat → Nat} {b : Nat} {E : Nat × mH} {d : Nat} {l1 : Int} {l2 : Int} {l3 : Int} {l4 : Int} {l5 : Int} {l6 : Int} {l7 : Int} {l8 : Int} {T : gT} {Q : Option Value → gT → Prop} (h : f_X7_form_478 sa b E d l1 l2 l3 l4 l5 l6 l7 l8 T Q) : gW (tP sa) lM b E (d + 1) mX7_form 478 [some (.ref (b + 0)), some (.int (zI l1)), some (.int (zI l2)), some (.int (zI l3)), some (.int (zI l4)), some (.int (zI l5)), some (.int (zI l6)), some (.int (zI l7)), some (.int (zI l8)), none, none] [] T Q := by
  unfold f_X7_form_478 at h
  refine g_iload dX7_form_478 rfl ?_
  refine g_iload dX7_form_480 rfl ?_
  obtain ⟨a1, h⟩ := h
  obtain ⟨a2, h⟩ := h
  refine g_icmp_geZ dX7_form_482 rfl a1 a2 (fun c482 => ?_) (fun c482 => ?_)
  · replace h := h.1 c482
    exact h
  · replace h := h.2 c482
    refine g_aload_n dX7_form_485 rfl ?_
    refine g_getZ (v := vI T 0 22) dX7_form_486 tF_7_122 lM_0 rfl (zI_v T 0 22) ?_
    refine g_if_neZ dX7_form_489 rfl ⟨vI_lo _ _ _, vI_hi _ _ _⟩  (fun c489 => ?_) (fun c489 => ?_)
    · replace h := h.1 c489
      exact h
    · replace h := h.2 c489
      refine g_aload_n dX7_form_492 rfl ?_
      refine g_iload dX7_form_493 rfl ?_
      refine g_callV [.ref (b + 0), .int (zI l6)] [] dX7_form_495 tG_7_184 tM_126 lM_0 rfl rfl rfl rfl (by decide) rfl ?_
      refine gC.mono h (Nat.le_refl _) ?_
      rintro _ T495 ⟨v495, rfl, h⟩
      refine g_istore (L' := [some (.ref (b + 0)), some (.int (zI l1)), some (.int (zI l2)), some (.int (zI l3)), some (.int (zI l4)), some (.int (zI l5)), some (.int (zI l6)), some (.int (zI l7)), some (.int (zI l8)), some (.int (zI v495)), none]) dX7_form_498 rfl ?_
      refine g_aload_n dX7_form_500 rfl ?_
      refine g_iload_n dX7_form_501 rfl ?_
      refine g_iload dX7_form_502 rfl ?_
      refine g_iconst (v := zI 3) dX7_form_504 (by decide) ?_
      refine g_iload dX7_form_505 rfl ?_
      refine g_iaddZ dX7_form_507 ?_
      refine g_iload dX7_form_508 rfl ?_
      obtain ⟨a3, h⟩ := h
      obtain ⟨a4, h⟩ := h
      obtain ⟨a5, h⟩ := h
      refine g_callV [.ref (b + 0), .int (zI l3), .int (zI l6), .int (zI (3 + l8)), .int (zI v495)] [] dX7_form_510 tG_7_108 tM_114 lM_0 rfl rfl rfl rfl (by decide) rfl ?_
      refine gC.mono (c_setZ sa b E _ _ a3 a4 a5) (Nat.le_refl _) ?_
      rintro _ _ ⟨rfl, h9⟩
      obtain rfl := h9.symm
      refine g_iinc (x := zI l8) (v := zI (l8 + 1)) (L' := [some (.ref (b + 0)), some (.int (zI l1)), some (.int (zI l2)), some (.int (zI l3)), some (.int (zI l4)), some (.int (zI l5)), some (.int (zI l6)), some (.int (zI l7)), some (.int (zI (l8 + 1))), some (.int (zI v495)), none]) dX7_form_513 rfl (zI_add _ _) rfl ?_
      refine g_goto dX7_form_516 rfl ?_
      exact h
def f_X7_form_437 (sa : Nat → Nat) (b : Nat) (E : Nat × mH) (d : Nat) (l1 : Int) (l2 : Int) (l3 : Int) (l4 : Int) (l5 : Int) (l6 : Int) (l7 : Int) (l8 : Int) (l9 : Int) (s0 : Int) (T : gT) (Q : Option Value → gT → Prop) : Prop := (0 ≤ l3 ∧ l3 < 2) ∧ (0 ≤ l6 ∧ l6 < 200) ∧ gW (tP sa) lM b E (d + 1) mX7_form 519 [some (.ref (b + 0)), some (.int (zI l1)), some (.int (zI l2)), some (.int (zI l3)), some (.int (zI l4)), some (.int (zI l5)), some (.int (zI l6)), some (.int (zI l7)), some (.int (zI l8)), some (.int (zI l9)), some (.int (zI s0))] [] (gI (cS T l3.toNat l6.toNat 4 s0) 0 27 (zI ((vI T 0 27) - 1))) Q
set_option maxRecDepth 4000 in
theorem w_X7_form_437 {sa : Nat → Nat} {b : Nat} {E : Nat × mH} {d : Nat} {l1 : Int} {l2 : Int} {l3 : Int} {l4 : Int} {l5 : Int} {l6 : Int} {l7 : Int} {l8 : Int} {l9 : Int} {s0 : Int} {T : gT} {Q : Option Value → gT → Prop} (h : f_X7_form_437 sa b E d l1 l2 l3 l4 l5 l6 l7 l8 l9 s0 T Q) : gW (tP sa) lM b E (d + 1) mX7_form 437 [some (.ref (b + 0)), some (.int (zI l1)), some (.int (zI l2)), some (.int (zI l3)), some (.int (zI l4)), some (.int (zI l5)), some (.int (zI l6)), some (.int (zI l7)), some (.int (zI l8)), some (.int (zI l9)), none] [.int (zI s0)] T Q := by
  unfold f_X7_form_437 at h
  refine g_istore (L' := [some (.ref (b + 0)), some (.int (zI l1)), some (.int (zI l2)), some (.int (zI l3)), some (.int (zI l4)), some (.int (zI l5)), some (.int (zI l6)), some (.int (zI l7)), some (.int (zI l8)), some (.int (zI l9)), some (.int (zI s0))]) dX7_form_437 rfl ?_
  refine g_aload_n dX7_form_439 rfl ?_
  refine g_iload_n dX7_form_440 rfl ?_
  refine g_iload dX7_form_441 rfl ?_
  refine g_iconst (v := zI 4) dX7_form_443 (by decide) ?_
  refine g_iload dX7_form_444 rfl ?_
  obtain ⟨a1, h⟩ := h
  obtain ⟨a2, h⟩ := h
  refine g_callV [.ref (b + 0), .int (zI l3), .int (zI l6), .int (zI 4), .int (zI s0)] [] dX7_form_446 tG_7_108 tM_114 lM_0 rfl rfl rfl rfl (by decide) rfl ?_
  refine gC.mono (c_setZ sa b E _ _ a1 a2 (by decide)) (Nat.le_refl _) ?_
  rintro _ _ ⟨rfl, h9⟩
  obtain rfl := h9.symm
  refine g_aload_n dX7_form_449 rfl ?_
  refine g_dup dX7_form_450 rfl ?_
  refine g_getZ (v := vI T 0 27) dX7_form_451 tF_7_158 lM_0 rfl (zI_v T 0 27) ?_
  refine g_iconst (v := zI 1) dX7_form_454 (by decide) ?_
  refine g_isubZ dX7_form_455 ?_
  refine g_putI dX7_form_456 tF_7_158 lM_0 rfl rfl ⟨rfl, rfl⟩ rfl ?_
  refine g_goto dX7_form_459 rfl ?_
  exact h
def f_X7_form_256 (sa : Nat → Nat) (b : Nat) (E : Nat × mH) (d : Nat) (l1 : Int) (l2 : Int) (l3 : Int) (l4 : Int) (l5 : Int) (l6 : Int) (l7 : Int) (s0 : Int) (T : gT) (Q : Option Value → gT → Prop) : Prop := (((vI T 0 22) = 0 → (0 ≤ l3 ∧ l3 < 2) ∧ (0 ≤ l6 ∧ l6 < 200) ∧ (0 ≤ l3 ∧ l3 < 2) ∧ (0 ≤ l6 ∧ l6 < 200) ∧ gC (tP sa) lM b E d mX7_expression [.ref (b + 0), .int (zI l6)] (cS (cS T l3.toNat l6.toNat 1 s0) l3.toNat l6.toNat 2 l7) (fun r T290 => pI r (fun v290 => (0 ≤ l3 ∧ l3 < 2) ∧ (0 ≤ l6 ∧ l6 < 200) ∧ gW (tP sa) lM b E (d + 1) mX7_form 519 [some (.ref (b + 0)), some (.int (zI l1)), some (.int (zI l2)), some (.int (zI l3)), some (.int (zI l4)), some (.int (zI l5)), some (.int (zI l6)), some (.int (zI l7)), some (.int (zI s0)), some (.int (zI v290)), none] [] (gI (cS T290 l3.toNat l6.toNat 3 v290) 0 27 (zI ((vI T290 0 27) - 2))) Q))) ∧ (¬ (vI T 0 22) = 0 → Q (some (.int (zI (-1)))) T))
set_option maxRecDepth 4000 in
theorem w_X7_form_256 {sa : Nat → Nat} {b : Nat} {E : Nat × mH} {d : Nat} {l1 : Int} {l2 : Int} {l3 : Int} {l4 : Int} {l5 : Int} {l6 : Int} {l7 : Int} {s0 : Int} {T : gT} {Q : Option Value → gT → Prop} (h : f_X7_form_256 sa b E d l1 l2 l3 l4 l5 l6 l7 s0 T Q) : gW (tP sa) lM b E (d + 1) mX7_form 256 [some (.ref (b + 0)), some (.int (zI l1)), some (.int (zI l2)), some (.int (zI l3)), some (.int (zI l4)), some (.int (zI l5)), some (.int (zI l6)), some (.int (zI l7)), none, none, none] [.int (zI s0)] T Q := by
  unfold f_X7_form_256 at h
  refine g_istore (L' := [some (.ref (b + 0)), some (.int (zI l1)), some (.int (zI l2)), some (.int (zI l3)), some (.int (zI l4)), some (.int (zI l5)), some (.int (zI l6)), some (.int (zI l7)), some (.int (zI s0)), none, none]) dX7_form_256 rfl ?_
  refine g_aload_n dX7_form_258 rfl ?_
  refine g_getZ (v := vI T 0 22) dX7_form_259 tF_7_122 lM_0 rfl (zI_v T 0 22) ?_
  refine g_if_eqZ dX7_form_262 rfl ⟨vI_lo _ _ _, vI_hi _ _ _⟩  (fun c262 => ?_) (fun c262 => ?_)
  · replace h := h.1 c262
    refine g_aload_n dX7_form_267 rfl ?_
    refine g_iload_n dX7_form_268 rfl ?_
    refine g_iload dX7_form_269 rfl ?_
    refine g_iconst (v := zI 1) dX7_form_271 (by decide) ?_
    refine g_iload dX7_form_272 rfl ?_
    obtain ⟨a1, h⟩ := h
    obtain ⟨a2, h⟩ := h
    refine g_callV [.ref (b + 0), .int (zI l3), .int (zI l6), .int (zI 1), .int (zI s0)] [] dX7_form_274 tG_7_108 tM_114 lM_0 rfl rfl rfl rfl (by decide) rfl ?_
    refine gC.mono (c_setZ sa b E _ _ a1 a2 (by decide)) (Nat.le_refl _) ?_
    rintro _ _ ⟨rfl, h9⟩
    obtain rfl := h9.symm
    refine g_aload_n dX7_form_277 rfl ?_
    refine g_iload_n dX7_form_278 rfl ?_
    refine g_iload dX7_form_279 rfl ?_
    refine g_iconst (v := zI 2) dX7_form_281 (by decide) ?_
    refine g_iload dX7_form_282 rfl ?_
    obtain ⟨a3, h⟩ := h
    obtain ⟨a4, h⟩ := h
    refine g_callV [.ref (b + 0), .int (zI l3), .int (zI l6), .int (zI 2), .int (zI l7)] [] dX7_form_284 tG_7_108 tM_114 lM_0 rfl rfl rfl rfl (by decide) rfl ?_
    refine gC.mono (c_setZ sa b E _ _ a3 a4 (by decide)) (Nat.le_refl _) ?_
    rintro _ _ ⟨rfl, h9⟩
    obtain rfl := h9.symm
    refine g_aload_n dX7_form_287 rfl ?_
    refine g_iload dX7_form_288 rfl ?_
    refine g_callV [.ref (b + 0), .int (zI l6)] [] dX7_form_290 tG_7_184 tM_126 lM_0 rfl rfl rfl rfl (by decide) rfl ?_
    refine gC.mono h (Nat.le_refl _) ?_
    rintro _ T290 ⟨v290, rfl, h⟩
    refine g_istore (L' := [some (.ref (b + 0)), some (.int (zI l1)), some (.int (zI l2)), some (.int (zI l3)), some (.int (zI l4)), some (.int (zI l5)), some (.int (zI l6)), some (.int (zI l7)), some (.int (zI s0)), some (.int (zI v290)), none]) dX7_form_293 rfl ?_
    refine g_aload_n dX7_form_295 rfl ?_
    refine g_iload_n dX7_form_296 rfl ?_
    refine g_iload dX7_form_297 rfl ?_
    refine g_iconst (v := zI 3) dX7_form_299 (by decide) ?_
    refine g_iload dX7_form_300 rfl ?_
    obtain ⟨a5, h⟩ := h
    obtain ⟨a6, h⟩ := h
    refine g_callV [.ref (b + 0), .int (zI l3), .int (zI l6), .int (zI 3), .int (zI v290)] [] dX7_form_302 tG_7_108 tM_114 lM_0 rfl rfl rfl rfl (by decide) rfl ?_
    refine gC.mono (c_setZ sa b E _ _ a5 a6 (by decide)) (Nat.le_refl _) ?_
    rintro _ _ ⟨rfl, h9⟩
    obtain rfl := h9.symm
    refine g_aload_n dX7_form_305 rfl ?_
    refine g_dup dX7_form_306 rfl ?_
    refine g_getZ (v := vI T290 0 27) dX7_form_307 tF_7_158 lM_0 rfl (zI_v T290 0 27) ?_
    refine g_iconst (v := zI 2) dX7_form_310 (by decide) ?_
    refine g_isubZ dX7_form_311 ?_
    refine g_putI dX7_form_312 tF_7_158 lM_0 rfl rfl ⟨rfl, rfl⟩ rfl ?_
    refine g_goto dX7_form_315 rfl ?_
    exact h
  · replace h := h.2 c262
    refine g_iconst (v := zI (-1)) dX7_form_265 (by decide) ?_
    exact g_iret dX7_form_266 rfl rfl h
def f_X7_form_519 (sa : Nat → Nat) (b : Nat) (E : Nat × mH) (d : Nat) (l1 : Int) (l2 : Int) (l3 : Int) (l4 : Int) (l5 : Int) (l6 : Int) (l7 : Int) (l8 : Int) (T : gT) (Q : Option Value → gT → Prop) : Prop := gC (tP sa) lM b E d mX7_blanks [.ref (b + 0)] T (fun r T520 => pV r (((¬ (vI T520 0 22) = 0 → Q (some (.int (zI l6))) (gI T520 0 20 (zI ((vI T520 0 20) + 1)))) ∧ ((vI T520 0 22) = 0 → gC (tP sa) lM b E d mX7_peek [.ref (b + 0)] T520 (fun r T531 => pI r (fun v531 => (-2147483648 ≤ v531 ∧ v531 < 2147483648) ∧ ((v531 = 41 → Q (some (.int (zI l6))) (gI T531 0 20 (zI ((vI T531 0 20) + 1)))) ∧ (¬ v531 = 41 → gC (tP sa) lM b E d mX7_fail [.ref (b + 0), .int (zI (vI T531 0 20))] T531 (fun r T544 => pI r (fun v544 => Q (some (.int (zI v544))) T544))))))))))
set_option maxRecDepth 4000 in
theorem w_X7_form_519 {sa : Nat → Nat} {b : Nat} {E : Nat × mH} {d : Nat} {l1 : Int} {l2 : Int} {l3 : Int} {l4 : Int} {l5 : Int} {l6 : Int} {l7 : Int} {l8 : Int} {T : gT} {Q : Option Value → gT → Prop} (h : f_X7_form_519 sa b E d l1 l2 l3 l4 l5 l6 l7 l8 T Q) : gW (tP sa) lM b E (d + 1) mX7_form 519 [some (.ref (b + 0)), some (.int (zI l1)), some (.int (zI l2)), some (.int (zI l3)), some (.int (zI l4)), some (.int (zI l5)), some (.int (zI l6)), some (.int (zI l7)), some (.int (zI l8)), none, none] [] T Q := by
  unfold f_X7_form_519 at h
  refine g_aload_n dX7_form_519 rfl ?_
  refine g_callV [.ref (b + 0)] [] dX7_form_520 tG_7_148 tM_118 lM_0 rfl rfl rfl rfl (by decide) rfl ?_
  refine gC.mono h (Nat.le_refl _) ?_
  rintro _ T520 ⟨rfl, h⟩
  refine g_aload_n dX7_form_523 rfl ?_
  refine g_getZ (v := vI T520 0 22) dX7_form_524 tF_7_122 lM_0 rfl (zI_v T520 0 22) ?_
  refine g_if_neZ dX7_form_527 rfl ⟨vI_lo _ _ _, vI_hi _ _ _⟩  (fun c527 => ?_) (fun c527 => ?_)
  · replace h := h.1 c527
    refine g_aload_n dX7_form_548 rfl ?_
    refine g_dup dX7_form_549 rfl ?_
    refine g_getZ (v := vI T520 0 20) dX7_form_550 tF_7_112 lM_0 rfl (zI_v T520 0 20) ?_
    refine g_iconst (v := zI 1) dX7_form_553 (by decide) ?_
    refine g_iaddZ dX7_form_554 ?_
    refine g_putI dX7_form_555 tF_7_112 lM_0 rfl rfl ⟨rfl, rfl⟩ rfl ?_
    refine g_iload dX7_form_558 rfl ?_
    exact g_iret dX7_form_560 rfl rfl h
  · replace h := h.2 c527
    refine g_aload_n dX7_form_530 rfl ?_
    refine g_callV [.ref (b + 0)] [] dX7_form_531 tG_7_118 tM_116 lM_0 rfl rfl rfl rfl (by decide) rfl ?_
    refine gC.mono h (Nat.le_refl _) ?_
    rintro _ T531 ⟨v531, rfl, h⟩
    refine g_bipush (v := zI 41) dX7_form_534 (by decide) ?_
    obtain ⟨a1, h⟩ := h
    refine g_icmp_eqZ dX7_form_536 rfl a1 (by decide) (fun c536 => ?_) (fun c536 => ?_)
    · replace h := h.1 c536
      refine g_aload_n dX7_form_548 rfl ?_
      refine g_dup dX7_form_549 rfl ?_
      refine g_getZ (v := vI T531 0 20) dX7_form_550 tF_7_112 lM_0 rfl (zI_v T531 0 20) ?_
      refine g_iconst (v := zI 1) dX7_form_553 (by decide) ?_
      refine g_iaddZ dX7_form_554 ?_
      refine g_putI dX7_form_555 tF_7_112 lM_0 rfl rfl ⟨rfl, rfl⟩ rfl ?_
      refine g_iload dX7_form_558 rfl ?_
      exact g_iret dX7_form_560 rfl rfl h
    · replace h := h.2 c536
      refine g_aload_n dX7_form_539 rfl ?_
      refine g_aload_n dX7_form_540 rfl ?_
      refine g_getZ (v := vI T531 0 20) dX7_form_541 tF_7_112 lM_0 rfl (zI_v T531 0 20) ?_
      refine g_callV [.ref (b + 0), .int (zI (vI T531 0 20))] [] dX7_form_544 tG_7_151 tM_119 lM_0 rfl rfl rfl rfl (by decide) rfl ?_
      refine gC.mono h (Nat.le_refl _) ?_
      rintro _ T544 ⟨v544, rfl, h⟩
      exact g_iret dX7_form_547 rfl rfl h
def f_X7_form_478b (sa : Nat → Nat) (b : Nat) (E : Nat × mH) (d : Nat) (l1 : Int) (l2 : Int) (l3 : Int) (l4 : Int) (l5 : Int) (l6 : Int) (l7 : Int) (l8 : Int) (l9 : Int) (T : gT) (Q : Option Value → gT → Prop) : Prop := (-2147483648 ≤ l8 ∧ l8 < 2147483648) ∧ (-2147483648 ≤ l7 ∧ l7 < 2147483648) ∧ ((l7 ≤ l8 → gW (tP sa) lM b E (d + 1) mX7_form 519 [some (.ref (b + 0)), some (.int (zI l1)), some (.int (zI l2)), some (.int (zI l3)), some (.int (zI l4)), some (.int (zI l5)), some (.int (zI l6)), some (.int (zI l7)), some (.int (zI l8)), some (.int (zI l9)), none] [] T Q) ∧ (¬ l7 ≤ l8 → ((¬ (vI T 0 22) = 0 → gW (tP sa) lM b E (d + 1) mX7_form 519 [some (.ref (b + 0)), some (.int (zI l1)), some (.int (zI l2)), some (.int (zI l3)), some (.int (zI l4)), some (.int (zI l5)), some (.int (zI l6)), some (.int (zI l7)), some (.int (zI l8)), some (.int (zI l9)), none] [] T Q) ∧ ((vI T 0 22) = 0 → gC (tP sa) lM b E d mX7_expression [.ref (b + 0), .int (zI l6)] T (fun r T495 => pI r (fun v495 => (0 ≤ l3 ∧ l3 < 2) ∧ (0 ≤ l6 ∧ l6 < 200) ∧ (0 ≤ 3 + l8 ∧ 3 + l8 < 7) ∧ gW (tP sa) lM b E (d + 1) mX7_form 478 [some (.ref (b + 0)), some (.int (zI l1)), some (.int (zI l2)), some (.int (zI l3)), some (.int (zI l4)), some (.int (zI l5)), some (.int (zI l6)), some (.int (zI l7)), some (.int (zI (l8 + 1))), some (.int (zI v495)), none] [] (cS T495 l3.toNat l6.toNat (3 + l8).toNat v495) Q))))))
set_option maxRecDepth 4000 in
theorem w_X7_form_478b {sa : Nat → Nat} {b : Nat} {E : Nat × mH} {d : Nat} {l1 : Int} {l2 : Int} {l3 : Int} {l4 : Int} {l5 : Int} {l6 : Int} {l7 : Int} {l8 : Int} {l9 : Int} {T : gT} {Q : Option Value → gT → Prop} (h : f_X7_form_478b sa b E d l1 l2 l3 l4 l5 l6 l7 l8 l9 T Q) : gW (tP sa) lM b E (d + 1) mX7_form 478 [some (.ref (b + 0)), some (.int (zI l1)), some (.int (zI l2)), some (.int (zI l3)), some (.int (zI l4)), some (.int (zI l5)), some (.int (zI l6)), some (.int (zI l7)), some (.int (zI l8)), some (.int (zI l9)), none] [] T Q := by
  unfold f_X7_form_478b at h
  refine g_iload dX7_form_478 rfl ?_
  refine g_iload dX7_form_480 rfl ?_
  obtain ⟨a1, h⟩ := h
  obtain ⟨a2, h⟩ := h
  refine g_icmp_geZ dX7_form_482 rfl a1 a2 (fun c482 => ?_) (fun c482 => ?_)
  · replace h := h.1 c482
    exact h
  · replace h := h.2 c482
    refine g_aload_n dX7_form_485 rfl ?_
    refine g_getZ (v := vI T 0 22) dX7_form_486 tF_7_122 lM_0 rfl (zI_v T 0 22) ?_
    refine g_if_neZ dX7_form_489 rfl ⟨vI_lo _ _ _, vI_hi _ _ _⟩  (fun c489 => ?_) (fun c489 => ?_)
    · replace h := h.1 c489
      exact h
    · replace h := h.2 c489
      refine g_aload_n dX7_form_492 rfl ?_
      refine g_iload dX7_form_493 rfl ?_
      refine g_callV [.ref (b + 0), .int (zI l6)] [] dX7_form_495 tG_7_184 tM_126 lM_0 rfl rfl rfl rfl (by decide) rfl ?_
      refine gC.mono h (Nat.le_refl _) ?_
      rintro _ T495 ⟨v495, rfl, h⟩
      refine g_istore (L' := [some (.ref (b + 0)), some (.int (zI l1)), some (.int (zI l2)), some (.int (zI l3)), some (.int (zI l4)), some (.int (zI l5)), some (.int (zI l6)), some (.int (zI l7)), some (.int (zI l8)), some (.int (zI v495)), none]) dX7_form_498 rfl ?_
      refine g_aload_n dX7_form_500 rfl ?_
      refine g_iload_n dX7_form_501 rfl ?_
      refine g_iload dX7_form_502 rfl ?_
      refine g_iconst (v := zI 3) dX7_form_504 (by decide) ?_
      refine g_iload dX7_form_505 rfl ?_
      refine g_iaddZ dX7_form_507 ?_
      refine g_iload dX7_form_508 rfl ?_
      obtain ⟨a3, h⟩ := h
      obtain ⟨a4, h⟩ := h
      obtain ⟨a5, h⟩ := h
      refine g_callV [.ref (b + 0), .int (zI l3), .int (zI l6), .int (zI (3 + l8)), .int (zI v495)] [] dX7_form_510 tG_7_108 tM_114 lM_0 rfl rfl rfl rfl (by decide) rfl ?_
      refine gC.mono (c_setZ sa b E _ _ a3 a4 a5) (Nat.le_refl _) ?_
      rintro _ _ ⟨rfl, h9⟩
      obtain rfl := h9.symm
      refine g_iinc (x := zI l8) (v := zI (l8 + 1)) (L' := [some (.ref (b + 0)), some (.int (zI l1)), some (.int (zI l2)), some (.int (zI l3)), some (.int (zI l4)), some (.int (zI l5)), some (.int (zI l6)), some (.int (zI l7)), some (.int (zI (l8 + 1))), some (.int (zI v495)), none]) dX7_form_513 rfl (zI_add _ _) rfl ?_
      refine g_goto dX7_form_516 rfl ?_
      exact h
def f_X7_form_519b (sa : Nat → Nat) (b : Nat) (E : Nat × mH) (d : Nat) (l1 : Int) (l2 : Int) (l3 : Int) (l4 : Int) (l5 : Int) (l6 : Int) (l7 : Int) (l8 : Int) (l9 : Int) (l10 : Int) (T : gT) (Q : Option Value → gT → Prop) : Prop := gC (tP sa) lM b E d mX7_blanks [.ref (b + 0)] T (fun r T520 => pV r (((¬ (vI T520 0 22) = 0 → Q (some (.int (zI l6))) (gI T520 0 20 (zI ((vI T520 0 20) + 1)))) ∧ ((vI T520 0 22) = 0 → gC (tP sa) lM b E d mX7_peek [.ref (b + 0)] T520 (fun r T531 => pI r (fun v531 => (-2147483648 ≤ v531 ∧ v531 < 2147483648) ∧ ((v531 = 41 → Q (some (.int (zI l6))) (gI T531 0 20 (zI ((vI T531 0 20) + 1)))) ∧ (¬ v531 = 41 → gC (tP sa) lM b E d mX7_fail [.ref (b + 0), .int (zI (vI T531 0 20))] T531 (fun r T544 => pI r (fun v544 => Q (some (.int (zI v544))) T544))))))))))
set_option maxRecDepth 4000 in
theorem w_X7_form_519b {sa : Nat → Nat} {b : Nat} {E : Nat × mH} {d : Nat} {l1 : Int} {l2 : Int} {l3 : Int} {l4 : Int} {l5 : Int} {l6 : Int} {l7 : Int} {l8 : Int} {l9 : Int} {l10 : Int} {T : gT} {Q : Option Value → gT → Prop} (h : f_X7_form_519b sa b E d l1 l2 l3 l4 l5 l6 l7 l8 l9 l10 T Q) : gW (tP sa) lM b E (d + 1) mX7_form 519 [some (.ref (b + 0)), some (.int (zI l1)), some (.int (zI l2)), some (.int (zI l3)), some (.int (zI l4)), some (.int (zI l5)), some (.int (zI l6)), some (.int (zI l7)), some (.int (zI l8)), some (.int (zI l9)), some (.int (zI l10))] [] T Q := by
  unfold f_X7_form_519b at h
  refine g_aload_n dX7_form_519 rfl ?_
  refine g_callV [.ref (b + 0)] [] dX7_form_520 tG_7_148 tM_118 lM_0 rfl rfl rfl rfl (by decide) rfl ?_
  refine gC.mono h (Nat.le_refl _) ?_
  rintro _ T520 ⟨rfl, h⟩
  refine g_aload_n dX7_form_523 rfl ?_
  refine g_getZ (v := vI T520 0 22) dX7_form_524 tF_7_122 lM_0 rfl (zI_v T520 0 22) ?_
  refine g_if_neZ dX7_form_527 rfl ⟨vI_lo _ _ _, vI_hi _ _ _⟩  (fun c527 => ?_) (fun c527 => ?_)
  · replace h := h.1 c527
    refine g_aload_n dX7_form_548 rfl ?_
    refine g_dup dX7_form_549 rfl ?_
    refine g_getZ (v := vI T520 0 20) dX7_form_550 tF_7_112 lM_0 rfl (zI_v T520 0 20) ?_
    refine g_iconst (v := zI 1) dX7_form_553 (by decide) ?_
    refine g_iaddZ dX7_form_554 ?_
    refine g_putI dX7_form_555 tF_7_112 lM_0 rfl rfl ⟨rfl, rfl⟩ rfl ?_
    refine g_iload dX7_form_558 rfl ?_
    exact g_iret dX7_form_560 rfl rfl h
  · replace h := h.2 c527
    refine g_aload_n dX7_form_530 rfl ?_
    refine g_callV [.ref (b + 0)] [] dX7_form_531 tG_7_118 tM_116 lM_0 rfl rfl rfl rfl (by decide) rfl ?_
    refine gC.mono h (Nat.le_refl _) ?_
    rintro _ T531 ⟨v531, rfl, h⟩
    refine g_bipush (v := zI 41) dX7_form_534 (by decide) ?_
    obtain ⟨a1, h⟩ := h
    refine g_icmp_eqZ dX7_form_536 rfl a1 (by decide) (fun c536 => ?_) (fun c536 => ?_)
    · replace h := h.1 c536
      refine g_aload_n dX7_form_548 rfl ?_
      refine g_dup dX7_form_549 rfl ?_
      refine g_getZ (v := vI T531 0 20) dX7_form_550 tF_7_112 lM_0 rfl (zI_v T531 0 20) ?_
      refine g_iconst (v := zI 1) dX7_form_553 (by decide) ?_
      refine g_iaddZ dX7_form_554 ?_
      refine g_putI dX7_form_555 tF_7_112 lM_0 rfl rfl ⟨rfl, rfl⟩ rfl ?_
      refine g_iload dX7_form_558 rfl ?_
      exact g_iret dX7_form_560 rfl rfl h
    · replace h := h.2 c536
      refine g_aload_n dX7_form_539 rfl ?_
      refine g_aload_n dX7_form_540 rfl ?_
      refine g_getZ (v := vI T531 0 20) dX7_form_541 tF_7_112 lM_0 rfl (zI_v T531 0 20) ?_
      refine g_callV [.ref (b + 0), .int (zI (vI T531 0 20))] [] dX7_form_544 tG_7_151 tM_119 lM_0 rfl rfl rfl rfl (by decide) rfl ?_
      refine gC.mono h (Nat.le_refl _) ?_
      rintro _ T544 ⟨v544, rfl, h⟩
      exact g_iret dX7_form_547 rfl rfl h
def f_X7_form_519c (sa : Nat → Nat) (b : Nat) (E : Nat × mH) (d : Nat) (l1 : Int) (l2 : Int) (l3 : Int) (l4 : Int) (l5 : Int) (l6 : Int) (l7 : Int) (l8 : Int) (l9 : Int) (T : gT) (Q : Option Value → gT → Prop) : Prop := gC (tP sa) lM b E d mX7_blanks [.ref (b + 0)] T (fun r T520 => pV r (((¬ (vI T520 0 22) = 0 → Q (some (.int (zI l6))) (gI T520 0 20 (zI ((vI T520 0 20) + 1)))) ∧ ((vI T520 0 22) = 0 → gC (tP sa) lM b E d mX7_peek [.ref (b + 0)] T520 (fun r T531 => pI r (fun v531 => (-2147483648 ≤ v531 ∧ v531 < 2147483648) ∧ ((v531 = 41 → Q (some (.int (zI l6))) (gI T531 0 20 (zI ((vI T531 0 20) + 1)))) ∧ (¬ v531 = 41 → gC (tP sa) lM b E d mX7_fail [.ref (b + 0), .int (zI (vI T531 0 20))] T531 (fun r T544 => pI r (fun v544 => Q (some (.int (zI v544))) T544))))))))))
set_option maxRecDepth 4000 in
theorem w_X7_form_519c {sa : Nat → Nat} {b : Nat} {E : Nat × mH} {d : Nat} {l1 : Int} {l2 : Int} {l3 : Int} {l4 : Int} {l5 : Int} {l6 : Int} {l7 : Int} {l8 : Int} {l9 : Int} {T : gT} {Q : Option Value → gT → Prop} (h : f_X7_form_519c sa b E d l1 l2 l3 l4 l5 l6 l7 l8 l9 T Q) : gW (tP sa) lM b E (d + 1) mX7_form 519 [some (.ref (b + 0)), some (.int (zI l1)), some (.int (zI l2)), some (.int (zI l3)), some (.int (zI l4)), some (.int (zI l5)), some (.int (zI l6)), some (.int (zI l7)), some (.int (zI l8)), some (.int (zI l9)), none] [] T Q := by
  unfold f_X7_form_519c at h
  refine g_aload_n dX7_form_519 rfl ?_
  refine g_callV [.ref (b + 0)] [] dX7_form_520 tG_7_148 tM_118 lM_0 rfl rfl rfl rfl (by decide) rfl ?_
  refine gC.mono h (Nat.le_refl _) ?_
  rintro _ T520 ⟨rfl, h⟩
  refine g_aload_n dX7_form_523 rfl ?_
  refine g_getZ (v := vI T520 0 22) dX7_form_524 tF_7_122 lM_0 rfl (zI_v T520 0 22) ?_
  refine g_if_neZ dX7_form_527 rfl ⟨vI_lo _ _ _, vI_hi _ _ _⟩  (fun c527 => ?_) (fun c527 => ?_)
  · replace h := h.1 c527
    refine g_aload_n dX7_form_548 rfl ?_
    refine g_dup dX7_form_549 rfl ?_
    refine g_getZ (v := vI T520 0 20) dX7_form_550 tF_7_112 lM_0 rfl (zI_v T520 0 20) ?_
    refine g_iconst (v := zI 1) dX7_form_553 (by decide) ?_
    refine g_iaddZ dX7_form_554 ?_
    refine g_putI dX7_form_555 tF_7_112 lM_0 rfl rfl ⟨rfl, rfl⟩ rfl ?_
    refine g_iload dX7_form_558 rfl ?_
    exact g_iret dX7_form_560 rfl rfl h
  · replace h := h.2 c527
    refine g_aload_n dX7_form_530 rfl ?_
    refine g_callV [.ref (b + 0)] [] dX7_form_531 tG_7_118 tM_116 lM_0 rfl rfl rfl rfl (by decide) rfl ?_
    refine gC.mono h (Nat.le_refl _) ?_
    rintro _ T531 ⟨v531, rfl, h⟩
    refine g_bipush (v := zI 41) dX7_form_534 (by decide) ?_
    obtain ⟨a1, h⟩ := h
    refine g_icmp_eqZ dX7_form_536 rfl a1 (by decide) (fun c536 => ?_) (fun c536 => ?_)
    · replace h := h.1 c536
      refine g_aload_n dX7_form_548 rfl ?_
      refine g_dup dX7_form_549 rfl ?_
      refine g_getZ (v := vI T531 0 20) dX7_form_550 tF_7_112 lM_0 rfl (zI_v T531 0 20) ?_
      refine g_iconst (v := zI 1) dX7_form_553 (by decide) ?_
      refine g_iaddZ dX7_form_554 ?_
      refine g_putI dX7_form_555 tF_7_112 lM_0 rfl rfl ⟨rfl, rfl⟩ rfl ?_
      refine g_iload dX7_form_558 rfl ?_
      exact g_iret dX7_form_560 rfl rfl h
    · replace h := h.2 c536
      refine g_aload_n dX7_form_539 rfl ?_
      refine g_aload_n dX7_form_540 rfl ?_
      refine g_getZ (v := vI T531 0 20) dX7_form_541 tF_7_112 lM_0 rfl (zI_v T531 0 20) ?_
      refine g_callV [.ref (b + 0), .int (zI (vI T531 0 20))] [] dX7_form_544 tG_7_151 tM_119 lM_0 rfl rfl rfl rfl (by decide) rfl ?_
      refine gC.mono h (Nat.le_refl _) ?_
      rintro _ T544 ⟨v544, rfl, h⟩
      exact g_iret dX7_form_547 rfl rfl h
def f_X7_flow (sa : Nat → Nat) (b : Nat) (E : Nat × mH) (d : Nat) (l1 : Int) (T : gT) (Q : Option Value → gT → Prop) : Prop := gC (tP sa) lM b E d mX7_isLabel [.ref (b + 0), .int (zI l1)] (gI T 0 0 (zI 0)) (fun r T7 => pI r (fun v7 => (-2147483648 ≤ v7 ∧ v7 < 2147483648) ∧ ((v7 = 0 → Q (some (.long 0)) T7) ∧ (¬ v7 = 0 → 0 ≤ l1 ∧ l1 < 200 ∧ Q (some (.long (T7.2.1 9 l1.toNat))) T7))))
set_option maxRecDepth 4000 in
theorem w_X7_flow {sa : Nat → Nat} {b : Nat} {E : Nat × mH} {d : Nat} {l1 : Int} {T : gT} {Q : Option Value → gT → Prop} (h : f_X7_flow sa b E d l1 T Q) : gC (tP sa) lM b E (d + 1) mX7_flow [.ref (b + 0), .int (zI l1)] T Q := by
  unfold f_X7_flow at h
  refine ⟨Nat.le_of_ble_eq_true rfl, ?_⟩
  show gW (tP sa) lM b E (d + 1) mX7_flow 0 [some (.ref (b + 0)), some (.int (zI l1))] [] T Q
  refine g_aload_n dX7_flow_0 rfl ?_
  refine g_iconst (v := zI 0) dX7_flow_1 (by decide) ?_
  refine g_putI dX7_flow_2 tF_7_97 lM_0 rfl rfl ⟨rfl, rfl⟩ rfl ?_
  refine g_aload_n dX7_flow_5 rfl ?_
  refine g_iload_n dX7_flow_6 rfl ?_
  refine g_callV [.ref (b + 0), .int (zI l1)] [] dX7_flow_7 tG_7_262 tM_136 lM_0 rfl rfl rfl rfl (by decide) rfl ?_
  refine gC.mono h (Nat.le_refl _) ?_
  rintro _ T7 ⟨v7, rfl, h⟩
  obtain ⟨a1, h⟩ := h
  refine g_if_eqZ dX7_flow_10 rfl a1  (fun c10 => ?_) (fun c10 => ?_)
  · replace h := h.1 c10
    refine g_lconst (v := 0) dX7_flow_22 (by decide) ?_
    exact g_lret dX7_flow_23 rfl h
  · replace h := h.2 c10
    refine g_aload_n dX7_flow_13 rfl ?_
    refine g_getR dX7_flow_14 tF_7_35 lM_0 rfl ?_
    refine g_iload_n dX7_flow_17 rfl ?_
    obtain ⟨a2, h⟩ := h
    obtain ⟨a3, h⟩ := h
    refine g_laldZ (v := T7.2.1 9 l1.toNat) dX7_flow_18 lM_9 a2 a3 (by decide) rfl ?_
    refine g_goto dX7_flow_19 rfl ?_
    exact g_lret dX7_flow_23 rfl h
def f_X7_function (sa : Nat → Nat) (b : Nat) (E : Nat × mH) (d : Nat) (l1 : Int) (l2 : Int) (T : gT) (Q : Option Value → gT → Prop) : Prop := gC (tP sa) lM b E (d + 1) mX7_isFunction [.ref (b + 0), .int (zI l1)] (gI T 0 0 (zI 0)) (fun r T7 => pI r (fun v7 => (-2147483648 ≤ v7 ∧ v7 < 2147483648) ∧ ((v7 = 0 → Q (some (.int (zI (-2)))) T7) ∧ (¬ v7 = 0 → (-2147483648 ≤ l2 ∧ l2 < 2147483648) ∧ ((l2 < 0 → Q (some (.int (zI (-2)))) T7) ∧ (¬ l2 < 0 → ((l2 ≤ 6 → 0 ≤ l1 ∧ l1 < 50 ∧ gW (tP sa) lM b E (d + 1 + 1) mX7_function 39 [some (.ref (b + 0)), some (.int (zI l1)), some (.int (zI l2)), some (.int (zI (vI T7 6 l1.toNat))), some (.int (zI 0)), some (.int (zI 0))] [] T7 Q) ∧ (¬ l2 ≤ 6 → Q (some (.int (zI (-2)))) T7))))))))
set_option maxRecDepth 4000 in
theorem w_X7_function {sa : Nat → Nat} {b : Nat} {E : Nat × mH} {d : Nat} {l1 : Int} {l2 : Int} {T : gT} {Q : Option Value → gT → Prop} (h : f_X7_function sa b E d l1 l2 T Q) : gC (tP sa) lM b E (d + 1 + 1) mX7_function [.ref (b + 0), .int (zI l1), .int (zI l2)] T Q := by
  unfold f_X7_function at h
  refine ⟨Nat.le_of_ble_eq_true rfl, ?_⟩
  show gW (tP sa) lM b E (d + 1 + 1) mX7_function 0 [some (.ref (b + 0)), some (.int (zI l1)), some (.int (zI l2)), none, none, none] [] T Q
  refine g_aload_n dX7_function_0 rfl ?_
  refine g_iconst (v := zI 0) dX7_function_1 (by decide) ?_
  refine g_putI dX7_function_2 tF_7_97 lM_0 rfl rfl ⟨rfl, rfl⟩ rfl ?_
  refine g_aload_n dX7_function_5 rfl ?_
  refine g_iload_n dX7_function_6 rfl ?_
  refine g_callV [.ref (b + 0), .int (zI l1)] [] dX7_function_7 tG_7_265 tM_137 lM_0 rfl rfl rfl rfl (by decide) rfl ?_
  refine gC.mono h (Nat.le_refl _) ?_
  rintro _ T7 ⟨v7, rfl, h⟩
  obtain ⟨a1, h⟩ := h
  refine g_if_eqZ dX7_function_10 rfl a1  (fun c10 => ?_) (fun c10 => ?_)
  · replace h := h.1 c10
    refine g_bipush (v := zI (-2)) dX7_function_23 (by decide) ?_
    exact g_iret dX7_function_25 rfl rfl h
  · replace h := h.2 c10
    refine g_iload_n dX7_function_13 rfl ?_
    obtain ⟨a2, h⟩ := h
    refine g_if_ltZ dX7_function_14 rfl a2  (fun c14 => ?_) (fun c14 => ?_)
    · replace h := h.1 c14
      refine g_bipush (v := zI (-2)) dX7_function_23 (by decide) ?_
      exact g_iret dX7_function_25 rfl rfl h
    · replace h := h.2 c14
      refine g_iload_n dX7_function_17 rfl ?_
      refine g_bipush (v := zI 6) dX7_function_18 (by decide) ?_
      refine g_icmp_leZ dX7_function_20 rfl a2 (by decide) (fun c20 => ?_) (fun c20 => ?_)
      · replace h := h.1 c20
        refine g_aload_n dX7_function_26 rfl ?_
        refine g_getR dX7_function_27 tF_7_26 lM_0 rfl ?_
        refine g_iload_n dX7_function_30 rfl ?_
        obtain ⟨a3, h⟩ := h
        obtain ⟨a4, h⟩ := h
        refine g_ialdZ (v := vI T7 6 l1.toNat) dX7_function_31 lM_6 a3 a4 (by decide) (zI_v T7 6 l1.toNat) ?_
        refine g_istore_n (L' := [some (.ref (b + 0)), some (.int (zI l1)), some (.int (zI l2)), some (.int (zI (vI T7 6 l1.toNat))), none, none]) dX7_function_32 rfl ?_
        refine g_iconst (v := zI 0) dX7_function_33 (by decide) ?_
        refine g_istore (L' := [some (.ref (b + 0)), some (.int (zI l1)), some (.int (zI l2)), some (.int (zI (vI T7 6 l1.toNat))), some (.int (zI 0)), none]) dX7_function_34 rfl ?_
        refine g_iconst (v := zI 0) dX7_function_36 (by decide) ?_
        refine g_istore (L' := [some (.ref (b + 0)), some (.int (zI l1)), some (.int (zI l2)), some (.int (zI (vI T7 6 l1.toNat))), some (.int (zI 0)), some (.int (zI 0))]) dX7_function_37 rfl ?_
        exact h
      · replace h := h.2 c20
        refine g_bipush (v := zI (-2)) dX7_function_23 (by decide) ?_
        exact g_iret dX7_function_25 rfl rfl h
def f_X7_function_39 (sa : Nat → Nat) (b : Nat) (E : Nat × mH) (d : Nat) (l1 : Int) (l2 : Int) (l3 : Int) (l4 : Int) (l5 : Int) (T : gT) (Q : Option Value → gT → Prop) : Prop := 0 ≤ vI T 0 3 ∧ vI T 0 3 < 2 ∧ (-2147483648 ≤ l5 ∧ l5 < 2147483648) ∧ (((vI T 2 (vI T 0 3).toNat) ≤ l5 → (-2147483648 ≤ l2 ∧ l2 < 2147483648) ∧ ((l2 = 0 → Q (some (.int (zI l3))) T) ∧ (l2 = 1 → (vI T 0 3 = 0 ∨ vI T 0 3 = 1) ∧ (0 ≤ l3 ∧ l3 < 200) ∧ Q (some (.int (zI (cV T (vI T 0 3).toNat l3.toNat 3)))) T) ∧ (l2 = 2 → (vI T 0 3 = 0 ∨ vI T 0 3 = 1) ∧ (0 ≤ l3 ∧ l3 < 200) ∧ Q (some (.int (zI (cV T (vI T 0 3).toNat l3.toNat 1)))) T) ∧ (l2 = 3 → (vI T 0 3 = 0 ∨ vI T 0 3 = 1) ∧ (0 ≤ l3 ∧ l3 < 200) ∧ Q (some (.int (zI (cV T (vI T 0 3).toNat l3.toNat 2)))) T) ∧ (l2 = 4 → gC (tP sa) lM b E (d + 1) mX7_freeOf [.ref (b + 0), .int (zI l1)] T (fun r T165 => pI r (fun v165 => Q (some (.int (zI v165))) T165))) ∧ (l2 = 5 → Q (some (.int (zI l4))) T) ∧ ((¬ l2 = 0 ∧ ¬ l2 = 1 ∧ ¬ l2 = 2 ∧ ¬ l2 = 3 ∧ ¬ l2 = 4 ∧ ¬ l2 = 5) → 0 ≤ l1 ∧ l1 < 50 ∧ Q (some (.int (zI ((((T.2.1 11 l1.toNat) >>> ((zI l1).toInt64 &&& 63)) &&& 1).toInt32.toInt)))) T))) ∧ (¬ (vI T 2 (vI T 0 3).toNat) ≤ l5 → (vI T 0 3 = 0 ∨ vI T 0 3 = 1) ∧ (0 ≤ l5 ∧ l5 < 200) ∧ ((¬ (cV T (vI T 0 3).toNat l5.toNat 0) = 11 → gW (tP sa) lM b E (d + 1 + 1) mX7_function 39 [some (.ref (b + 0)), some (.int (zI l1)), some (.int (zI l2)), some (.int (zI l3)), some (.int (zI (l4 + 0))), some (.int (zI (l5 + 1)))] [] T Q) ∧ ((cV T (vI T 0 3).toNat l5.toNat 0) = 11 → (0 ≤ l5 ∧ l5 < 200) ∧ 0 ≤ cV T (vI T 0 3).toNat l5.toNat 3 ∧ cV T (vI T 0 3).toNat l5.toNat 3 < 200 ∧ ((¬ (((T.2.1 9 (cV T (vI T 0 3).toNat l5.toNat 3).toNat) >>> ((zI l1).toInt64 &&& 63)) &&& 1) = 1 → gW (tP sa) lM b E (d + 1 + 1) mX7_function 39 [some (.ref (b + 0)), some (.int (zI l1)), some (.int (zI l2)), some (.int (zI l3)), some (.int (zI (l4 + 0))), some (.int (zI (l5 + 1)))] [] T Q) ∧ ((((T.2.1 9 (cV T (vI T 0 3).toNat l5.toNat 3).toNat) >>> ((zI l1).toInt64 &&& 63)) &&& 1) = 1 → gW (tP sa) lM b E (d + 1 + 1) mX7_function 39 [some (.ref (b + 0)), some (.int (zI l1)), some (.int (zI l2)), some (.int (zI l3)), some (.int (zI (l4 + 1))), some (.int (zI (l5 + 1)))] [] T Q))))))
set_option maxRecDepth 4000 in
theorem w_X7_function_39 {sa : Nat → Nat} {b : Nat} {E : Nat × mH} {d : Nat} {l1 : Int} {l2 : Int} {l3 : Int} {l4 : Int} {l5 : Int} {T : gT} {Q : Option Value → gT → Prop} (h : f_X7_function_39 sa b E d l1 l2 l3 l4 l5 T Q) : gW (tP sa) lM b E (d + 1 + 1) mX7_function 39 [some (.ref (b + 0)), some (.int (zI l1)), some (.int (zI l2)), some (.int (zI l3)), some (.int (zI l4)), some (.int (zI l5))] [] T Q := by
  unfold f_X7_function_39 at h
  refine g_iload dX7_function_39 rfl ?_
  refine g_aload_n dX7_function_41 rfl ?_
  refine g_getR dX7_function_42 tF_7_13 lM_0 rfl ?_
  refine g_aload_n dX7_function_45 rfl ?_
  refine g_getZ (v := vI T 0 3) dX7_function_46 tF_7_101 lM_0 rfl (zI_v T 0 3) ?_
  obtain ⟨a1, h⟩ := h
  obtain ⟨a2, h⟩ := h
  refine g_ialdZ (v := vI T 2 (vI T 0 3).toNat) dX7_function_49 lM_2 a1 a2 (by decide) (zI_v T 2 (vI T 0 3).toNat) ?_
  obtain ⟨a3, h⟩ := h
  refine g_icmp_geZ dX7_function_50 rfl a3 ⟨vI_lo _ _ _, vI_hi _ _ _⟩ (fun c50 => ?_) (fun c50 => ?_)
  · replace h := h.1 c50
    refine g_iload_n dX7_function_102 rfl ?_
    obtain ⟨a4, h⟩ := h
    by_cases c9 : l2 = 0
    · replace h := h.1 c9
      refine g_tabC (c := 0) (off := 37) dX7_function_103 a4 c9 (by decide) rfl rfl ?_
      refine g_iload_n dX7_function_140 rfl ?_
      exact g_iret dX7_function_141 rfl rfl h
    have n0_103 := c9
    by_cases c9 : l2 = 1
    · replace h := h.2.1 c9
      refine g_tabC (c := 1) (off := 39) dX7_function_103 a4 c9 (by decide) rfl rfl ?_
      refine g_aload_n dX7_function_142 rfl ?_
      refine g_iload_n dX7_function_143 rfl ?_
      refine g_iconst (v := zI 3) dX7_function_144 (by decide) ?_
      obtain ⟨a5, h⟩ := h
      obtain ⟨a6, h⟩ := h
      refine g_callV [.ref (b + 0), .int (zI l3), .int (zI 3)] [] dX7_function_145 tG_7_219 tM_113 lM_0 rfl rfl rfl rfl (by decide) rfl ?_
      refine gC.mono (c_getZ sa b E d _ (n := vI T 0 3) (by first | exact (zI_v _ _ _).symm | rfl) a5 a6 (by decide)) (Nat.le_refl _) ?_
      rintro _ _ ⟨rfl, h9⟩
      obtain rfl := h9.symm
      exact g_iret dX7_function_148 rfl rfl h
    have n1_103 := c9
    by_cases c9 : l2 = 2
    · replace h := h.2.2.1 c9
      refine g_tabC (c := 2) (off := 46) dX7_function_103 a4 c9 (by decide) rfl rfl ?_
      refine g_aload_n dX7_function_149 rfl ?_
      refine g_iload_n dX7_function_150 rfl ?_
      refine g_iconst (v := zI 1) dX7_function_151 (by decide) ?_
      obtain ⟨a7, h⟩ := h
      obtain ⟨a8, h⟩ := h
      refine g_callV [.ref (b + 0), .int (zI l3), .int (zI 1)] [] dX7_function_152 tG_7_219 tM_113 lM_0 rfl rfl rfl rfl (by decide) rfl ?_
      refine gC.mono (c_getZ sa b E d _ (n := vI T 0 3) (by first | exact (zI_v _ _ _).symm | rfl) a7 a8 (by decide)) (Nat.le_refl _) ?_
      rintro _ _ ⟨rfl, h9⟩
      obtain rfl := h9.symm
      exact g_iret dX7_function_155 rfl rfl h
    have n2_103 := c9
    by_cases c9 : l2 = 3
    · replace h := h.2.2.2.1 c9
      refine g_tabC (c := 3) (off := 53) dX7_function_103 a4 c9 (by decide) rfl rfl ?_
      refine g_aload_n dX7_function_156 rfl ?_
      refine g_iload_n dX7_function_157 rfl ?_
      refine g_iconst (v := zI 2) dX7_function_158 (by decide) ?_
      obtain ⟨a9, h⟩ := h
      obtain ⟨a10, h⟩ := h
      refine g_callV [.ref (b + 0), .int (zI l3), .int (zI 2)] [] dX7_function_159 tG_7_219 tM_113 lM_0 rfl rfl rfl rfl (by decide) rfl ?_
      refine gC.mono (c_getZ sa b E d _ (n := vI T 0 3) (by first | exact (zI_v _ _ _).symm | rfl) a9 a10 (by decide)) (Nat.le_refl _) ?_
      rintro _ _ ⟨rfl, h9⟩
      obtain rfl := h9.symm
      exact g_iret dX7_function_162 rfl rfl h
    have n3_103 := c9
    by_cases c9 : l2 = 4
    · replace h := h.2.2.2.2.1 c9
      refine g_tabC (c := 4) (off := 60) dX7_function_103 a4 c9 (by decide) rfl rfl ?_
      refine g_aload_n dX7_function_163 rfl ?_
      refine g_iload_n dX7_function_164 rfl ?_
      refine g_callV [.ref (b + 0), .int (zI l1)] [] dX7_function_165 tG_7_253 tM_142 lM_0 rfl rfl rfl rfl (by decide) rfl ?_
      refine gC.mono h (Nat.le_refl _) ?_
      rintro _ T165 ⟨v165, rfl, h⟩
      exact g_iret dX7_function_168 rfl rfl h
    have n4_103 := c9
    by_cases c9 : l2 = 5
    · replace h := h.2.2.2.2.2.1 c9
      refine g_tabC (c := 5) (off := 66) dX7_function_103 a4 c9 (by decide) rfl rfl ?_
      refine g_iload dX7_function_169 rfl ?_
      exact g_iret dX7_function_171 rfl rfl h
    have n5_103 := c9
    replace h := h.2.2.2.2.2.2 ⟨n0_103, n1_103, n2_103, n3_103, n4_103, n5_103⟩
    have o7 : ¬ (l2 < 0 ∨ 5 < l2) → (#[37, 39, 46, 53, 60, 66] : Array Int)[(l2 - 0).toNat]? = some 69 := by
      intro o9
      exact absurd o9 (by omega)
    refine g_tabD dX7_function_103 a4 o7 rfl ?_
    refine g_aload_n dX7_function_172 rfl ?_
    refine g_getR dX7_function_173 tF_7_42 lM_0 rfl ?_
    refine g_iload_n dX7_function_176 rfl ?_
    obtain ⟨a11, h⟩ := h
    obtain ⟨a12, h⟩ := h
    refine g_laldZ (v := T.2.1 11 l1.toNat) dX7_function_177 lM_11 a11 a12 (by decide) rfl ?_
    refine g_iload_n dX7_function_178 rfl ?_
    refine g_lshr dX7_function_179 ?_
    refine g_lconst (v := 1) dX7_function_180 (by decide) ?_
    refine g_land dX7_function_181 ?_
    refine g_l2iZ dX7_function_182 ?_
    exact g_iret dX7_function_183 rfl rfl h
  · replace h := h.2 c50
    refine g_iload dX7_function_53 rfl ?_
    refine g_aload_n dX7_function_55 rfl ?_
    refine g_iload dX7_function_56 rfl ?_
    refine g_iconst (v := zI 0) dX7_function_58 (by decide) ?_
    obtain ⟨a13, h⟩ := h
    obtain ⟨a14, h⟩ := h
    refine g_callV [.ref (b + 0), .int (zI l5), .int (zI 0)] [.int (zI l4)] dX7_function_59 tG_7_219 tM_113 lM_0 rfl rfl rfl rfl (by decide) rfl ?_
    refine gC.mono (c_getZ sa b E d _ (n := vI T 0 3) (by first | exact (zI_v _ _ _).symm | rfl) a13 a14 (by decide)) (Nat.le_refl _) ?_
    rintro _ _ ⟨rfl, h9⟩
    obtain rfl := h9.symm
    refine g_bipush (v := zI 11) dX7_function_62 (by decide) ?_
    refine g_icmp_neZ dX7_function_64 rfl ⟨vI_lo _ _ _, vI_hi _ _ _⟩ (by decide) (fun c64 => ?_) (fun c64 => ?_)
    · replace h := h.1 c64
      refine g_iconst (v := zI 0) dX7_function_92 (by decide) ?_
      refine g_iaddZ dX7_function_93 ?_
      refine g_istore (L' := [some (.ref (b + 0)), some (.int (zI l1)), some (.int (zI l2)), some (.int (zI l3)), some (.int (zI (l4 + 0))), some (.int (zI l5))]) dX7_function_94 rfl ?_
      refine g_iinc (x := zI l5) (v := zI (l5 + 1)) (L' := [some (.ref (b + 0)), some (.int (zI l1)), some (.int (zI l2)), some (.int (zI l3)), some (.int (zI (l4 + 0))), some (.int (zI (l5 + 1)))]) dX7_function_96 rfl (zI_add _ _) rfl ?_
      refine g_goto dX7_function_99 rfl ?_
      exact h
    · replace h := h.2 c64
      refine g_aload_n dX7_function_67 rfl ?_
      refine g_getR dX7_function_68 tF_7_35 lM_0 rfl ?_
      refine g_aload_n dX7_function_71 rfl ?_
      refine g_iload dX7_function_72 rfl ?_
      refine g_iconst (v := zI 3) dX7_function_74 (by decide) ?_
      obtain ⟨a15, h⟩ := h
      refine g_callV [.ref (b + 0), .int (zI l5), .int (zI 3)] [.ref (b + 9), .int (zI l4)] dX7_function_75 tG_7_219 tM_113 lM_0 rfl rfl rfl rfl (by decide) rfl ?_
      refine gC.mono (c_getZ sa b E d _ (n := vI T 0 3) (by first | exact (zI_v _ _ _).symm | rfl) a13 a15 (by decide)) (Nat.le_refl _) ?_
      rintro _ _ ⟨rfl, h9⟩
      obtain rfl := h9.symm
      obtain ⟨a16, h⟩ := h
      obtain ⟨a17, h⟩ := h
      refine g_laldZ (v := T.2.1 9 (cV T (vI T 0 3).toNat l5.toNat 3).toNat) dX7_function_78 lM_9 a16 a17 (by decide) rfl ?_
      refine g_iload_n dX7_function_79 rfl ?_
      refine g_lshr dX7_function_80 ?_
      refine g_lconst (v := 1) dX7_function_81 (by decide) ?_
      refine g_land dX7_function_82 ?_
      refine g_lconst (v := 1) dX7_function_83 (by decide) ?_
      refine g_lcmp dX7_function_84 ?_
      refine g_if_neL dX7_function_85 rfl (fun c85 => ?_) (fun c85 => ?_)
      · replace h := h.1 c85
        refine g_iconst (v := zI 0) dX7_function_92 (by decide) ?_
        refine g_iaddZ dX7_function_93 ?_
        refine g_istore (L' := [some (.ref (b + 0)), some (.int (zI l1)), some (.int (zI l2)), some (.int (zI l3)), some (.int (zI (l4 + 0))), some (.int (zI l5))]) dX7_function_94 rfl ?_
        refine g_iinc (x := zI l5) (v := zI (l5 + 1)) (L' := [some (.ref (b + 0)), some (.int (zI l1)), some (.int (zI l2)), some (.int (zI l3)), some (.int (zI (l4 + 0))), some (.int (zI (l5 + 1)))]) dX7_function_96 rfl (zI_add _ _) rfl ?_
        refine g_goto dX7_function_99 rfl ?_
        exact h
      · replace h := h.2 c85
        refine g_iconst (v := zI 1) dX7_function_88 (by decide) ?_
        refine g_goto dX7_function_89 rfl ?_
        refine g_iaddZ dX7_function_93 ?_
        refine g_istore (L' := [some (.ref (b + 0)), some (.int (zI l1)), some (.int (zI l2)), some (.int (zI l3)), some (.int (zI (l4 + 1))), some (.int (zI l5))]) dX7_function_94 rfl ?_
        refine g_iinc (x := zI l5) (v := zI (l5 + 1)) (L' := [some (.ref (b + 0)), some (.int (zI l1)), some (.int (zI l2)), some (.int (zI l3)), some (.int (zI (l4 + 1))), some (.int (zI (l5 + 1)))]) dX7_function_96 rfl (zI_add _ _) rfl ?_
        refine g_goto dX7_function_99 rfl ?_
        exact h
def f_X7_goOn (sa : Nat → Nat) (b : Nat) (E : Nat × mH) (d : Nat) (T : gT) (Q : Option Value → gT → Prop) : Prop := 0 ≤ (vI T 0 36) - 1 ∧ (vI T 0 36) - 1 < 2100 ∧ (vI T 0 3 = 0 ∨ vI T 0 3 = 1) ∧ (0 ≤ vI T 16 ((vI T 0 36) - 1).toNat ∧ vI T 16 ((vI T 0 36) - 1).toNat < 200) ∧ ((¬ (cV T (vI T 0 3).toNat (vI T 16 ((vI T 0 36) - 1).toNat).toNat 0) = 4 → ((¬ (cV T (vI T 0 3).toNat (vI T 16 ((vI T 0 36) - 1).toNat).toNat 0) = 5 → ((¬ (vI T 18 ((vI T 0 36) - 1).toNat) = 1 → ((¬ (cV T (vI T 0 3).toNat (vI T 16 ((vI T 0 36) - 1).toNat).toNat 0) = 11 → gC (tP sa) lM b E (d + 1) mX7_reckon [.ref (b + 0), .int (zI (vI T 16 ((vI T 0 36) - 1).toNat)), .int (zI (cV T (vI T 0 3).toNat (vI T 16 ((vI T 0 36) - 1).toNat).toNat 0)), .int (zI ((vI T 0 36) - 1))] T (fun r T212 => pV r (Q none T212))) ∧ ((cV T (vI T 0 3).toNat (vI T 16 ((vI T 0 36) - 1).toNat).toNat 0) = 11 → gC (tP sa) lM b E (d + 1) mX7_call [.ref (b + 0), .int (zI (vI T 16 ((vI T 0 36) - 1).toNat)), .int (zI ((vI T 0 36) - 1))] T (fun r T201 => pV r (Q none T201))))) ∧ ((vI T 18 ((vI T 0 36) - 1).toNat) = 1 → (0 ≤ vI T 16 ((vI T 0 36) - 1).toNat ∧ vI T 16 ((vI T 0 36) - 1).toNat < 200) ∧ gC (tP sa) lM b E (d + 1) mX7_push [.ref (b + 0), .int (zI (cV T (vI T 0 3).toNat (vI T 16 ((vI T 0 36) - 1).toNat).toNat 4)), .int (zI (vI T 17 ((vI T 0 36) - 1).toNat))] (gI (gI (gJ (gI T 19 ((vI T 0 36) - 1).toNat (zI (vI T 0 43))) 20 ((vI T 0 36) - 1).toNat (T.2.1 0 44)) 21 ((vI T 0 36) - 1).toNat (zI (vI T 0 45))) 18 ((vI T 0 36) - 1).toNat (zI 2)) (fun r T185 => pV r (Q none T185))))) ∧ ((cV T (vI T 0 3).toNat (vI T 16 ((vI T 0 36) - 1).toNat).toNat 0) = 5 → (0 ≤ vI T 16 ((vI T 0 36) - 1).toNat ∧ vI T 16 ((vI T 0 36) - 1).toNat < 200) ∧ gC (tP sa) lM b E (d + 1) mX7_chain [.ref (b + 0), .int (zI (cV T (vI T 0 3).toNat (vI T 16 ((vI T 0 36) - 1).toNat).toNat 1)), .int (zI (vI T 17 ((vI T 0 36) - 1).toNat))] T (fun r T100 => pI r (fun v100 => (vI T100 0 3 = 0 ∨ vI T100 0 3 = 1) ∧ (0 ≤ vI T 16 ((vI T 0 36) - 1).toNat ∧ vI T 16 ((vI T 0 36) - 1).toNat < 200) ∧ gC (tP sa) lM b E (d + 1) mX7_push [.ref (b + 0), .int (zI (cV T100 (vI T100 0 3).toNat (vI T 16 ((vI T 0 36) - 1).toNat).toNat 4)), .int (zI v100)] (gI T100 0 36 (zI ((vI T100 0 36) - 1))) (fun r T124 => pV r (Q none T124))))))) ∧ ((cV T (vI T 0 3).toNat (vI T 16 ((vI T 0 36) - 1).toNat).toNat 0) = 4 → ((¬ (vI T 0 43) = 1 → (((T.2.1 0 44) = 0 → (0 ≤ vI T 16 ((vI T 0 36) - 1).toNat ∧ vI T 16 ((vI T 0 36) - 1).toNat < 200) ∧ gC (tP sa) lM b E (d + 1) mX7_push [.ref (b + 0), .int (zI (cV T (vI T 0 3).toNat (vI T 16 ((vI T 0 36) - 1).toNat).toNat 5)), .int (zI (vI T 17 ((vI T 0 36) - 1).toNat))] (gI T 0 36 (zI ((vI T 0 36) - 1))) (fun r T80 => pV r (Q none T80))) ∧ (¬ (T.2.1 0 44) = 0 → (0 ≤ vI T 16 ((vI T 0 36) - 1).toNat ∧ vI T 16 ((vI T 0 36) - 1).toNat < 200) ∧ gC (tP sa) lM b E (d + 1) mX7_push [.ref (b + 0), .int (zI (cV T (vI T 0 3).toNat (vI T 16 ((vI T 0 36) - 1).toNat).toNat 4)), .int (zI (vI T 17 ((vI T 0 36) - 1).toNat))] (gI T 0 36 (zI ((vI T 0 36) - 1))) (fun r T80 => pV r (Q none T80))))) ∧ ((vI T 0 43) = 1 → gC (tP sa) lM b E (d + 1) mX7_stuck [.ref (b + 0), .int (zI (vI T 16 ((vI T 0 36) - 1).toNat))] T (fun r T45 => pV r (Q none T45))))))
set_option maxRecDepth 4000 in
theorem w_X7_goOn {sa : Nat → Nat} {b : Nat} {E : Nat × mH} {d : Nat} {T : gT} {Q : Option Value → gT → Prop} (h : f_X7_goOn sa b E d T Q) : gC (tP sa) lM b E (d + 1 + 1) mX7_goOn [.ref (b + 0)] T Q := by
  unfold f_X7_goOn at h
  refine ⟨Nat.le_of_ble_eq_true rfl, ?_⟩
  show gW (tP sa) lM b E (d + 1 + 1) mX7_goOn 0 [some (.ref (b + 0)), none, none, none, none, none] [] T Q
  refine g_aload_n dX7_goOn_0 rfl ?_
  refine g_getZ (v := vI T 0 36) dX7_goOn_1 tF_7_280 lM_0 rfl (zI_v T 0 36) ?_
  refine g_iconst (v := zI 1) dX7_goOn_4 (by decide) ?_
  refine g_isubZ dX7_goOn_5 ?_
  refine g_istore_n (L' := [some (.ref (b + 0)), some (.int (zI ((vI T 0 36) - 1))), none, none, none, none]) dX7_goOn_6 rfl ?_
  refine g_aload_n dX7_goOn_7 rfl ?_
  refine g_getR dX7_goOn_8 tF_7_58 lM_0 rfl ?_
  refine g_iload_n dX7_goOn_11 rfl ?_
  obtain ⟨a1, h⟩ := h
  obtain ⟨a2, h⟩ := h
  refine g_ialdZ (v := vI T 16 ((vI T 0 36) - 1).toNat) dX7_goOn_12 lM_16 a1 a2 (by decide) (zI_v T 16 ((vI T 0 36) - 1).toNat) ?_
  refine g_istore_n (L' := [some (.ref (b + 0)), some (.int (zI ((vI T 0 36) - 1))), some (.int (zI (vI T 16 ((vI T 0 36) - 1).toNat))), none, none, none]) dX7_goOn_13 rfl ?_
  refine g_aload_n dX7_goOn_14 rfl ?_
  refine g_getR dX7_goOn_15 tF_7_61 lM_0 rfl ?_
  refine g_iload_n dX7_goOn_18 rfl ?_
  refine g_ialdZ (v := vI T 17 ((vI T 0 36) - 1).toNat) dX7_goOn_19 lM_17 a1 a2 (by decide) (zI_v T 17 ((vI T 0 36) - 1).toNat) ?_
  refine g_istore_n (L' := [some (.ref (b + 0)), some (.int (zI ((vI T 0 36) - 1))), some (.int (zI (vI T 16 ((vI T 0 36) - 1).toNat))), some (.int (zI (vI T 17 ((vI T 0 36) - 1).toNat))), none, none]) dX7_goOn_20 rfl ?_
  refine g_aload_n dX7_goOn_21 rfl ?_
  refine g_iload_n dX7_goOn_22 rfl ?_
  refine g_iconst (v := zI 0) dX7_goOn_23 (by decide) ?_
  obtain ⟨a3, h⟩ := h
  obtain ⟨a4, h⟩ := h
  refine g_callV [.ref (b + 0), .int (zI (vI T 16 ((vI T 0 36) - 1).toNat)), .int (zI 0)] [] dX7_goOn_24 tG_7_219 tM_113 lM_0 rfl rfl rfl rfl (by decide) rfl ?_
  refine gC.mono (c_getZ sa b E d _ (n := vI T 0 3) (by first | exact (zI_v _ _ _).symm | rfl) a3 a4 (by decide)) (Nat.le_refl _) ?_
  rintro _ _ ⟨rfl, h9⟩
  obtain rfl := h9.symm
  refine g_istore (L' := [some (.ref (b + 0)), some (.int (zI ((vI T 0 36) - 1))), some (.int (zI (vI T 16 ((vI T 0 36) - 1).toNat))), some (.int (zI (vI T 17 ((vI T 0 36) - 1).toNat))), some (.int (zI (cV T (vI T 0 3).toNat (vI T 16 ((vI T 0 36) - 1).toNat).toNat 0))), none]) dX7_goOn_27 rfl ?_
  refine g_iload dX7_goOn_29 rfl ?_
  refine g_iconst (v := zI 4) dX7_goOn_31 (by decide) ?_
  refine g_icmp_neZ dX7_goOn_32 rfl ⟨vI_lo _ _ _, vI_hi _ _ _⟩ (by decide) (fun c32 => ?_) (fun c32 => ?_)
  · replace h := h.1 c32
    refine g_iload dX7_goOn_86 rfl ?_
    refine g_iconst (v := zI 5) dX7_goOn_88 (by decide) ?_
    refine g_icmp_neZ dX7_goOn_89 rfl ⟨vI_lo _ _ _, vI_hi _ _ _⟩ (by decide) (fun c89 => ?_) (fun c89 => ?_)
    · replace h := h.1 c89
      refine g_aload_n dX7_goOn_130 rfl ?_
      refine g_getR dX7_goOn_131 tF_7_64 lM_0 rfl ?_
      refine g_iload_n dX7_goOn_134 rfl ?_
      refine g_ialdZ (v := vI T 18 ((vI T 0 36) - 1).toNat) dX7_goOn_135 lM_18 a1 a2 (by decide) (zI_v T 18 ((vI T 0 36) - 1).toNat) ?_
      refine g_iconst (v := zI 1) dX7_goOn_136 (by decide) ?_
      refine g_icmp_neZ dX7_goOn_137 rfl ⟨vI_lo _ _ _, vI_hi _ _ _⟩ (by decide) (fun c137 => ?_) (fun c137 => ?_)
      · replace h := h.1 c137
        refine g_iload dX7_goOn_191 rfl ?_
        refine g_bipush (v := zI 11) dX7_goOn_193 (by decide) ?_
        refine g_icmp_neZ dX7_goOn_195 rfl ⟨vI_lo _ _ _, vI_hi _ _ _⟩ (by decide) (fun c195 => ?_) (fun c195 => ?_)
        · replace h := h.1 c195
          refine g_aload_n dX7_goOn_207 rfl ?_
          refine g_iload_n dX7_goOn_208 rfl ?_
          refine g_iload dX7_goOn_209 rfl ?_
          refine g_iload_n dX7_goOn_211 rfl ?_
          refine g_callV [.ref (b + 0), .int (zI (vI T 16 ((vI T 0 36) - 1).toNat)), .int (zI (cV T (vI T 0 3).toNat (vI T 16 ((vI T 0 36) - 1).toNat).toNat 0)), .int (zI ((vI T 0 36) - 1))] [] dX7_goOn_212 tG_7_305 tM_159 lM_0 rfl rfl rfl rfl (by decide) rfl ?_
          refine gC.mono h (Nat.le_refl _) ?_
          rintro _ T212 ⟨rfl, h⟩
          exact g_vret dX7_goOn_215 rfl h
        · replace h := h.2 c195
          refine g_aload_n dX7_goOn_198 rfl ?_
          refine g_iload_n dX7_goOn_199 rfl ?_
          refine g_iload_n dX7_goOn_200 rfl ?_
          refine g_callV [.ref (b + 0), .int (zI (vI T 16 ((vI T 0 36) - 1).toNat)), .int (zI ((vI T 0 36) - 1))] [] dX7_goOn_201 tG_7_302 tM_158 lM_0 rfl rfl rfl rfl (by decide) rfl ?_
          refine gC.mono h (Nat.le_refl _) ?_
          rintro _ T201 ⟨rfl, h⟩
          refine g_goto dX7_goOn_204 rfl ?_
          exact g_vret dX7_goOn_215 rfl h
      · replace h := h.2 c137
        refine g_aload_n dX7_goOn_140 rfl ?_
        refine g_getR dX7_goOn_141 tF_7_67 lM_0 rfl ?_
        refine g_iload_n dX7_goOn_144 rfl ?_
        refine g_aload_n dX7_goOn_145 rfl ?_
        refine g_getZ (v := vI T 0 43) dX7_goOn_146 tF_7_271 lM_0 rfl (zI_v T 0 43) ?_
        refine g_iastZ dX7_goOn_149 lM_19 a1 a2 (by decide) ?_
        refine g_aload_n dX7_goOn_150 rfl ?_
        refine g_getR dX7_goOn_151 tF_7_70 lM_0 rfl ?_
        refine g_iload_n dX7_goOn_154 rfl ?_
        refine g_aload_n dX7_goOn_155 rfl ?_
        refine g_getJv (v := T.2.1 0 44) dX7_goOn_156 tF_7_274 lM_0 rfl rfl ?_
        refine g_lastZ dX7_goOn_159 lM_20 a1 a2 (by decide) ?_
        refine g_aload_n dX7_goOn_160 rfl ?_
        refine g_getR dX7_goOn_161 tF_7_73 lM_0 rfl ?_
        refine g_iload_n dX7_goOn_164 rfl ?_
        refine g_aload_n dX7_goOn_165 rfl ?_
        refine g_getZ (v := vI T 0 45) dX7_goOn_166 tF_7_277 lM_0 rfl (zI_v T 0 45) ?_
        refine g_iastZ dX7_goOn_169 lM_21 a1 a2 (by decide) ?_
        refine g_aload_n dX7_goOn_170 rfl ?_
        refine g_getR dX7_goOn_171 tF_7_64 lM_0 rfl ?_
        refine g_iload_n dX7_goOn_174 rfl ?_
        refine g_iconst (v := zI 2) dX7_goOn_175 (by decide) ?_
        refine g_iastZ dX7_goOn_176 lM_18 a1 a2 (by decide) ?_
        refine g_aload_n dX7_goOn_177 rfl ?_
        refine g_aload_n dX7_goOn_178 rfl ?_
        refine g_iload_n dX7_goOn_179 rfl ?_
        refine g_iconst (v := zI 4) dX7_goOn_180 (by decide) ?_
        obtain ⟨a5, h⟩ := h
        refine g_callV [.ref (b + 0), .int (zI (vI T 16 ((vI T 0 36) - 1).toNat)), .int (zI 4)] [.ref (b + 0)] dX7_goOn_181 tG_7_219 tM_113 lM_0 rfl rfl rfl rfl (by decide) rfl ?_
        refine gC.mono (c_getZ sa b E d _ (n := vI T 0 3) (by first | exact (zI_v _ _ _).symm | rfl) a3 a5 (by decide)) (Nat.le_refl _) ?_
        rintro _ _ ⟨rfl, h9⟩
        obtain rfl := h9.symm
        refine g_iload_n dX7_goOn_184 rfl ?_
        refine g_callV [.ref (b + 0), .int (zI (cV T (vI T 0 3).toNat (vI T 16 ((vI T 0 36) - 1).toNat).toNat 4)), .int (zI (vI T 17 ((vI T 0 36) - 1).toNat))] [] dX7_goOn_185 tG_7_286 tM_153 lM_0 rfl rfl rfl rfl (by decide) rfl ?_
        refine gC.mono h (Nat.le_refl _) ?_
        rintro _ T185 ⟨rfl, h⟩
        refine g_goto dX7_goOn_188 rfl ?_
        exact g_vret dX7_goOn_215 rfl h
    · replace h := h.2 c89
      refine g_aload_n dX7_goOn_92 rfl ?_
      refine g_aload_n dX7_goOn_93 rfl ?_
      refine g_iload_n dX7_goOn_94 rfl ?_
      refine g_iconst (v := zI 1) dX7_goOn_95 (by decide) ?_
      obtain ⟨a6, h⟩ := h
      refine g_callV [.ref (b + 0), .int (zI (vI T 16 ((vI T 0 36) - 1).toNat)), .int (zI 1)] [.ref (b + 0)] dX7_goOn_96 tG_7_219 tM_113 lM_0 rfl rfl rfl rfl (by decide) rfl ?_
      refine gC.mono (c_getZ sa b E d _ (n := vI T 0 3) (by first | exact (zI_v _ _ _).symm | rfl) a3 a6 (by decide)) (Nat.le_refl _) ?_
      rintro _ _ ⟨rfl, h9⟩
      obtain rfl := h9.symm
      refine g_iload_n dX7_goOn_99 rfl ?_
      refine g_callV [.ref (b + 0), .int (zI (cV T (vI T 0 3).toNat (vI T 16 ((vI T 0 36) - 1).toNat).toNat 1)), .int (zI (vI T 17 ((vI T 0 36) - 1).toNat))] [] dX7_goOn_100 tG_7_299 tM_152 lM_0 rfl rfl rfl rfl (by decide) rfl ?_
      refine gC.mono h (Nat.le_refl _) ?_
      rintro _ T100 ⟨v100, rfl, h⟩
      refine g_istore (L' := [some (.ref (b + 0)), some (.int (zI ((vI T 0 36) - 1))), some (.int (zI (vI T 16 ((vI T 0 36) - 1).toNat))), some (.int (zI (vI T 17 ((vI T 0 36) - 1).toNat))), some (.int (zI (cV T (vI T 0 3).toNat (vI T 16 ((vI T 0 36) - 1).toNat).toNat 0))), some (.int (zI v100))]) dX7_goOn_103 rfl ?_
      refine g_aload_n dX7_goOn_105 rfl ?_
      refine g_dup dX7_goOn_106 rfl ?_
      refine g_getZ (v := vI T100 0 36) dX7_goOn_107 tF_7_280 lM_0 rfl (zI_v T100 0 36) ?_
      refine g_iconst (v := zI 1) dX7_goOn_110 (by decide) ?_
      refine g_isubZ dX7_goOn_111 ?_
      refine g_putI dX7_goOn_112 tF_7_280 lM_0 rfl rfl ⟨rfl, rfl⟩ rfl ?_
      refine g_aload_n dX7_goOn_115 rfl ?_
      refine g_aload_n dX7_goOn_116 rfl ?_
      refine g_iload_n dX7_goOn_117 rfl ?_
      refine g_iconst (v := zI 4) dX7_goOn_118 (by decide) ?_
      obtain ⟨a7, h⟩ := h
      obtain ⟨a8, h⟩ := h
      refine g_callV [.ref (b + 0), .int (zI (vI T 16 ((vI T 0 36) - 1).toNat)), .int (zI 4)] [.ref (b + 0)] dX7_goOn_119 tG_7_219 tM_113 lM_0 rfl rfl rfl rfl (by decide) rfl ?_
      refine gC.mono (c_getZ sa b E d _ (n := vI T100 0 3) (by first | exact (zI_v _ _ _).symm | rfl) a7 a8 (by decide)) (Nat.le_refl _) ?_
      rintro _ _ ⟨rfl, h9⟩
      obtain rfl := h9.symm
      refine g_iload dX7_goOn_122 rfl ?_
      refine g_callV [.ref (b + 0), .int (zI (cV T100 (vI T100 0 3).toNat (vI T 16 ((vI T 0 36) - 1).toNat).toNat 4)), .int (zI v100)] [] dX7_goOn_124 tG_7_286 tM_153 lM_0 rfl rfl rfl rfl (by decide) rfl ?_
      refine gC.mono h (Nat.le_refl _) ?_
      rintro _ T124 ⟨rfl, h⟩
      refine g_goto dX7_goOn_127 rfl ?_
      exact g_vret dX7_goOn_215 rfl h
  · replace h := h.2 c32
    refine g_aload_n dX7_goOn_35 rfl ?_
    refine g_getZ (v := vI T 0 43) dX7_goOn_36 tF_7_271 lM_0 rfl (zI_v T 0 43) ?_
    refine g_iconst (v := zI 1) dX7_goOn_39 (by decide) ?_
    refine g_icmp_neZ dX7_goOn_40 rfl ⟨vI_lo _ _ _, vI_hi _ _ _⟩ (by decide) (fun c40 => ?_) (fun c40 => ?_)
    · replace h := h.1 c40
      refine g_aload_n dX7_goOn_49 rfl ?_
      refine g_dup dX7_goOn_50 rfl ?_
      refine g_getZ (v := vI T 0 36) dX7_goOn_51 tF_7_280 lM_0 rfl (zI_v T 0 36) ?_
      refine g_iconst (v := zI 1) dX7_goOn_54 (by decide) ?_
      refine g_isubZ dX7_goOn_55 ?_
      refine g_putI dX7_goOn_56 tF_7_280 lM_0 rfl rfl ⟨rfl, rfl⟩ rfl ?_
      refine g_aload_n dX7_goOn_59 rfl ?_
      refine g_aload_n dX7_goOn_60 rfl ?_
      refine g_iload_n dX7_goOn_61 rfl ?_
      refine g_aload_n dX7_goOn_62 rfl ?_
      refine g_getJv (v := T.2.1 0 44) dX7_goOn_63 tF_7_274 lM_0 rfl rfl ?_
      refine g_lconst (v := 0) dX7_goOn_66 (by decide) ?_
      refine g_lcmp dX7_goOn_67 ?_
      refine g_if_eqL dX7_goOn_68 rfl (fun c68 => ?_) (fun c68 => ?_)
      · replace h := h.1 c68
        refine g_iconst (v := zI 5) dX7_goOn_75 (by decide) ?_
        obtain ⟨a9, h⟩ := h
        refine g_callV [.ref (b + 0), .int (zI (vI T 16 ((vI T 0 36) - 1).toNat)), .int (zI 5)] [.ref (b + 0)] dX7_goOn_76 tG_7_219 tM_113 lM_0 rfl rfl rfl rfl (by decide) rfl ?_
        refine gC.mono (c_getZ sa b E d _ (n := vI T 0 3) (by first | exact (zI_v _ _ _).symm | rfl) a3 a9 (by decide)) (Nat.le_refl _) ?_
        rintro _ _ ⟨rfl, h9⟩
        obtain rfl := h9.symm
        refine g_iload_n dX7_goOn_79 rfl ?_
        refine g_callV [.ref (b + 0), .int (zI (cV T (vI T 0 3).toNat (vI T 16 ((vI T 0 36) - 1).toNat).toNat 5)), .int (zI (vI T 17 ((vI T 0 36) - 1).toNat))] [] dX7_goOn_80 tG_7_286 tM_153 lM_0 rfl rfl rfl rfl (by decide) rfl ?_
        refine gC.mono h (Nat.le_refl _) ?_
        rintro _ T80 ⟨rfl, h⟩
        refine g_goto dX7_goOn_83 rfl ?_
        exact g_vret dX7_goOn_215 rfl h
      · replace h := h.2 c68
        refine g_iconst (v := zI 4) dX7_goOn_71 (by decide) ?_
        refine g_goto dX7_goOn_72 rfl ?_
        obtain ⟨a10, h⟩ := h
        refine g_callV [.ref (b + 0), .int (zI (vI T 16 ((vI T 0 36) - 1).toNat)), .int (zI 4)] [.ref (b + 0)] dX7_goOn_76 tG_7_219 tM_113 lM_0 rfl rfl rfl rfl (by decide) rfl ?_
        refine gC.mono (c_getZ sa b E d _ (n := vI T 0 3) (by first | exact (zI_v _ _ _).symm | rfl) a3 a10 (by decide)) (Nat.le_refl _) ?_
        rintro _ _ ⟨rfl, h9⟩
        obtain rfl := h9.symm
        refine g_iload_n dX7_goOn_79 rfl ?_
        refine g_callV [.ref (b + 0), .int (zI (cV T (vI T 0 3).toNat (vI T 16 ((vI T 0 36) - 1).toNat).toNat 4)), .int (zI (vI T 17 ((vI T 0 36) - 1).toNat))] [] dX7_goOn_80 tG_7_286 tM_153 lM_0 rfl rfl rfl rfl (by decide) rfl ?_
        refine gC.mono h (Nat.le_refl _) ?_
        rintro _ T80 ⟨rfl, h⟩
        refine g_goto dX7_goOn_83 rfl ?_
        exact g_vret dX7_goOn_215 rfl h
    · replace h := h.2 c40
      refine g_aload_n dX7_goOn_43 rfl ?_
      refine g_iload_n dX7_goOn_44 rfl ?_
      refine g_callV [.ref (b + 0), .int (zI (vI T 16 ((vI T 0 36) - 1).toNat))] [] dX7_goOn_45 tG_7_296 tM_157 lM_0 rfl rfl rfl rfl (by decide) rfl ?_
      refine gC.mono h (Nat.le_refl _) ?_
      rintro _ T45 ⟨rfl, h⟩
      exact g_vret dX7_goOn_48 rfl h
def f_X7_copy (sa : Nat → Nat) (b : Nat) (E : Nat × mH) (d : Nat) (l1 : Int) (l2 : Int) (l3 : Int) (T : gT) (Q : Option Value → gT → Prop) : Prop := (((vI T 0 49) = 0 → (-2147483648 ≤ l1 ∧ l1 < 2147483648) ∧ (-2147483648 ≤ l3 ∧ l3 < 2147483648) ∧ ((¬ l1 = l3 → (vI T 0 3 = 0 ∨ vI T 0 3 = 1) ∧ (0 ≤ l1 ∧ l1 < 200) ∧ (((cV T (vI T 0 3).toNat l1.toNat 0) = 2 → gW (tP sa) lM b E (d + 1 + 1) mX7_copy 74 [some (.ref (b + 0)), some (.int (zI l1)), some (.int (zI l2)), some (.int (zI l3)), some (.int (zI (1 - (vI T 0 3)))), some (.int (zI (cV T (vI T 0 3).toNat l1.toNat 0))), none, none, none, none, none] [] T Q) ∧ (¬ (cV T (vI T 0 3).toNat l1.toNat 0) = 2 → ((¬ (cV T (vI T 0 3).toNat l1.toNat 0) = 3 → gW (tP sa) lM b E (d + 1 + 1) mX7_copy 79 [some (.ref (b + 0)), some (.int (zI l1)), some (.int (zI l2)), some (.int (zI l3)), some (.int (zI (1 - (vI T 0 3)))), some (.int (zI (cV T (vI T 0 3).toNat l1.toNat 0))), none, none, none, none, none] [.int (zI 0)] T Q) ∧ ((cV T (vI T 0 3).toNat l1.toNat 0) = 3 → gW (tP sa) lM b E (d + 1 + 1) mX7_copy 74 [some (.ref (b + 0)), some (.int (zI l1)), some (.int (zI l2)), some (.int (zI l3)), some (.int (zI (1 - (vI T 0 3)))), some (.int (zI (cV T (vI T 0 3).toNat l1.toNat 0))), none, none, none, none, none] [] T Q))))) ∧ (l1 = l3 → (vI T 0 3 = 0 ∨ vI T 0 3 = 1) ∧ (0 ≤ l1 ∧ l1 < 200) ∧ ((¬ (cV T (vI T 0 3).toNat l1.toNat 0) = 5 → gC (tP sa) lM b E (d + 1) mX7_place [.ref (b + 0), .int (zI l1), .int (zI l2)] T (fun r T42 => pI r (fun v42 => Q (some (.int (zI v42))) T42))) ∧ ((cV T (vI T 0 3).toNat l1.toNat 0) = 5 → (0 ≤ l1 ∧ l1 < 200) ∧ gC (tP sa) lM b E (d + 1) mX7_copy [.ref (b + 0), .int (zI (cV T (vI T 0 3).toNat l1.toNat 4)), .int (zI l2), .int (zI (-1))] T (fun r T33 => pI r (fun v33 => Q (some (.int (zI v33))) T33))))))) ∧ (¬ (vI T 0 49) = 0 → Q (some (.int (zI (-1)))) T))
set_option maxRecDepth 4000 in
theorem w_X7_copy {sa : Nat → Nat} {b : Nat} {E : Nat × mH} {d : Nat} {l1 : Int} {l2 : Int} {l3 : Int} {T : gT} {Q : Option Value → gT → Prop} (h : f_X7_copy sa b E d l1 l2 l3 T Q) : gC (tP sa) lM b E (d + 1 + 1) mX7_copy [.ref (b + 0), .int (zI l1), .int (zI l2), .int (zI l3)] T Q := by
  unfold f_X7_copy at h
  refine ⟨Nat.le_of_ble_eq_true rfl, ?_⟩
  show gW (tP sa) lM b E (d + 1 + 1) mX7_copy 0 [some (.ref (b + 0)), some (.int (zI l1)), some (.int (zI l2)), some (.int (zI l3)), none, none, none, none, none, none, none] [] T Q
  refine g_aload_n dX7_copy_0 rfl ?_
  refine g_getZ (v := vI T 0 49) dX7_copy_1 tF_7_309 lM_0 rfl (zI_v T 0 49) ?_
  refine g_if_eqZ dX7_copy_4 rfl ⟨vI_lo _ _ _, vI_hi _ _ _⟩  (fun c4 => ?_) (fun c4 => ?_)
  · replace h := h.1 c4
    refine g_iload_n dX7_copy_9 rfl ?_
    refine g_iload_n dX7_copy_10 rfl ?_
    obtain ⟨a1, h⟩ := h
    obtain ⟨a2, h⟩ := h
    refine g_icmp_neZ dX7_copy_11 rfl a1 a2 (fun c11 => ?_) (fun c11 => ?_)
    · replace h := h.1 c11
      refine g_iconst (v := zI 1) dX7_copy_46 (by decide) ?_
      refine g_aload_n dX7_copy_47 rfl ?_
      refine g_getZ (v := vI T 0 3) dX7_copy_48 tF_7_101 lM_0 rfl (zI_v T 0 3) ?_
      refine g_isubZ dX7_copy_51 ?_
      refine g_istore (L' := [some (.ref (b + 0)), some (.int (zI l1)), some (.int (zI l2)), some (.int (zI l3)), some (.int (zI (1 - (vI T 0 3)))), none, none, none, none, none, none]) dX7_copy_52 rfl ?_
      refine g_aload_n dX7_copy_54 rfl ?_
      refine g_iload_n dX7_copy_55 rfl ?_
      refine g_iconst (v := zI 0) dX7_copy_56 (by decide) ?_
      obtain ⟨a3, h⟩ := h
      obtain ⟨a4, h⟩ := h
      refine g_callV [.ref (b + 0), .int (zI l1), .int (zI 0)] [] dX7_copy_57 tG_7_219 tM_113 lM_0 rfl rfl rfl rfl (by decide) rfl ?_
      refine gC.mono (c_getZ sa b E d _ (n := vI T 0 3) (by first | exact (zI_v _ _ _).symm | rfl) a3 a4 (by decide)) (Nat.le_refl _) ?_
      rintro _ _ ⟨rfl, h9⟩
      obtain rfl := h9.symm
      refine g_istore (L' := [some (.ref (b + 0)), some (.int (zI l1)), some (.int (zI l2)), some (.int (zI l3)), some (.int (zI (1 - (vI T 0 3)))), some (.int (zI (cV T (vI T 0 3).toNat l1.toNat 0))), none, none, none, none, none]) dX7_copy_60 rfl ?_
      refine g_iload dX7_copy_62 rfl ?_
      refine g_iconst (v := zI 2) dX7_copy_64 (by decide) ?_
      refine g_icmp_eqZ dX7_copy_65 rfl ⟨vI_lo _ _ _, vI_hi _ _ _⟩ (by decide) (fun c65 => ?_) (fun c65 => ?_)
      · replace h := h.1 c65
        exact h
      · replace h := h.2 c65
        refine g_iload dX7_copy_68 rfl ?_
        refine g_iconst (v := zI 3) dX7_copy_70 (by decide) ?_
        refine g_icmp_neZ dX7_copy_71 rfl ⟨vI_lo _ _ _, vI_hi _ _ _⟩ (by decide) (fun c71 => ?_) (fun c71 => ?_)
        · replace h := h.1 c71
          refine g_iconst (v := zI 0) dX7_copy_78 (by decide) ?_
          exact h
        · replace h := h.2 c71
          exact h
    · replace h := h.2 c11
      refine g_aload_n dX7_copy_14 rfl ?_
      refine g_iload_n dX7_copy_15 rfl ?_
      refine g_iconst (v := zI 0) dX7_copy_16 (by decide) ?_
      obtain ⟨a5, h⟩ := h
      obtain ⟨a6, h⟩ := h
      refine g_callV [.ref (b + 0), .int (zI l1), .int (zI 0)] [] dX7_copy_17 tG_7_219 tM_113 lM_0 rfl rfl rfl rfl (by decide) rfl ?_
      refine gC.mono (c_getZ sa b E d _ (n := vI T 0 3) (by first | exact (zI_v _ _ _).symm | rfl) a5 a6 (by decide)) (Nat.le_refl _) ?_
      rintro _ _ ⟨rfl, h9⟩
      obtain rfl := h9.symm
      refine g_iconst (v := zI 5) dX7_copy_20 (by decide) ?_
      refine g_icmp_neZ dX7_copy_21 rfl ⟨vI_lo _ _ _, vI_hi _ _ _⟩ (by decide) (fun c21 => ?_) (fun c21 => ?_)
      · replace h := h.1 c21
        refine g_aload_n dX7_copy_39 rfl ?_
        refine g_iload_n dX7_copy_40 rfl ?_
        refine g_iload_n dX7_copy_41 rfl ?_
        refine g_callV [.ref (b + 0), .int (zI l1), .int (zI l2)] [] dX7_copy_42 tG_7_315 tM_165 lM_0 rfl rfl rfl rfl (by decide) rfl ?_
        refine gC.mono h (Nat.le_refl _) ?_
        rintro _ T42 ⟨v42, rfl, h⟩
        exact g_iret dX7_copy_45 rfl rfl h
      · replace h := h.2 c21
        refine g_aload_n dX7_copy_24 rfl ?_
        refine g_aload_n dX7_copy_25 rfl ?_
        refine g_iload_n dX7_copy_26 rfl ?_
        refine g_iconst (v := zI 4) dX7_copy_27 (by decide) ?_
        obtain ⟨a7, h⟩ := h
        refine g_callV [.ref (b + 0), .int (zI l1), .int (zI 4)] [.ref (b + 0)] dX7_copy_28 tG_7_219 tM_113 lM_0 rfl rfl rfl rfl (by decide) rfl ?_
        refine gC.mono (c_getZ sa b E d _ (n := vI T 0 3) (by first | exact (zI_v _ _ _).symm | rfl) a5 a7 (by decide)) (Nat.le_refl _) ?_
        rintro _ _ ⟨rfl, h9⟩
        obtain rfl := h9.symm
        refine g_iload_n dX7_copy_31 rfl ?_
        refine g_iconst (v := zI (-1)) dX7_copy_32 (by decide) ?_
        refine g_callV [.ref (b + 0), .int (zI (cV T (vI T 0 3).toNat l1.toNat 4)), .int (zI l2), .int (zI (-1))] [] dX7_copy_33 tG_7_312 tM_162 lM_0 rfl rfl rfl rfl (by decide) rfl ?_
        refine gC.mono h (Nat.le_refl _) ?_
        rintro _ T33 ⟨v33, rfl, h⟩
        refine g_goto dX7_copy_36 rfl ?_
        exact g_iret dX7_copy_45 rfl rfl h
  · replace h := h.2 c4
    refine g_iconst (v := zI (-1)) dX7_copy_7 (by decide) ?_
    exact g_iret dX7_copy_8 rfl rfl h
def f_X7_copy_74 (sa : Nat → Nat) (b : Nat) (E : Nat × mH) (d : Nat) (l1 : Int) (l2 : Int) (l3 : Int) (l4 : Int) (l5 : Int) (T : gT) (Q : Option Value → gT → Prop) : Prop := gW (tP sa) lM b E (d + 1 + 1) mX7_copy 79 [some (.ref (b + 0)), some (.int (zI l1)), some (.int (zI l2)), some (.int (zI l3)), some (.int (zI l4)), some (.int (zI l5)), none, none, none, none, none] [.int (zI 1)] T Q
set_option maxRecDepth 4000 in
theorem w_X7_copy_74 {sa : Nat → Nat} {b : Nat} {E : Nat × mH} {d : Nat} {l1 : Int} {l2 : Int} {l3 : Int} {l4 : Int} {l5 : Int} {T : gT} {Q : Option Value → gT → Prop} (h : f_X7_copy_74 sa b E d l1 l2 l3 l4 l5 T Q) : gW (tP sa) lM b E (d + 1 + 1) mX7_copy 74 [some (.ref (b + 0)), some (.int (zI l1)), some (.int (zI l2)), some (.int (zI l3)), some (.int (zI l4)), some (.int (zI l5)), none, none, none, none, none] [] T Q := by
  unfold f_X7_copy_74 at h
  refine g_iconst (v := zI 1) dX7_copy_74 (by decide) ?_
  refine g_goto dX7_copy_75 rfl ?_
  exact h
def f_X7_copy_79 (sa : Nat → Nat) (b : Nat) (E : Nat × mH) (d : Nat) (l1 : Int) (l2 : Int) (l3 : Int) (l4 : Int) (l5 : Int) (s0 : Int) (T : gT) (Q : Option Value → gT → Prop) : Prop := (-2147483648 ≤ s0 ∧ s0 < 2147483648) ∧ ((s0 = 0 → gW (tP sa) lM b E (d + 1 + 1) mX7_copy 96 [some (.ref (b + 0)), some (.int (zI l1)), some (.int (zI l2)), some (.int (zI l3)), some (.int (zI l4)), some (.int (zI l5)), some (.int (zI s0)), none, none, none, none] [.int (zI 0), .int (zI (vI T 0 48)), .ref (b + 0)] T Q) ∧ (¬ s0 = 0 → gW (tP sa) lM b E (d + 1 + 1) mX7_copy 96 [some (.ref (b + 0)), some (.int (zI l1)), some (.int (zI l2)), some (.int (zI l3)), some (.int (zI l4)), some (.int (zI l5)), some (.int (zI s0)), none, none, none, none] [.int (zI 1), .int (zI (vI T 0 48)), .ref (b + 0)] T Q))
set_option maxRecDepth 4000 in
theorem w_X7_copy_79 {sa : Nat → Nat} {b : Nat} {E : Nat × mH} {d : Nat} {l1 : Int} {l2 : Int} {l3 : Int} {l4 : Int} {l5 : Int} {s0 : Int} {T : gT} {Q : Option Value → gT → Prop} (h : f_X7_copy_79 sa b E d l1 l2 l3 l4 l5 s0 T Q) : gW (tP sa) lM b E (d + 1 + 1) mX7_copy 79 [some (.ref (b + 0)), some (.int (zI l1)), some (.int (zI l2)), some (.int (zI l3)), some (.int (zI l4)), some (.int (zI l5)), none, none, none, none, none] [.int (zI s0)] T Q := by
  unfold f_X7_copy_79 at h
  refine g_istore (L' := [some (.ref (b + 0)), some (.int (zI l1)), some (.int (zI l2)), some (.int (zI l3)), some (.int (zI l4)), some (.int (zI l5)), some (.int (zI s0)), none, none, none, none]) dX7_copy_79 rfl ?_
  refine g_aload_n dX7_copy_81 rfl ?_
  refine g_dup dX7_copy_82 rfl ?_
  refine g_getZ (v := vI T 0 48) dX7_copy_83 tF_7_317 lM_0 rfl (zI_v T 0 48) ?_
  refine g_iload dX7_copy_86 rfl ?_
  obtain ⟨a1, h⟩ := h
  refine g_if_eqZ dX7_copy_88 rfl a1  (fun c88 => ?_) (fun c88 => ?_)
  · replace h := h.1 c88
    refine g_iconst (v := zI 0) dX7_copy_95 (by decide) ?_
    exact h
  · replace h := h.2 c88
    refine g_iconst (v := zI 1) dX7_copy_91 (by decide) ?_
    refine g_goto dX7_copy_92 rfl ?_
    exact h
def f_X7_copy_96 (sa : Nat → Nat) (b : Nat) (E : Nat × mH) (d : Nat) (l1 : Int) (l2 : Int) (l3 : Int) (l4 : Int) (l5 : Int) (l6 : Int) (s0 : Int) (s1 : Int) (T : gT) (Q : Option Value → gT → Prop) : Prop := ((¬ (vI T 0 49) = 0 → gW (tP sa) lM b E (d + 1 + 1) mX7_copy 130 [some (.ref (b + 0)), some (.int (zI l1)), some (.int (zI l2)), some (.int (zI l3)), some (.int (zI l4)), some (.int (zI l5)), some (.int (zI l6)), none, none, none, none] [.ref (b + 0)] (gI T 0 48 (zI (s1 + s0))) Q) ∧ ((vI T 0 49) = 0 → 0 ≤ l4 ∧ l4 < 2 ∧ (((vI T 2 l4.toNat) = 200 → gW (tP sa) lM b E (d + 1 + 1) mX7_copy 130 [some (.ref (b + 0)), some (.int (zI l1)), some (.int (zI l2)), some (.int (zI l3)), some (.int (zI l4)), some (.int (zI l5)), some (.int (zI l6)), none, none, none, none] [.ref (b + 0)] (gI T 0 48 (zI (s1 + s0))) Q) ∧ (¬ (vI T 2 l4.toNat) = 200 → (-2147483648 ≤ s1 + s0 ∧ s1 + s0 < 2147483648) ∧ (((s1 + s0) ≤ 50 → gW (tP sa) lM b E (d + 1 + 1) mX7_copy 135 [some (.ref (b + 0)), some (.int (zI l1)), some (.int (zI l2)), some (.int (zI l3)), some (.int (zI l4)), some (.int (zI l5)), some (.int (zI l6)), none, none, none, none] [.int (zI 0), .ref (b + 0)] (gI T 0 48 (zI (s1 + s0))) Q) ∧ (¬ (s1 + s0) ≤ 50 → gW (tP sa) lM b E (d + 1 + 1) mX7_copy 130 [some (.ref (b + 0)), some (.int (zI l1)), some (.int (zI l2)), some (.int (zI l3)), some (.int (zI l4)), some (.int (zI l5)), some (.int (zI l6)), none, none, none, none] [.ref (b + 0)] (gI T 0 48 (zI (s1 + s0))) Q))))))
set_option maxRecDepth 4000 in
theorem w_X7_copy_96 {sa : Nat → Nat} {b : Nat} {E : Nat × mH} {d : Nat} {l1 : Int} {l2 : Int} {l3 : Int} {l4 : Int} {l5 : Int} {l6 : Int} {s0 : Int} {s1 : Int} {T : gT} {Q : Option Value → gT → Prop} (h : f_X7_copy_96 sa b E d l1 l2 l3 l4 l5 l6 s0 s1 T Q) : gW (tP sa) lM b E (d + 1 + 1) mX7_copy 96 [some (.ref (b + 0)), some (.int (zI l1)), some (.int (zI l2)), some (.int (zI l3)), some (.int (zI l4)), some (.int (zI l5)), some (.int (zI l6)), none, none, none, none] [.int (zI s0), .int (zI s1), .ref (b + 0)] T Q := by
  unfold f_X7_copy_96 at h
  refine g_iaddZ dX7_copy_96 ?_
  refine g_putI dX7_copy_97 tF_7_317 lM_0 rfl rfl ⟨rfl, rfl⟩ rfl ?_
  refine g_aload_n dX7_copy_100 rfl ?_
  refine g_aload_n dX7_copy_101 rfl ?_
  refine g_getZ (v := vI T 0 49) dX7_copy_102 tF_7_309 lM_0 rfl (zI_v T 0 49) ?_
  refine g_if_neZ dX7_copy_105 rfl ⟨vI_lo _ _ _, vI_hi _ _ _⟩  (fun c105 => ?_) (fun c105 => ?_)
  · replace h := h.1 c105
    exact h
  · replace h := h.2 c105
    refine g_aload_n dX7_copy_108 rfl ?_
    refine g_getR dX7_copy_109 tF_7_13 lM_0 rfl ?_
    refine g_iload dX7_copy_112 rfl ?_
    obtain ⟨a1, h⟩ := h
    obtain ⟨a2, h⟩ := h
    refine g_ialdZ (v := vI T 2 l4.toNat) dX7_copy_114 lM_2 a1 a2 (by decide) (zI_v T 2 l4.toNat) ?_
    refine g_sipush (v := zI 200) dX7_copy_115 (by decide) ?_
    refine g_icmp_eqZ dX7_copy_118 rfl ⟨vI_lo _ _ _, vI_hi _ _ _⟩ (by decide) (fun c118 => ?_) (fun c118 => ?_)
    · replace h := h.1 c118
      exact h
    · replace h := h.2 c118
      refine g_aload_n dX7_copy_121 rfl ?_
      refine g_getZ (v := s1 + s0) dX7_copy_122 tF_7_317 lM_0 rfl rfl ?_
      refine g_bipush (v := zI 50) dX7_copy_125 (by decide) ?_
      obtain ⟨a3, h⟩ := h
      refine g_icmp_leZ dX7_copy_127 rfl a3 (by decide) (fun c127 => ?_) (fun c127 => ?_)
      · replace h := h.1 c127
        refine g_iconst (v := zI 0) dX7_copy_134 (by decide) ?_
        exact h
      · replace h := h.2 c127
        exact h
def f_X7_copy_130 (sa : Nat → Nat) (b : Nat) (E : Nat × mH) (d : Nat) (l1 : Int) (l2 : Int) (l3 : Int) (l4 : Int) (l5 : Int) (l6 : Int) (T : gT) (Q : Option Value → gT → Prop) : Prop := gW (tP sa) lM b E (d + 1 + 1) mX7_copy 135 [some (.ref (b + 0)), some (.int (zI l1)), some (.int (zI l2)), some (.int (zI l3)), some (.int (zI l4)), some (.int (zI l5)), some (.int (zI l6)), none, none, none, none] [.int (zI 1), .ref (b + 0)] T Q
set_option maxRecDepth 4000 in
theorem w_X7_copy_130 {sa : Nat → Nat} {b : Nat} {E : Nat × mH} {d : Nat} {l1 : Int} {l2 : Int} {l3 : Int} {l4 : Int} {l5 : Int} {l6 : Int} {T : gT} {Q : Option Value → gT → Prop} (h : f_X7_copy_130 sa b E d l1 l2 l3 l4 l5 l6 T Q) : gW (tP sa) lM b E (d + 1 + 1) mX7_copy 130 [some (.ref (b + 0)), some (.int (zI l1)), some (.int (zI l2)), some (.int (zI l3)), some (.int (zI l4)), some (.int (zI l5)), some (.int (zI l6)), none, none, none, none] [.ref (b + 0)] T Q := by
  unfold f_X7_copy_130 at h
  refine g_iconst (v := zI 1) dX7_copy_130 (by decide) ?_
  refine g_goto dX7_copy_131 rfl ?_
  exact h
def f_X7_copy_135 (sa : Nat → Nat) (b : Nat) (E : Nat × mH) (d : Nat) (l1 : Int) (l2 : Int) (l3 : Int) (l4 : Int) (l5 : Int) (l6 : Int) (s0 : Int) (T : gT) (Q : Option Value → gT → Prop) : Prop := (s0 = 0 ∨ s0 = 1) ∧ (-2147483648 ≤ s0 ∧ s0 < 2147483648) ∧ ((s0 = 0 → (-2147483648 ≤ l5 ∧ l5 < 2147483648) ∧ ((¬ l5 = 0 → ((¬ l5 = 1 → gW (tP sa) lM b E (d + 1 + 1) mX7_copy 187 [some (.ref (b + 0)), some (.int (zI l1)), some (.int (zI l2)), some (.int (zI l3)), some (.int (zI l4)), some (.int (zI l5)), some (.int (zI l6)), none, none, none, none] [.int (zI (-1)), .int (zI l5), .int (zI l4), .ref (b + 0)] (gI T 0 49 (zI s0)) Q) ∧ (l5 = 1 → (vI T 0 3 = 0 ∨ vI T 0 3 = 1) ∧ (0 ≤ l1 ∧ l1 < 200) ∧ gW (tP sa) lM b E (d + 1 + 1) mX7_copy 187 [some (.ref (b + 0)), some (.int (zI l1)), some (.int (zI l2)), some (.int (zI l3)), some (.int (zI l4)), some (.int (zI l5)), some (.int (zI l6)), none, none, none, none] [.int (zI (cV T (vI T 0 3).toNat l1.toNat 1)), .int (zI l5), .int (zI l4), .ref (b + 0)] (gI T 0 49 (zI s0)) Q))) ∧ (l5 = 0 → (vI T 0 3 = 0 ∨ vI T 0 3 = 1) ∧ (0 ≤ l1 ∧ l1 < 200) ∧ 0 ≤ cV T (vI T 0 3).toNat l1.toNat 1 ∧ cV T (vI T 0 3).toNat l1.toNat 1 < 100 ∧ gW (tP sa) lM b E (d + 1 + 1) mX7_copy 187 [some (.ref (b + 0)), some (.int (zI l1)), some (.int (zI l2)), some (.int (zI l3)), some (.int (zI l4)), some (.int (zI l5)), some (.int (zI l6)), none, none, none, none] [.int (zI (vI T 27 (cV T (vI T 0 3).toNat l1.toNat 1).toNat)), .int (zI l5), .int (zI l4), .ref (b + 0)] (gI T 0 49 (zI s0)) Q))) ∧ (¬ s0 = 0 → Q (some (.int (zI (-1)))) (gI T 0 49 (zI s0))))
set_option maxRecDepth 4000 in
theorem w_X7_copy_135 {sa : Nat → Nat} {b : Nat} {E : Nat × mH} {d : Nat} {l1 : Int} {l2 : Int} {l3 : Int} {l4 : Int} {l5 : Int} {l6 : Int} {s0 : Int} {T : gT} {Q : Option Value → gT → Prop} (h : f_X7_copy_135 sa b E d l1 l2 l3 l4 l5 l6 s0 T Q) : gW (tP sa) lM b E (d + 1 + 1) mX7_copy 135 [some (.ref (b + 0)), some (.int (zI l1)), some (.int (zI l2)), some (.int (zI l3)), some (.int (zI l4)), some (.int (zI l5)), some (.int (zI l6)), none, none, none, none] [.int (zI s0), .ref (b + 0)] T Q := by
  unfold f_X7_copy_135 at h
  obtain ⟨a1, h⟩ := h
  refine g_putI dX7_copy_135 tF_7_309 lM_0 rfl rfl (fit_z a1) rfl ?_
  refine g_aload_n dX7_copy_138 rfl ?_
  refine g_getZ (v := s0) dX7_copy_139 tF_7_309 lM_0 rfl rfl ?_
  obtain ⟨a2, h⟩ := h
  refine g_if_eqZ dX7_copy_142 rfl a2  (fun c142 => ?_) (fun c142 => ?_)
  · replace h := h.1 c142
    refine g_aload_n dX7_copy_147 rfl ?_
    refine g_iload dX7_copy_148 rfl ?_
    refine g_iload dX7_copy_150 rfl ?_
    refine g_iload dX7_copy_152 rfl ?_
    obtain ⟨a3, h⟩ := h
    refine g_if_neZ dX7_copy_154 rfl a3  (fun c154 => ?_) (fun c154 => ?_)
    · replace h := h.1 c154
      refine g_iload dX7_copy_171 rfl ?_
      refine g_iconst (v := zI 1) dX7_copy_173 (by decide) ?_
      refine g_icmp_neZ dX7_copy_174 rfl a3 (by decide) (fun c174 => ?_) (fun c174 => ?_)
      · replace h := h.1 c174
        refine g_iconst (v := zI (-1)) dX7_copy_186 (by decide) ?_
        exact h
      · replace h := h.2 c174
        refine g_aload_n dX7_copy_177 rfl ?_
        refine g_iload_n dX7_copy_178 rfl ?_
        refine g_iconst (v := zI 1) dX7_copy_179 (by decide) ?_
        obtain ⟨a4, h⟩ := h
        obtain ⟨a5, h⟩ := h
        refine g_callV [.ref (b + 0), .int (zI l1), .int (zI 1)] [.int (zI l5), .int (zI l4), .ref (b + 0)] dX7_copy_180 tG_7_219 tM_113 lM_0 rfl rfl rfl rfl (by decide) rfl ?_
        refine gC.mono (c_getZ sa b E d _ (n := vI T 0 3) (by first | exact (zI_v _ _ _).symm | rfl) a4 a5 (by decide)) (Nat.le_refl _) ?_
        rintro _ _ ⟨rfl, h9⟩
        obtain rfl := h9.symm
        refine g_goto dX7_copy_183 rfl ?_
        exact h
    · replace h := h.2 c154
      refine g_aload_n dX7_copy_157 rfl ?_
      refine g_getR dX7_copy_158 tF_7_91 lM_0 rfl ?_
      refine g_aload_n dX7_copy_161 rfl ?_
      refine g_iload_n dX7_copy_162 rfl ?_
      refine g_iconst (v := zI 1) dX7_copy_163 (by decide) ?_
      obtain ⟨a6, h⟩ := h
      obtain ⟨a7, h⟩ := h
      refine g_callV [.ref (b + 0), .int (zI l1), .int (zI 1)] [.ref (b + 27), .int (zI l5), .int (zI l4), .ref (b + 0)] dX7_copy_164 tG_7_219 tM_113 lM_0 rfl rfl rfl rfl (by decide) rfl ?_
      refine gC.mono (c_getZ sa b E d _ (n := vI T 0 3) (by first | exact (zI_v _ _ _).symm | rfl) a6 a7 (by decide)) (Nat.le_refl _) ?_
      rintro _ _ ⟨rfl, h9⟩
      obtain rfl := h9.symm
      obtain ⟨a8, h⟩ := h
      obtain ⟨a9, h⟩ := h
      refine g_ialdZ (v := vI T 27 (cV T (vI T 0 3).toNat l1.toNat 1).toNat) dX7_copy_167 lM_27 a8 a9 (by decide) (zI_v T 27 (cV T (vI T 0 3).toNat l1.toNat 1).toNat) ?_
      refine g_goto dX7_copy_168 rfl ?_
      exact h
  · replace h := h.2 c142
    refine g_iconst (v := zI (-1)) dX7_copy_145 (by decide) ?_
    exact g_iret dX7_copy_146 rfl rfl h
def f_X7_copy_187 (sa : Nat → Nat) (b : Nat) (E : Nat × mH) (d : Nat) (l1 : Int) (l2 : Int) (l3 : Int) (l4 : Int) (l5 : Int) (l6 : Int) (s0 : Int) (s1 : Int) (s2 : Int) (T : gT) (Q : Option Value → gT → Prop) : Prop := gC (tP sa) lM b E (d + 1) mX7_begin [.ref (b + 0), .int (zI s2), .int (zI s1), .int (zI s0), .int (zI l2)] T (fun r T188 => pI r (fun v188 => (-2147483648 ≤ l5 ∧ l5 < 2147483648) ∧ ((¬ l5 = 3 → ((l5 = 2 → gC (tP sa) lM b E (d + 1) mX7_binder [.ref (b + 0), .int (zI l1), .int (zI v188), .int (zI l3)] T188 (fun r T279 => pV r (Q (some (.int (zI v188))) T279))) ∧ (¬ l5 = 2 → ((¬ l5 = 5 → gW (tP sa) lM b E (d + 1 + 1) mX7_copy 288 [some (.ref (b + 0)), some (.int (zI l1)), some (.int (zI l2)), some (.int (zI l3)), some (.int (zI l4)), some (.int (zI l5)), some (.int (zI l6)), some (.int (zI v188)), some (.int (zI 3)), none, none] [] T188 Q) ∧ (l5 = 5 → gC (tP sa) lM b E (d + 1) mX7_binder [.ref (b + 0), .int (zI l1), .int (zI v188), .int (zI l3)] T188 (fun r T279 => pV r (Q (some (.int (zI v188))) T279))))))) ∧ (l5 = 3 → (vI T188 0 3 = 0 ∨ vI T188 0 3 = 1) ∧ (0 ≤ l1 ∧ l1 < 200) ∧ 0 ≤ cV T188 (vI T188 0 3).toNat l1.toNat 2 ∧ cV T188 (vI T188 0 3).toNat l1.toNat 2 < 100 ∧ gC (tP sa) lM b E (d + 1) mX7_fresh [.ref (b + 0)] T188 (fun r T217 => pI r (fun v217 => (0 ≤ l4 ∧ l4 < 2) ∧ (0 ≤ v188 ∧ v188 < 200) ∧ gC (tP sa) lM b E (d + 1) mX7_binder [.ref (b + 0), .int (zI l1), .int (zI v188), .int (zI l3)] (gI (cS T217 l4.toNat v188.toNat 2 v217) 27 (cV T188 (vI T188 0 3).toNat l1.toNat 2).toNat (zI v217)) (fun r T247 => pV r (Q (some (.int (zI v188))) (gI T247 27 (cV T188 (vI T188 0 3).toNat l1.toNat 2).toNat (zI (vI T188 27 (cV T188 (vI T188 0 3).toNat l1.toNat 2).toNat)))))))))))
set_option maxRecDepth 4000 in
theorem w_X7_copy_187 {sa : Nat → Nat} {b : Nat} {E : Nat × mH} {d : Nat} {l1 : Int} {l2 : Int} {l3 : Int} {l4 : Int} {l5 : Int} {l6 : Int} {s0 : Int} {s1 : Int} {s2 : Int} {T : gT} {Q : Option Value → gT → Prop} (h : f_X7_copy_187 sa b E d l1 l2 l3 l4 l5 l6 s0 s1 s2 T Q) : gW (tP sa) lM b E (d + 1 + 1) mX7_copy 187 [some (.ref (b + 0)), some (.int (zI l1)), some (.int (zI l2)), some (.int (zI l3)), some (.int (zI l4)), some (.int (zI l5)), some (.int (zI l6)), none, none, none, none] [.int (zI s0), .int (zI s1), .int (zI s2), .ref (b + 0)] T Q := by
  unfold f_X7_copy_187 at h
  refine g_iload_n dX7_copy_187 rfl ?_
  refine g_callV [.ref (b + 0), .int (zI s2), .int (zI s1), .int (zI s0), .int (zI l2)] [] dX7_copy_188 tG_7_161 tM_115 lM_0 rfl rfl rfl rfl (by decide) rfl ?_
  refine gC.mono h (Nat.le_refl _) ?_
  rintro _ T188 ⟨v188, rfl, h⟩
  refine g_istore (L' := [some (.ref (b + 0)), some (.int (zI l1)), some (.int (zI l2)), some (.int (zI l3)), some (.int (zI l4)), some (.int (zI l5)), some (.int (zI l6)), some (.int (zI v188)), none, none, none]) dX7_copy_191 rfl ?_
  refine g_iload dX7_copy_193 rfl ?_
  refine g_iconst (v := zI 3) dX7_copy_195 (by decide) ?_
  obtain ⟨a1, h⟩ := h
  refine g_icmp_neZ dX7_copy_196 rfl a1 (by decide) (fun c196 => ?_) (fun c196 => ?_)
  · replace h := h.1 c196
    refine g_iload dX7_copy_262 rfl ?_
    refine g_iconst (v := zI 2) dX7_copy_264 (by decide) ?_
    refine g_icmp_eqZ dX7_copy_265 rfl a1 (by decide) (fun c265 => ?_) (fun c265 => ?_)
    · replace h := h.1 c265
      refine g_aload_n dX7_copy_274 rfl ?_
      refine g_iload_n dX7_copy_275 rfl ?_
      refine g_iload dX7_copy_276 rfl ?_
      refine g_iload_n dX7_copy_278 rfl ?_
      refine g_callV [.ref (b + 0), .int (zI l1), .int (zI v188), .int (zI l3)] [] dX7_copy_279 tG_7_323 tM_164 lM_0 rfl rfl rfl rfl (by decide) rfl ?_
      refine gC.mono h (Nat.le_refl _) ?_
      rintro _ T279 ⟨rfl, h⟩
      refine g_goto dX7_copy_282 rfl ?_
      refine g_iload dX7_copy_340 rfl ?_
      exact g_iret dX7_copy_342 rfl rfl h
    · replace h := h.2 c265
      refine g_iload dX7_copy_268 rfl ?_
      refine g_iconst (v := zI 5) dX7_copy_270 (by decide) ?_
      refine g_icmp_neZ dX7_copy_271 rfl a1 (by decide) (fun c271 => ?_) (fun c271 => ?_)
      · replace h := h.1 c271
        refine g_iconst (v := zI 3) dX7_copy_285 (by decide) ?_
        refine g_istore (L' := [some (.ref (b + 0)), some (.int (zI l1)), some (.int (zI l2)), some (.int (zI l3)), some (.int (zI l4)), some (.int (zI l5)), some (.int (zI l6)), some (.int (zI v188)), some (.int (zI 3)), none, none]) dX7_copy_286 rfl ?_
        exact h
      · replace h := h.2 c271
        refine g_aload_n dX7_copy_274 rfl ?_
        refine g_iload_n dX7_copy_275 rfl ?_
        refine g_iload dX7_copy_276 rfl ?_
        refine g_iload_n dX7_copy_278 rfl ?_
        refine g_callV [.ref (b + 0), .int (zI l1), .int (zI v188), .int (zI l3)] [] dX7_copy_279 tG_7_323 tM_164 lM_0 rfl rfl rfl rfl (by decide) rfl ?_
        refine gC.mono h (Nat.le_refl _) ?_
        rintro _ T279 ⟨rfl, h⟩
        refine g_goto dX7_copy_282 rfl ?_
        refine g_iload dX7_copy_340 rfl ?_
        exact g_iret dX7_copy_342 rfl rfl h
  · replace h := h.2 c196
    refine g_aload_n dX7_copy_199 rfl ?_
    refine g_iload_n dX7_copy_200 rfl ?_
    refine g_iconst (v := zI 2) dX7_copy_201 (by decide) ?_
    obtain ⟨a2, h⟩ := h
    obtain ⟨a3, h⟩ := h
    refine g_callV [.ref (b + 0), .int (zI l1), .int (zI 2)] [] dX7_copy_202 tG_7_219 tM_113 lM_0 rfl rfl rfl rfl (by decide) rfl ?_
    refine gC.mono (c_getZ sa b E d _ (n := vI T188 0 3) (by first | exact (zI_v _ _ _).symm | rfl) a2 a3 (by decide)) (Nat.le_refl _) ?_
    rintro _ _ ⟨rfl, h9⟩
    obtain rfl := h9.symm
    refine g_istore (L' := [some (.ref (b + 0)), some (.int (zI l1)), some (.int (zI l2)), some (.int (zI l3)), some (.int (zI l4)), some (.int (zI l5)), some (.int (zI l6)), some (.int (zI v188)), some (.int (zI (cV T188 (vI T188 0 3).toNat l1.toNat 2))), none, none]) dX7_copy_205 rfl ?_
    refine g_aload_n dX7_copy_207 rfl ?_
    refine g_getR dX7_copy_208 tF_7_91 lM_0 rfl ?_
    refine g_iload dX7_copy_211 rfl ?_
    obtain ⟨a4, h⟩ := h
    obtain ⟨a5, h⟩ := h
    refine g_ialdZ (v := vI T188 27 (cV T188 (vI T188 0 3).toNat l1.toNat 2).toNat) dX7_copy_213 lM_27 a4 a5 (by decide) (zI_v T188 27 (cV T188 (vI T188 0 3).toNat l1.toNat 2).toNat) ?_
    refine g_istore (L' := [some (.ref (b + 0)), some (.int (zI l1)), some (.int (zI l2)), some (.int (zI l3)), some (.int (zI l4)), some (.int (zI l5)), some (.int (zI l6)), some (.int (zI v188)), some (.int (zI (cV T188 (vI T188 0 3).toNat l1.toNat 2))), some (.int (zI (vI T188 27 (cV T188 (vI T188 0 3).toNat l1.toNat 2).toNat))), none]) dX7_copy_214 rfl ?_
    refine g_aload_n dX7_copy_216 rfl ?_
    refine g_callV [.ref (b + 0)] [] dX7_copy_217 tG_7_320 tM_163 lM_0 rfl rfl rfl rfl (by decide) rfl ?_
    refine gC.mono h (Nat.le_refl _) ?_
    rintro _ T217 ⟨v217, rfl, h⟩
    refine g_istore (L' := [some (.ref (b + 0)), some (.int (zI l1)), some (.int (zI l2)), some (.int (zI l3)), some (.int (zI l4)), some (.int (zI l5)), some (.int (zI l6)), some (.int (zI v188)), some (.int (zI (cV T188 (vI T188 0 3).toNat l1.toNat 2))), some (.int (zI (vI T188 27 (cV T188 (vI T188 0 3).toNat l1.toNat 2).toNat))), some (.int (zI v217))]) dX7_copy_220 rfl ?_
    refine g_aload_n dX7_copy_222 rfl ?_
    refine g_iload dX7_copy_223 rfl ?_
    refine g_iload dX7_copy_225 rfl ?_
    refine g_iconst (v := zI 2) dX7_copy_227 (by decide) ?_
    refine g_iload dX7_copy_228 rfl ?_
    obtain ⟨a6, h⟩ := h
    obtain ⟨a7, h⟩ := h
    refine g_callV [.ref (b + 0), .int (zI l4), .int (zI v188), .int (zI 2), .int (zI v217)] [] dX7_copy_230 tG_7_108 tM_114 lM_0 rfl rfl rfl rfl (by decide) rfl ?_
    refine gC.mono (c_setZ sa b E _ _ a6 a7 (by decide)) (Nat.le_refl _) ?_
    rintro _ _ ⟨rfl, h9⟩
    obtain rfl := h9.symm
    refine g_aload_n dX7_copy_233 rfl ?_
    refine g_getR dX7_copy_234 tF_7_91 lM_0 rfl ?_
    refine g_iload dX7_copy_237 rfl ?_
    refine g_iload dX7_copy_239 rfl ?_
    refine g_iastZ dX7_copy_241 lM_27 a4 a5 (by decide) ?_
    refine g_aload_n dX7_copy_242 rfl ?_
    refine g_iload_n dX7_copy_243 rfl ?_
    refine g_iload dX7_copy_244 rfl ?_
    refine g_iload_n dX7_copy_246 rfl ?_
    refine g_callV [.ref (b + 0), .int (zI l1), .int (zI v188), .int (zI l3)] [] dX7_copy_247 tG_7_323 tM_164 lM_0 rfl rfl rfl rfl (by decide) rfl ?_
    refine gC.mono h (Nat.le_refl _) ?_
    rintro _ T247 ⟨rfl, h⟩
    refine g_aload_n dX7_copy_250 rfl ?_
    refine g_getR dX7_copy_251 tF_7_91 lM_0 rfl ?_
    refine g_iload dX7_copy_254 rfl ?_
    refine g_iload dX7_copy_256 rfl ?_
    refine g_iastZ dX7_copy_258 lM_27 a4 a5 (by decide) ?_
    refine g_goto dX7_copy_259 rfl ?_
    refine g_iload dX7_copy_340 rfl ?_
    exact g_iret dX7_copy_342 rfl rfl h
def f_X7_copy_288 (sa : Nat → Nat) (b : Nat) (E : Nat × mH) (d : Nat) (l1 : Int) (l2 : Int) (l3 : Int) (l4 : Int) (l5 : Int) (l6 : Int) (l7 : Int) (l8 : Int) (T : gT) (Q : Option Value → gT → Prop) : Prop := (-2147483648 ≤ l8 ∧ l8 < 2147483648) ∧ ((6 ≤ l8 → Q (some (.int (zI l7))) T) ∧ (¬ 6 ≤ l8 → (vI T 0 3 = 0 ∨ vI T 0 3 = 1) ∧ (0 ≤ l1 ∧ l1 < 200) ∧ (0 ≤ l8 ∧ l8 < 7) ∧ (((cV T (vI T 0 3).toNat l1.toNat l8.toNat) = (-1) → gW (tP sa) lM b E (d + 1 + 1) mX7_copy 288 [some (.ref (b + 0)), some (.int (zI l1)), some (.int (zI l2)), some (.int (zI l3)), some (.int (zI l4)), some (.int (zI l5)), some (.int (zI l6)), some (.int (zI l7)), some (.int (zI (l8 + 1))), none, none] [] T Q) ∧ (¬ (cV T (vI T 0 3).toNat l1.toNat l8.toNat) = (-1) → (0 ≤ l1 ∧ l1 < 200) ∧ (0 ≤ l8 ∧ l8 < 7) ∧ gC (tP sa) lM b E (d + 1) mX7_copy [.ref (b + 0), .int (zI (cV T (vI T 0 3).toNat l1.toNat l8.toNat)), .int (zI l7), .int (zI l3)] T (fun r T317 => pI r (fun v317 => (0 ≤ l4 ∧ l4 < 2) ∧ (0 ≤ l7 ∧ l7 < 200) ∧ (0 ≤ l8 ∧ l8 < 7) ∧ gW (tP sa) lM b E (d + 1 + 1) mX7_copy 288 [some (.ref (b + 0)), some (.int (zI l1)), some (.int (zI l2)), some (.int (zI l3)), some (.int (zI l4)), some (.int (zI l5)), some (.int (zI l6)), some (.int (zI l7)), some (.int (zI (l8 + 1))), some (.int (zI v317)), none] [] (cS T317 l4.toNat l7.toNat l8.toNat v317) Q))))))
set_option maxRecDepth 4000 in
theorem w_X7_copy_288 {sa : Nat → Nat} {b : Nat} {E : Nat × mH} {d : Nat} {l1 : Int} {l2 : Int} {l3 : Int} {l4 : Int} {l5 : Int} {l6 : Int} {l7 : Int} {l8 : Int} {T : gT} {Q : Option Value → gT → Prop} (h : f_X7_copy_288 sa b E d l1 l2 l3 l4 l5 l6 l7 l8 T Q) : gW (tP sa) lM b E (d + 1 + 1) mX7_copy 288 [some (.ref (b + 0)), some (.int (zI l1)), some (.int (zI l2)), some (.int (zI l3)), some (.int (zI l4)), some (.int (zI l5)), some (.int (zI l6)), some (.int (zI l7)), some (.int (zI l8)), none, none] [] T Q := by
  unfold f_X7_copy_288 at h
  refine g_iload dX7_copy_288 rfl ?_
  refine g_bipush (v := zI 6) dX7_copy_290 (by decide) ?_
  obtain ⟨a1, h⟩ := h
  refine g_icmp_geZ dX7_copy_292 rfl a1 (by decide) (fun c292 => ?_) (fun c292 => ?_)
  · replace h := h.1 c292
    refine g_iload dX7_copy_340 rfl ?_
    exact g_iret dX7_copy_342 rfl rfl h
  · replace h := h.2 c292
    refine g_aload_n dX7_copy_295 rfl ?_
    refine g_iload_n dX7_copy_296 rfl ?_
    refine g_iload dX7_copy_297 rfl ?_
    obtain ⟨a2, h⟩ := h
    obtain ⟨a3, h⟩ := h
    obtain ⟨a4, h⟩ := h
    refine g_callV [.ref (b + 0), .int (zI l1), .int (zI l8)] [] dX7_copy_299 tG_7_219 tM_113 lM_0 rfl rfl rfl rfl (by decide) rfl ?_
    refine gC.mono (c_getZ sa b E d _ (n := vI T 0 3) (by first | exact (zI_v _ _ _).symm | rfl) a2 a3 a4) (Nat.le_refl _) ?_
    rintro _ _ ⟨rfl, h9⟩
    obtain rfl := h9.symm
    refine g_iconst (v := zI (-1)) dX7_copy_302 (by decide) ?_
    refine g_icmp_eqZ dX7_copy_303 rfl ⟨vI_lo _ _ _, vI_hi _ _ _⟩ (by decide) (fun c303 => ?_) (fun c303 => ?_)
    · replace h := h.1 c303
      refine g_iinc (x := zI l8) (v := zI (l8 + 1)) (L' := [some (.ref (b + 0)), some (.int (zI l1)), some (.int (zI l2)), some (.int (zI l3)), some (.int (zI l4)), some (.int (zI l5)), some (.int (zI l6)), some (.int (zI l7)), some (.int (zI (l8 + 1))), none, none]) dX7_copy_334 rfl (zI_add _ _) rfl ?_
      refine g_goto dX7_copy_337 rfl ?_
      exact h
    · replace h := h.2 c303
      refine g_aload_n dX7_copy_306 rfl ?_
      refine g_aload_n dX7_copy_307 rfl ?_
      refine g_iload_n dX7_copy_308 rfl ?_
      refine g_iload dX7_copy_309 rfl ?_
      obtain ⟨a5, h⟩ := h
      obtain ⟨a6, h⟩ := h
      refine g_callV [.ref (b + 0), .int (zI l1), .int (zI l8)] [.ref (b + 0)] dX7_copy_311 tG_7_219 tM_113 lM_0 rfl rfl rfl rfl (by decide) rfl ?_
      refine gC.mono (c_getZ sa b E d _ (n := vI T 0 3) (by first | exact (zI_v _ _ _).symm | rfl) a2 a5 a6) (Nat.le_refl _) ?_
      rintro _ _ ⟨rfl, h9⟩
      obtain rfl := h9.symm
      refine g_iload dX7_copy_314 rfl ?_
      refine g_iload_n dX7_copy_316 rfl ?_
      refine g_callV [.ref (b + 0), .int (zI (cV T (vI T 0 3).toNat l1.toNat l8.toNat)), .int (zI l7), .int (zI l3)] [] dX7_copy_317 tG_7_312 tM_162 lM_0 rfl rfl rfl rfl (by decide) rfl ?_
      refine gC.mono h (Nat.le_refl _) ?_
      rintro _ T317 ⟨v317, rfl, h⟩
      refine g_istore (L' := [some (.ref (b + 0)), some (.int (zI l1)), some (.int (zI l2)), some (.int (zI l3)), some (.int (zI l4)), some (.int (zI l5)), some (.int (zI l6)), some (.int (zI l7)), some (.int (zI l8)), some (.int (zI v317)), none]) dX7_copy_320 rfl ?_
      refine g_aload_n dX7_copy_322 rfl ?_
      refine g_iload dX7_copy_323 rfl ?_
      refine g_iload dX7_copy_325 rfl ?_
      refine g_iload dX7_copy_327 rfl ?_
      refine g_iload dX7_copy_329 rfl ?_
      obtain ⟨a7, h⟩ := h
      obtain ⟨a8, h⟩ := h
      obtain ⟨a9, h⟩ := h
      refine g_callV [.ref (b + 0), .int (zI l4), .int (zI l7), .int (zI l8), .int (zI v317)] [] dX7_copy_331 tG_7_108 tM_114 lM_0 rfl rfl rfl rfl (by decide) rfl ?_
      refine gC.mono (c_setZ sa b E _ _ a7 a8 a9) (Nat.le_refl _) ?_
      rintro _ _ ⟨rfl, h9⟩
      obtain rfl := h9.symm
      refine g_iinc (x := zI l8) (v := zI (l8 + 1)) (L' := [some (.ref (b + 0)), some (.int (zI l1)), some (.int (zI l2)), some (.int (zI l3)), some (.int (zI l4)), some (.int (zI l5)), some (.int (zI l6)), some (.int (zI l7)), some (.int (zI (l8 + 1))), some (.int (zI v317)), none]) dX7_copy_334 rfl (zI_add _ _) rfl ?_
      refine g_goto dX7_copy_337 rfl ?_
      exact h
def f_X7_copy_288b (sa : Nat → Nat) (b : Nat) (E : Nat × mH) (d : Nat) (l1 : Int) (l2 : Int) (l3 : Int) (l4 : Int) (l5 : Int) (l6 : Int) (l7 : Int) (l8 : Int) (l9 : Int) (T : gT) (Q : Option Value → gT → Prop) : Prop := (-2147483648 ≤ l8 ∧ l8 < 2147483648) ∧ ((6 ≤ l8 → Q (some (.int (zI l7))) T) ∧ (¬ 6 ≤ l8 → (vI T 0 3 = 0 ∨ vI T 0 3 = 1) ∧ (0 ≤ l1 ∧ l1 < 200) ∧ (0 ≤ l8 ∧ l8 < 7) ∧ (((cV T (vI T 0 3).toNat l1.toNat l8.toNat) = (-1) → gW (tP sa) lM b E (d + 1 + 1) mX7_copy 288 [some (.ref (b + 0)), some (.int (zI l1)), some (.int (zI l2)), some (.int (zI l3)), some (.int (zI l4)), some (.int (zI l5)), some (.int (zI l6)), some (.int (zI l7)), some (.int (zI (l8 + 1))), some (.int (zI l9)), none] [] T Q) ∧ (¬ (cV T (vI T 0 3).toNat l1.toNat l8.toNat) = (-1) → (0 ≤ l1 ∧ l1 < 200) ∧ (0 ≤ l8 ∧ l8 < 7) ∧ gC (tP sa) lM b E (d + 1) mX7_copy [.ref (b + 0), .int (zI (cV T (vI T 0 3).toNat l1.toNat l8.toNat)), .int (zI l7), .int (zI l3)] T (fun r T317 => pI r (fun v317 => (0 ≤ l4 ∧ l4 < 2) ∧ (0 ≤ l7 ∧ l7 < 200) ∧ (0 ≤ l8 ∧ l8 < 7) ∧ gW (tP sa) lM b E (d + 1 + 1) mX7_copy 288 [some (.ref (b + 0)), some (.int (zI l1)), some (.int (zI l2)), some (.int (zI l3)), some (.int (zI l4)), some (.int (zI l5)), some (.int (zI l6)), some (.int (zI l7)), some (.int (zI (l8 + 1))), some (.int (zI v317)), none] [] (cS T317 l4.toNat l7.toNat l8.toNat v317) Q))))))
set_option maxRecDepth 4000 in
theorem w_X7_copy_288b {sa : Nat → Nat} {b : Nat} {E : Nat × mH} {d : Nat} {l1 : Int} {l2 : Int} {l3 : Int} {l4 : Int} {l5 : Int} {l6 : Int} {l7 : Int} {l8 : Int} {l9 : Int} {T : gT} {Q : Option Value → gT → Prop} (h : f_X7_copy_288b sa b E d l1 l2 l3 l4 l5 l6 l7 l8 l9 T Q) : gW (tP sa) lM b E (d + 1 + 1) mX7_copy 288 [some (.ref (b + 0)), some (.int (zI l1)), some (.int (zI l2)), some (.int (zI l3)), some (.int (zI l4)), some (.int (zI l5)), some (.int (zI l6)), some (.int (zI l7)), some (.int (zI l8)), some (.int (zI l9)), none] [] T Q := by
  unfold f_X7_copy_288b at h
  refine g_iload dX7_copy_288 rfl ?_
  refine g_bipush (v := zI 6) dX7_copy_290 (by decide) ?_
  obtain ⟨a1, h⟩ := h
  refine g_icmp_geZ dX7_copy_292 rfl a1 (by decide) (fun c292 => ?_) (fun c292 => ?_)
  · replace h := h.1 c292
    refine g_iload dX7_copy_340 rfl ?_
    exact g_iret dX7_copy_342 rfl rfl h
  · replace h := h.2 c292
    refine g_aload_n dX7_copy_295 rfl ?_
    refine g_iload_n dX7_copy_296 rfl ?_
    refine g_iload dX7_copy_297 rfl ?_
    obtain ⟨a2, h⟩ := h
    obtain ⟨a3, h⟩ := h
    obtain ⟨a4, h⟩ := h
    refine g_callV [.ref (b + 0), .int (zI l1), .int (zI l8)] [] dX7_copy_299 tG_7_219 tM_113 lM_0 rfl rfl rfl rfl (by decide) rfl ?_
    refine gC.mono (c_getZ sa b E d _ (n := vI T 0 3) (by first | exact (zI_v _ _ _).symm | rfl) a2 a3 a4) (Nat.le_refl _) ?_
    rintro _ _ ⟨rfl, h9⟩
    obtain rfl := h9.symm
    refine g_iconst (v := zI (-1)) dX7_copy_302 (by decide) ?_
    refine g_icmp_eqZ dX7_copy_303 rfl ⟨vI_lo _ _ _, vI_hi _ _ _⟩ (by decide) (fun c303 => ?_) (fun c303 => ?_)
    · replace h := h.1 c303
      refine g_iinc (x := zI l8) (v := zI (l8 + 1)) (L' := [some (.ref (b + 0)), some (.int (zI l1)), some (.int (zI l2)), some (.int (zI l3)), some (.int (zI l4)), some (.int (zI l5)), some (.int (zI l6)), some (.int (zI l7)), some (.int (zI (l8 + 1))), some (.int (zI l9)), none]) dX7_copy_334 rfl (zI_add _ _) rfl ?_
      refine g_goto dX7_copy_337 rfl ?_
      exact h
    · replace h := h.2 c303
      refine g_aload_n dX7_copy_306 rfl ?_
      refine g_aload_n dX7_copy_307 rfl ?_
      refine g_iload_n dX7_copy_308 rfl ?_
      refine g_iload dX7_copy_309 rfl ?_
      obtain ⟨a5, h⟩ := h
      obtain ⟨a6, h⟩ := h
      refine g_callV [.ref (b + 0), .int (zI l1), .int (zI l8)] [.ref (b + 0)] dX7_copy_311 tG_7_219 tM_113 lM_0 rfl rfl rfl rfl (by decide) rfl ?_
      refine gC.mono (c_getZ sa b E d _ (n := vI T 0 3) (by first | exact (zI_v _ _ _).symm | rfl) a2 a5 a6) (Nat.le_refl _) ?_
      rintro _ _ ⟨rfl, h9⟩
      obtain rfl := h9.symm
      refine g_iload dX7_copy_314 rfl ?_
      refine g_iload_n dX7_copy_316 rfl ?_
      refine g_callV [.ref (b + 0), .int (zI (cV T (vI T 0 3).toNat l1.toNat l8.toNat)), .int (zI l7), .int (zI l3)] [] dX7_copy_317 tG_7_312 tM_162 lM_0 rfl rfl rfl rfl (by decide) rfl ?_
      refine gC.mono h (Nat.le_refl _) ?_
      rintro _ T317 ⟨v317, rfl, h⟩
      refine g_istore (L' := [some (.ref (b + 0)), some (.int (zI l1)), some (.int (zI l2)), some (.int (zI l3)), some (.int (zI l4)), some (.int (zI l5)), some (.int (zI l6)), some (.int (zI l7)), some (.int (zI l8)), some (.int (zI v317)), none]) dX7_copy_320 rfl ?_
      refine g_aload_n dX7_copy_322 rfl ?_
      refine g_iload dX7_copy_323 rfl ?_
      refine g_iload dX7_copy_325 rfl ?_
      refine g_iload dX7_copy_327 rfl ?_
      refine g_iload dX7_copy_329 rfl ?_
      obtain ⟨a7, h⟩ := h
      obtain ⟨a8, h⟩ := h
      obtain ⟨a9, h⟩ := h
      refine g_callV [.ref (b + 0), .int (zI l4), .int (zI l7), .int (zI l8), .int (zI v317)] [] dX7_copy_331 tG_7_108 tM_114 lM_0 rfl rfl rfl rfl (by decide) rfl ?_
      refine gC.mono (c_setZ sa b E _ _ a7 a8 a9) (Nat.le_refl _) ?_
      rintro _ _ ⟨rfl, h9⟩
      obtain rfl := h9.symm
      refine g_iinc (x := zI l8) (v := zI (l8 + 1)) (L' := [some (.ref (b + 0)), some (.int (zI l1)), some (.int (zI l2)), some (.int (zI l3)), some (.int (zI l4)), some (.int (zI l5)), some (.int (zI l6)), some (.int (zI l7)), some (.int (zI (l8 + 1))), some (.int (zI v317)), none]) dX7_copy_334 rfl (zI_add _ _) rfl ?_
      refine g_goto dX7_copy_337 rfl ?_
      exact h
