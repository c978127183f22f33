/-! THE CLASS: its blocks, 0 (printed by wip/whole/phi6.py) -/
def f_X0_empty (sa : Nat → Nat) (b : Nat) (E : Nat × mH) (d : Nat) (T : gT) (Q : Option Value → gT → Prop) : Prop := Q none (gI T 53 4 (zI 0))
set_option maxRecDepth 4000 in
theorem w_X0_empty {sa : Nat → Nat} {b : Nat} {E : Nat × mH} {d : Nat} {T : gT} {Q : Option Value → gT → Prop} (h : f_X0_empty sa b E d T Q) : gC (tP sa) lD b E d mX0_empty [.ref (b + 53)] T Q := by
  unfold f_X0_empty at h
  refine ⟨Nat.le_of_ble_eq_true rfl, ?_⟩
  show gW (tP sa) lD b E d mX0_empty 0 [some (.ref (b + 53))] [] T Q
  refine g_aload_n dX0_empty_0 rfl ?_
  refine g_iconst (v := zI 0) dX0_empty_1 (by decide) ?_
  refine g_putI dX0_empty_2 tF_0_25 lD_53 rfl rfl ⟨rfl, rfl⟩ rfl ?_
  exact g_vret dX0_empty_5 rfl h
def f_X0_numberAt (sa : Nat → Nat) (b : Nat) (E : Nat × mH) (d : Nat) (l1 : Int) (T : gT) (Q : Option Value → gT → Prop) : Prop := (-2147483648 ≤ l1 ∧ l1 < 2147483648) ∧ Q (some (.long (aJ T 56 1000 l1))) T
set_option maxRecDepth 4000 in
theorem w_X0_numberAt {sa : Nat → Nat} {b : Nat} {E : Nat × mH} {d : Nat} {l1 : Int} {T : gT} {Q : Option Value → gT → Prop} (h : f_X0_numberAt sa b E d l1 T Q) : gC (tP sa) lD b E (d + 1) mX0_numberAt [.ref (b + 53), .int (zI l1)] T Q := by
  unfold f_X0_numberAt at h
  refine ⟨Nat.le_of_ble_eq_true rfl, ?_⟩
  show gW (tP sa) lD b E (d + 1) mX0_numberAt 0 [some (.ref (b + 53)), some (.int (zI l1))] [] T Q
  refine g_aload_n dX0_numberAt_0 rfl ?_
  refine g_getR dX0_numberAt_1 tF_0_18 lD_53 rfl ?_
  refine g_iload_n dX0_numberAt_4 rfl ?_
  obtain ⟨a1, h⟩ := h
  refine g_callS [.ref (b + 56), .int (zI l1)] [] dX0_numberAt_5 tG_0_33 tM_97 rfl rfl rfl rfl (by decide) ?_
  refine gC.mono (c_aJ sa b E _ _ lD_56 (by decide) a1) (Nat.le_refl _) ?_
  rintro _ _ ⟨rfl, h9⟩
  obtain rfl := h9.symm
  exact g_lret dX0_numberAt_8 rfl h
def f_X1_solve (sa : Nat → Nat) (b : Nat) (E : Nat × mH) (d : Nat) (l1 : Nat) (T : gT) (Q : Option Value → gT → Prop) : Prop := gW (tP sa) lD b E (d + 1) mX1_solve 2 [some (.ref (b + 47)), some (.ref (b + l1)), some (.int (zI 0)), none] [] T Q
set_option maxRecDepth 4000 in
theorem w_X1_solve {sa : Nat → Nat} {b : Nat} {E : Nat × mH} {d : Nat} {l1 : Nat} {T : gT} {Q : Option Value → gT → Prop} (hq_l1 : l1 = 2 ∨ l1 = 21) (h : f_X1_solve sa b E d l1 T Q) : gC (tP sa) lD b E (d + 1) mX1_solve [.ref (b + 47), .ref (b + l1)] T Q := by
  unfold f_X1_solve at h
  refine ⟨Nat.le_of_ble_eq_true rfl, ?_⟩
  show gW (tP sa) lD b E (d + 1) mX1_solve 0 [some (.ref (b + 47)), some (.ref (b + l1)), none, none] [] T Q
  refine g_iconst (v := zI 0) dX1_solve_0 (by decide) ?_
  refine g_istore_n (L' := [some (.ref (b + 47)), some (.ref (b + l1)), some (.int (zI 0)), none]) dX1_solve_1 rfl ?_
  exact h
def f_X1_solve_2 (sa : Nat → Nat) (b : Nat) (E : Nat × mH) (d : Nat) (l1 : Nat) (l2 : Int) (T : gT) (Q : Option Value → gT → Prop) : Prop := (-2147483648 ≤ l2 ∧ l2 < 2147483648) ∧ ((200 ≤ l2 → gW (tP sa) lD b E (d + 1) mX1_solve 24 [some (.ref (b + 47)), some (.ref (b + l1)), some (.int (zI 0)), none] [] T Q) ∧ (¬ 200 ≤ l2 → 0 ≤ l2 ∧ l2 < 200 ∧ gW (tP sa) lD b E (d + 1) mX1_solve 2 [some (.ref (b + 47)), some (.ref (b + l1)), some (.int (zI (l2 + 1))), none] [] (gJ T 48 l2.toNat 0) Q))
set_option maxRecDepth 4000 in
theorem w_X1_solve_2 {sa : Nat → Nat} {b : Nat} {E : Nat × mH} {d : Nat} {l1 : Nat} {l2 : Int} {T : gT} {Q : Option Value → gT → Prop} (hq_l1 : l1 = 2 ∨ l1 = 21) (h : f_X1_solve_2 sa b E d l1 l2 T Q) : gW (tP sa) lD b E (d + 1) mX1_solve 2 [some (.ref (b + 47)), some (.ref (b + l1)), some (.int (zI l2)), none] [] T Q := by
  unfold f_X1_solve_2 at h
  refine g_iload_n dX1_solve_2 rfl ?_
  refine g_sipush (v := zI 200) dX1_solve_3 (by decide) ?_
  obtain ⟨a1, h⟩ := h
  refine g_icmp_geZ dX1_solve_6 rfl a1 (by decide) (fun c6 => ?_) (fun c6 => ?_)
  · replace h := h.1 c6
    refine g_iconst (v := zI 0) dX1_solve_22 (by decide) ?_
    refine g_istore_n (L' := [some (.ref (b + 47)), some (.ref (b + l1)), some (.int (zI 0)), none]) dX1_solve_23 rfl ?_
    exact h
  · replace h := h.2 c6
    refine g_aload_n dX1_solve_9 rfl ?_
    refine g_getR dX1_solve_10 tF_1_9 lD_47 rfl ?_
    refine g_iload_n dX1_solve_13 rfl ?_
    refine g_lconst (v := 0) dX1_solve_14 (by decide) ?_
    obtain ⟨a2, h⟩ := h
    obtain ⟨a3, h⟩ := h
    refine g_lastZ dX1_solve_15 lD_48 a2 a3 (by decide) ?_
    refine g_iinc (x := zI l2) (v := zI (l2 + 1)) (L' := [some (.ref (b + 47)), some (.ref (b + l1)), some (.int (zI (l2 + 1))), none]) dX1_solve_16 rfl (zI_add _ _) rfl ?_
    refine g_goto dX1_solve_19 rfl ?_
    exact h
def f_X1_solve_24 (sa : Nat → Nat) (b : Nat) (E : Nat × mH) (d : Nat) (l1 : Nat) (l2 : Int) (T : gT) (Q : Option Value → gT → Prop) : Prop := (-2147483648 ≤ l2 ∧ l2 < 2147483648) ∧ ((100 ≤ l2 → gW (tP sa) lD b E (d + 1) mX1_solve 50 [some (.ref (b + 47)), some (.ref (b + l1)), some (.int (zI 0)), none] [] (gI T 47 3 (zI 1)) Q) ∧ (¬ 100 ≤ l2 → 0 ≤ l2 ∧ l2 < 100 ∧ gW (tP sa) lD b E (d + 1) mX1_solve 24 [some (.ref (b + 47)), some (.ref (b + l1)), some (.int (zI (l2 + 1))), none] [] (gJ T 49 l2.toNat 0) Q))
set_option maxRecDepth 4000 in
theorem w_X1_solve_24 {sa : Nat → Nat} {b : Nat} {E : Nat × mH} {d : Nat} {l1 : Nat} {l2 : Int} {T : gT} {Q : Option Value → gT → Prop} (hq_l1 : l1 = 2 ∨ l1 = 21) (h : f_X1_solve_24 sa b E d l1 l2 T Q) : gW (tP sa) lD b E (d + 1) mX1_solve 24 [some (.ref (b + 47)), some (.ref (b + l1)), some (.int (zI l2)), none] [] T Q := by
  unfold f_X1_solve_24 at h
  refine g_iload_n dX1_solve_24 rfl ?_
  refine g_bipush (v := zI 100) dX1_solve_25 (by decide) ?_
  obtain ⟨a1, h⟩ := h
  refine g_icmp_geZ dX1_solve_27 rfl a1 (by decide) (fun c27 => ?_) (fun c27 => ?_)
  · replace h := h.1 c27
    refine g_aload_n dX1_solve_43 rfl ?_
    refine g_iconst (v := zI 1) dX1_solve_44 (by decide) ?_
    refine g_putI dX1_solve_45 tF_1_21 lD_47 rfl rfl ⟨rfl, rfl⟩ rfl ?_
    refine g_iconst (v := zI 0) dX1_solve_48 (by decide) ?_
    refine g_istore_n (L' := [some (.ref (b + 47)), some (.ref (b + l1)), some (.int (zI 0)), none]) dX1_solve_49 rfl ?_
    exact h
  · replace h := h.2 c27
    refine g_aload_n dX1_solve_30 rfl ?_
    refine g_getR dX1_solve_31 tF_1_15 lD_47 rfl ?_
    refine g_iload_n dX1_solve_34 rfl ?_
    refine g_lconst (v := 0) dX1_solve_35 (by decide) ?_
    obtain ⟨a2, h⟩ := h
    obtain ⟨a3, h⟩ := h
    refine g_lastZ dX1_solve_36 lD_49 a2 a3 (by decide) ?_
    refine g_iinc (x := zI l2) (v := zI (l2 + 1)) (L' := [some (.ref (b + 47)), some (.ref (b + l1)), some (.int (zI (l2 + 1))), none]) dX1_solve_37 rfl (zI_add _ _) rfl ?_
    refine g_goto dX1_solve_40 rfl ?_
    exact h
def f_X1_solve_50 (sa : Nat → Nat) (b : Nat) (E : Nat × mH) (d : Nat) (l1 : Nat) (l2 : Int) (T : gT) (Q : Option Value → gT → Prop) : Prop := (-2147483648 ≤ l2 ∧ l2 < 2147483648) ∧ ((15001 ≤ l2 → gC (tP sa) lD b E d mX1_findReached [.ref (b + 47), .ref (b + l1)] T (fun r T122 => pV r (Q none T122))) ∧ (¬ 15001 ≤ l2 → (((vI T 47 3) = 0 → gC (tP sa) lD b E d mX1_findReached [.ref (b + 47), .ref (b + l1)] T (fun r T122 => pV r (Q none T122))) ∧ (¬ (vI T 47 3) = 0 → gW (tP sa) lD b E (d + 1) mX1_solve 71 [some (.ref (b + 47)), some (.ref (b + l1)), some (.int (zI l2)), some (.int (zI 0))] [] (gI T 47 3 (zI 0)) Q))))
set_option maxRecDepth 4000 in
theorem w_X1_solve_50 {sa : Nat → Nat} {b : Nat} {E : Nat × mH} {d : Nat} {l1 : Nat} {l2 : Int} {T : gT} {Q : Option Value → gT → Prop} (hq_l1 : l1 = 2 ∨ l1 = 21) (h : f_X1_solve_50 sa b E d l1 l2 T Q) : gW (tP sa) lD b E (d + 1) mX1_solve 50 [some (.ref (b + 47)), some (.ref (b + l1)), some (.int (zI l2)), none] [] T Q := by
  unfold f_X1_solve_50 at h
  refine g_iload_n dX1_solve_50 rfl ?_
  refine g_sipush (v := zI 15001) dX1_solve_51 (by decide) ?_
  obtain ⟨a1, h⟩ := h
  refine g_icmp_geZ dX1_solve_54 rfl a1 (by decide) (fun c54 => ?_) (fun c54 => ?_)
  · replace h := h.1 c54
    refine g_aload_n dX1_solve_120 rfl ?_
    refine g_aload_n dX1_solve_121 rfl ?_
    refine g_callV [.ref (b + 47), .ref (b + l1)] [] dX1_solve_122 tG_1_35 tM_15 lD_47 rfl rfl rfl rfl (by decide) rfl ?_
    refine gC.mono h (Nat.le_refl _) ?_
    rintro _ T122 ⟨rfl, h⟩
    exact g_vret dX1_solve_125 rfl h
  · replace h := h.2 c54
    refine g_aload_n dX1_solve_57 rfl ?_
    refine g_getZ (v := vI T 47 3) dX1_solve_58 tF_1_21 lD_47 rfl (zI_v T 47 3) ?_
    refine g_if_eqZ dX1_solve_61 rfl ⟨vI_lo _ _ _, vI_hi _ _ _⟩  (fun c61 => ?_) (fun c61 => ?_)
    · replace h := h.1 c61
      refine g_aload_n dX1_solve_120 rfl ?_
      refine g_aload_n dX1_solve_121 rfl ?_
      refine g_callV [.ref (b + 47), .ref (b + l1)] [] dX1_solve_122 tG_1_35 tM_15 lD_47 rfl rfl rfl rfl (by decide) rfl ?_
      refine gC.mono h (Nat.le_refl _) ?_
      rintro _ T122 ⟨rfl, h⟩
      exact g_vret dX1_solve_125 rfl h
    · replace h := h.2 c61
      refine g_aload_n dX1_solve_64 rfl ?_
      refine g_iconst (v := zI 0) dX1_solve_65 (by decide) ?_
      refine g_putI dX1_solve_66 tF_1_21 lD_47 rfl rfl ⟨rfl, rfl⟩ rfl ?_
      refine g_iconst (v := zI 0) dX1_solve_69 (by decide) ?_
      refine g_istore_n (L' := [some (.ref (b + 47)), some (.ref (b + l1)), some (.int (zI l2)), some (.int (zI 0))]) dX1_solve_70 rfl ?_
      exact h
def f_X1_solve_71 (sa : Nat → Nat) (b : Nat) (E : Nat × mH) (d : Nat) (l1 : Nat) (l2 : Int) (l3 : Int) (T : gT) (Q : Option Value → gT → Prop) : Prop := (-2147483648 ≤ l3 ∧ l3 < 2147483648) ∧ (((vI T l1 0) ≤ l3 → gW (tP sa) lD b E (d + 1) mX1_solve 98 [some (.ref (b + 47)), some (.ref (b + l1)), some (.int (zI l2)), some (.int (zI ((vI T l1 0) - 1)))] [] T Q) ∧ (¬ (vI T l1 0) ≤ l3 → gC (tP sa) lD b E d mX1_pour [.ref (b + 47), .ref (b + l1), .int (zI l3)] T (fun r T82 => pV r (gW (tP sa) lD b E (d + 1) mX1_solve 71 [some (.ref (b + 47)), some (.ref (b + l1)), some (.int (zI l2)), some (.int (zI (l3 + 1)))] [] T82 Q))))
set_option maxRecDepth 4000 in
theorem w_X1_solve_71 {sa : Nat → Nat} {b : Nat} {E : Nat × mH} {d : Nat} {l1 : Nat} {l2 : Int} {l3 : Int} {T : gT} {Q : Option Value → gT → Prop} (hq_l1 : l1 = 2 ∨ l1 = 21) (h : f_X1_solve_71 sa b E d l1 l2 l3 T Q) : gW (tP sa) lD b E (d + 1) mX1_solve 71 [some (.ref (b + 47)), some (.ref (b + l1)), some (.int (zI l2)), some (.int (zI l3))] [] T Q := by
  unfold f_X1_solve_71 at h
  refine g_iload_n dX1_solve_71 rfl ?_
  refine g_aload_n dX1_solve_72 rfl ?_
  refine g_getZ (v := vI T l1 0) dX1_solve_73 tF_1_25 (lP_0 hq_l1) rfl (zI_v _ _ _) ?_
  obtain ⟨a1, h⟩ := h
  refine g_icmp_geZ dX1_solve_76 rfl a1 ⟨vI_lo _ _ _, vI_hi _ _ _⟩ (fun c76 => ?_) (fun c76 => ?_)
  · replace h := h.1 c76
    refine g_aload_n dX1_solve_91 rfl ?_
    refine g_getZ (v := vI T l1 0) dX1_solve_92 tF_1_25 (lP_0 hq_l1) rfl (zI_v _ _ _) ?_
    refine g_iconst (v := zI 1) dX1_solve_95 (by decide) ?_
    refine g_isubZ dX1_solve_96 ?_
    refine g_istore_n (L' := [some (.ref (b + 47)), some (.ref (b + l1)), some (.int (zI l2)), some (.int (zI ((vI T l1 0) - 1)))]) dX1_solve_97 rfl ?_
    exact h
  · replace h := h.2 c76
    refine g_aload_n dX1_solve_79 rfl ?_
    refine g_aload_n dX1_solve_80 rfl ?_
    refine g_iload_n dX1_solve_81 rfl ?_
    refine g_callV [.ref (b + 47), .ref (b + l1), .int (zI l3)] [] dX1_solve_82 tG_1_31 tM_10 lD_47 rfl rfl rfl rfl (by decide) rfl ?_
    refine gC.mono h (Nat.le_refl _) ?_
    rintro _ T82 ⟨rfl, h⟩
    refine g_iinc (x := zI l3) (v := zI (l3 + 1)) (L' := [some (.ref (b + 47)), some (.ref (b + l1)), some (.int (zI l2)), some (.int (zI (l3 + 1)))]) dX1_solve_85 rfl (zI_add _ _) rfl ?_
    refine g_goto dX1_solve_88 rfl ?_
    exact h
def f_X1_solve_98 (sa : Nat → Nat) (b : Nat) (E : Nat × mH) (d : Nat) (l1 : Nat) (l2 : Int) (l3 : Int) (T : gT) (Q : Option Value → gT → Prop) : Prop := (-2147483648 ≤ l3 ∧ l3 < 2147483648) ∧ ((l3 < 0 → gW (tP sa) lD b E (d + 1) mX1_solve 50 [some (.ref (b + 47)), some (.ref (b + l1)), some (.int (zI (l2 + 1))), some (.int (zI l3))] [] T Q) ∧ (¬ l3 < 0 → gC (tP sa) lD b E d mX1_pour [.ref (b + 47), .ref (b + l1), .int (zI l3)] T (fun r T105 => pV r (gW (tP sa) lD b E (d + 1) mX1_solve 98 [some (.ref (b + 47)), some (.ref (b + l1)), some (.int (zI l2)), some (.int (zI (l3 - 1)))] [] T105 Q))))
set_option maxRecDepth 4000 in
theorem w_X1_solve_98 {sa : Nat → Nat} {b : Nat} {E : Nat × mH} {d : Nat} {l1 : Nat} {l2 : Int} {l3 : Int} {T : gT} {Q : Option Value → gT → Prop} (hq_l1 : l1 = 2 ∨ l1 = 21) (h : f_X1_solve_98 sa b E d l1 l2 l3 T Q) : gW (tP sa) lD b E (d + 1) mX1_solve 98 [some (.ref (b + 47)), some (.ref (b + l1)), some (.int (zI l2)), some (.int (zI l3))] [] T Q := by
  unfold f_X1_solve_98 at h
  refine g_iload_n dX1_solve_98 rfl ?_
  obtain ⟨a1, h⟩ := h
  refine g_if_ltZ dX1_solve_99 rfl a1  (fun c99 => ?_) (fun c99 => ?_)
  · replace h := h.1 c99
    refine g_iinc (x := zI l2) (v := zI (l2 + 1)) (L' := [some (.ref (b + 47)), some (.ref (b + l1)), some (.int (zI (l2 + 1))), some (.int (zI l3))]) dX1_solve_114 rfl (zI_add _ _) rfl ?_
    refine g_goto dX1_solve_117 rfl ?_
    exact h
  · replace h := h.2 c99
    refine g_aload_n dX1_solve_102 rfl ?_
    refine g_aload_n dX1_solve_103 rfl ?_
    refine g_iload_n dX1_solve_104 rfl ?_
    refine g_callV [.ref (b + 47), .ref (b + l1), .int (zI l3)] [] dX1_solve_105 tG_1_31 tM_10 lD_47 rfl rfl rfl rfl (by decide) rfl ?_
    refine gC.mono h (Nat.le_refl _) ?_
    rintro _ T105 ⟨rfl, h⟩
    refine g_iinc (x := zI l3) (v := zI (l3 - 1)) (L' := [some (.ref (b + 47)), some (.ref (b + l1)), some (.int (zI l2)), some (.int (zI (l3 - 1)))]) dX1_solve_108 rfl ((zI_add _ _).trans (congrArg zI (show _ = l3 - 1 by omega))) rfl ?_
    refine g_goto dX1_solve_111 rfl ?_
    exact h
def f_X1_solve_50b (sa : Nat → Nat) (b : Nat) (E : Nat × mH) (d : Nat) (l1 : Nat) (l2 : Int) (l3 : Int) (T : gT) (Q : Option Value → gT → Prop) : Prop := (-2147483648 ≤ l2 ∧ l2 < 2147483648) ∧ ((15001 ≤ l2 → gC (tP sa) lD b E d mX1_findReached [.ref (b + 47), .ref (b + l1)] T (fun r T122 => pV r (Q none T122))) ∧ (¬ 15001 ≤ l2 → (((vI T 47 3) = 0 → gC (tP sa) lD b E d mX1_findReached [.ref (b + 47), .ref (b + l1)] T (fun r T122 => pV r (Q none T122))) ∧ (¬ (vI T 47 3) = 0 → gW (tP sa) lD b E (d + 1) mX1_solve 71 [some (.ref (b + 47)), some (.ref (b + l1)), some (.int (zI l2)), some (.int (zI 0))] [] (gI T 47 3 (zI 0)) Q))))
set_option maxRecDepth 4000 in
theorem w_X1_solve_50b {sa : Nat → Nat} {b : Nat} {E : Nat × mH} {d : Nat} {l1 : Nat} {l2 : Int} {l3 : Int} {T : gT} {Q : Option Value → gT → Prop} (hq_l1 : l1 = 2 ∨ l1 = 21) (h : f_X1_solve_50b sa b E d l1 l2 l3 T Q) : gW (tP sa) lD b E (d + 1) mX1_solve 50 [some (.ref (b + 47)), some (.ref (b + l1)), some (.int (zI l2)), some (.int (zI l3))] [] T Q := by
  unfold f_X1_solve_50b at h
  refine g_iload_n dX1_solve_50 rfl ?_
  refine g_sipush (v := zI 15001) dX1_solve_51 (by decide) ?_
  obtain ⟨a1, h⟩ := h
  refine g_icmp_geZ dX1_solve_54 rfl a1 (by decide) (fun c54 => ?_) (fun c54 => ?_)
  · replace h := h.1 c54
    refine g_aload_n dX1_solve_120 rfl ?_
    refine g_aload_n dX1_solve_121 rfl ?_
    refine g_callV [.ref (b + 47), .ref (b + l1)] [] dX1_solve_122 tG_1_35 tM_15 lD_47 rfl rfl rfl rfl (by decide) rfl ?_
    refine gC.mono h (Nat.le_refl _) ?_
    rintro _ T122 ⟨rfl, h⟩
    exact g_vret dX1_solve_125 rfl h
  · replace h := h.2 c54
    refine g_aload_n dX1_solve_57 rfl ?_
    refine g_getZ (v := vI T 47 3) dX1_solve_58 tF_1_21 lD_47 rfl (zI_v T 47 3) ?_
    refine g_if_eqZ dX1_solve_61 rfl ⟨vI_lo _ _ _, vI_hi _ _ _⟩  (fun c61 => ?_) (fun c61 => ?_)
    · replace h := h.1 c61
      refine g_aload_n dX1_solve_120 rfl ?_
      refine g_aload_n dX1_solve_121 rfl ?_
      refine g_callV [.ref (b + 47), .ref (b + l1)] [] dX1_solve_122 tG_1_35 tM_15 lD_47 rfl rfl rfl rfl (by decide) rfl ?_
      refine gC.mono h (Nat.le_refl _) ?_
      rintro _ T122 ⟨rfl, h⟩
      exact g_vret dX1_solve_125 rfl h
    · replace h := h.2 c61
      refine g_aload_n dX1_solve_64 rfl ?_
      refine g_iconst (v := zI 0) dX1_solve_65 (by decide) ?_
      refine g_putI dX1_solve_66 tF_1_21 lD_47 rfl rfl ⟨rfl, rfl⟩ rfl ?_
      refine g_iconst (v := zI 0) dX1_solve_69 (by decide) ?_
      refine g_istore_n (L' := [some (.ref (b + 47)), some (.ref (b + l1)), some (.int (zI l2)), some (.int (zI 0))]) dX1_solve_70 rfl ?_
      exact h
def f_X2_start (sa : Nat → Nat) (b : Nat) (E : Nat × mH) (d : Nat) (l1 : Nat) (l2 : Int) (T : gT) (Q : Option Value → gT → Prop) : Prop := gC (tP sa) lD b E d mX2_forget [.ref (b + 51)] T (fun r T1 => pV r ((-2147483648 ≤ l2 ∧ l2 < 2147483648) ∧ gC (tP sa) lD b E d mX0_empty [.ref (b + 53)] (gI (gI (gI T1 51 4 (nI l1)) 51 5 (zI (if 2000 < l2 then 2000 else l2))) 51 1 (zI (-1))) (fun r T29 => pV r (gW (tP sa) lD b E (d + 1) mX2_start 49 [some (.ref (b + 51)), some (.ref (b + l1)), some (.int (zI l2)), some (.int (zI 0))] [] (gI (gI (gI T29 51 12 (zI 0)) 51 13 (zI 0)) 51 14 (zI (-1))) Q))))
set_option maxRecDepth 4000 in
theorem w_X2_start {sa : Nat → Nat} {b : Nat} {E : Nat × mH} {d : Nat} {l1 : Nat} {l2 : Int} {T : gT} {Q : Option Value → gT → Prop} (hq_l1 : l1 = 2 ∨ l1 = 21) (h : f_X2_start sa b E d l1 l2 T Q) : gC (tP sa) lD b E (d + 1) mX2_start [.ref (b + 51), .ref (b + l1), .int (zI l2)] T Q := by
  unfold f_X2_start at h
  refine ⟨Nat.le_of_ble_eq_true rfl, ?_⟩
  show gW (tP sa) lD b E (d + 1) mX2_start 0 [some (.ref (b + 51)), some (.ref (b + l1)), some (.int (zI l2)), none] [] T Q
  refine g_aload_n dX2_start_0 rfl ?_
  refine g_callV [.ref (b + 51)] [] dX2_start_1 tG_2_47 tM_17 lD_51 rfl rfl rfl rfl (by decide) rfl ?_
  refine gC.mono h (Nat.le_refl _) ?_
  rintro _ T1 ⟨rfl, h⟩
  refine g_aload_n dX2_start_4 rfl ?_
  refine g_aload_n dX2_start_5 rfl ?_
  refine g_putV dX2_start_6 tF_2_50 lD_51 rfl rfl (by first | exact Or.inl ⟨_, rfl⟩ | exact Or.inr ⟨_, rfl⟩) (q_lt2 hq_l1) rfl ?_
  refine g_aload_n dX2_start_9 rfl ?_
  refine g_iload_n dX2_start_10 rfl ?_
  refine g_sipush (v := zI 2000) dX2_start_11 (by decide) ?_
  obtain ⟨a1, h⟩ := h
  refine g_primS (st1 := [.int (zI (if 2000 < l2 then 2000 else l2)), .ref (b + 51)]) dX2_start_14 tG_2_54 rfl (fun S9 => congrArg (fun v9 => some (Value.int v9 :: _, S9)) (zI_min (x := l2) (y := 2000) a1 (by decide))) rfl ?_
  refine g_putI dX2_start_17 tF_2_60 lD_51 rfl rfl ⟨rfl, rfl⟩ rfl ?_
  refine g_aload_n dX2_start_20 rfl ?_
  refine g_iconst (v := zI (-1)) dX2_start_21 (by decide) ?_
  refine g_putI dX2_start_22 tF_2_63 lD_51 rfl rfl ⟨rfl, rfl⟩ rfl ?_
  refine g_aload_n dX2_start_25 rfl ?_
  refine g_getR dX2_start_26 tF_2_18 lD_51 rfl ?_
  refine g_callV [.ref (b + 53)] [] dX2_start_29 tG_2_66 tM_1 lD_53 rfl rfl rfl rfl (by decide) rfl ?_
  refine gC.mono h (Nat.le_refl _) ?_
  rintro _ T29 ⟨rfl, h⟩
  refine g_aload_n dX2_start_32 rfl ?_
  refine g_iconst (v := zI 0) dX2_start_33 (by decide) ?_
  refine g_putI dX2_start_34 tF_2_69 lD_51 rfl rfl ⟨rfl, rfl⟩ rfl ?_
  refine g_aload_n dX2_start_37 rfl ?_
  refine g_iconst (v := zI 0) dX2_start_38 (by decide) ?_
  refine g_putI dX2_start_39 tF_2_72 lD_51 rfl rfl ⟨rfl, rfl⟩ rfl ?_
  refine g_aload_n dX2_start_42 rfl ?_
  refine g_iconst (v := zI (-1)) dX2_start_43 (by decide) ?_
  refine g_putI dX2_start_44 tF_2_75 lD_51 rfl rfl ⟨rfl, rfl⟩ rfl ?_
  refine g_iconst (v := zI 0) dX2_start_47 (by decide) ?_
  refine g_istore_n (L' := [some (.ref (b + 51)), some (.ref (b + l1)), some (.int (zI l2)), some (.int (zI 0))]) dX2_start_48 rfl ?_
  exact h
def f_X2_start_49 (sa : Nat → Nat) (b : Nat) (E : Nat × mH) (d : Nat) (l1 : Nat) (l2 : Int) (l3 : Int) (T : gT) (Q : Option Value → gT → Prop) : Prop := (-2147483648 ≤ l3 ∧ l3 < 2147483648) ∧ ((8000 ≤ l3 → Q none T) ∧ (¬ 8000 ≤ l3 → ((¬ (vI T 51 1) = (-1) → Q none T) ∧ ((vI T 51 1) = (-1) → (((vI T 51 13) = (-1) → (((vI T 51 12) ≤ 0 → ((¬ (vI T 51 15) = (-1) → gW (tP sa) lD b E (d + 1) mX2_start 117 [some (.ref (b + 51)), some (.ref (b + l1)), some (.int (zI l2)), some (.int (zI l3))] [.int (zI 1), .ref (b + 51)] T Q) ∧ ((vI T 51 15) = (-1) → gW (tP sa) lD b E (d + 1) mX2_start 117 [some (.ref (b + 51)), some (.ref (b + l1)), some (.int (zI l2)), some (.int (zI l3))] [.int (zI 0), .ref (b + 51)] T Q))) ∧ (¬ (vI T 51 12) ≤ 0 → gC (tP sa) lD b E d mX2_hand [.ref (b + 51), .int (zI ((vI T 51 12) - 1))] T (fun r T97 => pV r (gW (tP sa) lD b E (d + 1) mX2_start 49 [some (.ref (b + 51)), some (.ref (b + l1)), some (.int (zI l2)), some (.int (zI (l3 + 1)))] [] T97 Q))))) ∧ (¬ (vI T 51 13) = (-1) → gC (tP sa) lD b E d mX2_begin [.ref (b + 51), .int (zI (vI T 51 13))] T (fun r T77 => pV r (gW (tP sa) lD b E (d + 1) mX2_start 49 [some (.ref (b + 51)), some (.ref (b + l1)), some (.int (zI l2)), some (.int (zI (l3 + 1)))] [] T77 Q))))))))
set_option maxRecDepth 4000 in
theorem w_X2_start_49 {sa : Nat → Nat} {b : Nat} {E : Nat × mH} {d : Nat} {l1 : Nat} {l2 : Int} {l3 : Int} {T : gT} {Q : Option Value → gT → Prop} (hq_l1 : l1 = 2 ∨ l1 = 21) (h : f_X2_start_49 sa b E d l1 l2 l3 T Q) : gW (tP sa) lD b E (d + 1) mX2_start 49 [some (.ref (b + 51)), some (.ref (b + l1)), some (.int (zI l2)), some (.int (zI l3))] [] T Q := by
  unfold f_X2_start_49 at h
  refine g_iload_n dX2_start_49 rfl ?_
  refine g_sipush (v := zI 8000) dX2_start_50 (by decide) ?_
  obtain ⟨a1, h⟩ := h
  refine g_icmp_geZ dX2_start_53 rfl a1 (by decide) (fun c53 => ?_) (fun c53 => ?_)
  · replace h := h.1 c53
    exact g_vret dX2_start_146 rfl h
  · replace h := h.2 c53
    refine g_aload_n dX2_start_56 rfl ?_
    refine g_getZ (v := vI T 51 1) dX2_start_57 tF_2_63 lD_51 rfl (zI_v T 51 1) ?_
    refine g_iconst (v := zI (-1)) dX2_start_60 (by decide) ?_
    refine g_icmp_neZ dX2_start_61 rfl ⟨vI_lo _ _ _, vI_hi _ _ _⟩ (by decide) (fun c61 => ?_) (fun c61 => ?_)
    · replace h := h.1 c61
      exact g_vret dX2_start_146 rfl h
    · replace h := h.2 c61
      refine g_aload_n dX2_start_64 rfl ?_
      refine g_getZ (v := vI T 51 13) dX2_start_65 tF_2_72 lD_51 rfl (zI_v T 51 13) ?_
      refine g_iconst (v := zI (-1)) dX2_start_68 (by decide) ?_
      refine g_icmp_eqZ dX2_start_69 rfl ⟨vI_lo _ _ _, vI_hi _ _ _⟩ (by decide) (fun c69 => ?_) (fun c69 => ?_)
      · replace h := h.1 c69
        refine g_aload_n dX2_start_83 rfl ?_
        refine g_getZ (v := vI T 51 12) dX2_start_84 tF_2_69 lD_51 rfl (zI_v T 51 12) ?_
        refine g_if_leZ dX2_start_87 rfl ⟨vI_lo _ _ _, vI_hi _ _ _⟩  (fun c87 => ?_) (fun c87 => ?_)
        · replace h := h.1 c87
          refine g_aload_n dX2_start_103 rfl ?_
          refine g_aload_n dX2_start_104 rfl ?_
          refine g_getZ (v := vI T 51 15) dX2_start_105 tF_2_85 lD_51 rfl (zI_v T 51 15) ?_
          refine g_iconst (v := zI (-1)) dX2_start_108 (by decide) ?_
          refine g_icmp_neZ dX2_start_109 rfl ⟨vI_lo _ _ _, vI_hi _ _ _⟩ (by decide) (fun c109 => ?_) (fun c109 => ?_)
          · replace h := h.1 c109
            refine g_iconst (v := zI 1) dX2_start_116 (by decide) ?_
            exact h
          · replace h := h.2 c109
            refine g_iconst (v := zI 0) dX2_start_112 (by decide) ?_
            refine g_goto dX2_start_113 rfl ?_
            exact h
        · replace h := h.2 c87
          refine g_aload_n dX2_start_90 rfl ?_
          refine g_aload_n dX2_start_91 rfl ?_
          refine g_getZ (v := vI T 51 12) dX2_start_92 tF_2_69 lD_51 rfl (zI_v T 51 12) ?_
          refine g_iconst (v := zI 1) dX2_start_95 (by decide) ?_
          refine g_isubZ dX2_start_96 ?_
          refine g_callV [.ref (b + 51), .int (zI ((vI T 51 12) - 1))] [] dX2_start_97 tG_2_82 tM_24 lD_51 rfl rfl rfl rfl (by decide) rfl ?_
          refine gC.mono h (Nat.le_refl _) ?_
          rintro _ T97 ⟨rfl, h⟩
          refine g_goto dX2_start_100 rfl ?_
          refine g_iinc (x := zI l3) (v := zI (l3 + 1)) (L' := [some (.ref (b + 51)), some (.ref (b + l1)), some (.int (zI l2)), some (.int (zI (l3 + 1)))]) dX2_start_140 rfl (zI_add _ _) rfl ?_
          refine g_goto dX2_start_143 rfl ?_
          exact h
      · replace h := h.2 c69
        refine g_aload_n dX2_start_72 rfl ?_
        refine g_aload_n dX2_start_73 rfl ?_
        refine g_getZ (v := vI T 51 13) dX2_start_74 tF_2_72 lD_51 rfl (zI_v T 51 13) ?_
        refine g_callV [.ref (b + 51), .int (zI (vI T 51 13))] [] dX2_start_77 tG_2_78 tM_20 lD_51 rfl rfl rfl rfl (by decide) rfl ?_
        refine gC.mono h (Nat.le_refl _) ?_
        rintro _ T77 ⟨rfl, h⟩
        refine g_goto dX2_start_80 rfl ?_
        refine g_iinc (x := zI l3) (v := zI (l3 + 1)) (L' := [some (.ref (b + 51)), some (.ref (b + l1)), some (.int (zI l2)), some (.int (zI (l3 + 1)))]) dX2_start_140 rfl (zI_add _ _) rfl ?_
        refine g_goto dX2_start_143 rfl ?_
        exact h
def f_X2_start_117 (sa : Nat → Nat) (b : Nat) (E : Nat × mH) (d : Nat) (l1 : Nat) (l2 : Int) (l3 : Int) (s0 : Int) (T : gT) (Q : Option Value → gT → Prop) : Prop := ((¬ (vI T 51 15) = (-1) → gC (tP sa) lD b E d mX2_end [.ref (b + 51), .int (zI s0), .long ((zI (vI T 51 15)).toInt64)] T (fun r T137 => pV r (gW (tP sa) lD b E (d + 1) mX2_start 49 [some (.ref (b + 51)), some (.ref (b + l1)), some (.int (zI l2)), some (.int (zI (l3 + 1)))] [] T137 Q))) ∧ ((vI T 51 15) = (-1) → gC (tP sa) lD b E d mX2_end [.ref (b + 51), .int (zI s0), .long (T.2.1 51 16)] T (fun r T137 => pV r (gW (tP sa) lD b E (d + 1) mX2_start 49 [some (.ref (b + 51)), some (.ref (b + l1)), some (.int (zI l2)), some (.int (zI (l3 + 1)))] [] T137 Q))))
set_option maxRecDepth 4000 in
theorem w_X2_start_117 {sa : Nat → Nat} {b : Nat} {E : Nat × mH} {d : Nat} {l1 : Nat} {l2 : Int} {l3 : Int} {s0 : Int} {T : gT} {Q : Option Value → gT → Prop} (hq_l1 : l1 = 2 ∨ l1 = 21) (h : f_X2_start_117 sa b E d l1 l2 l3 s0 T Q) : gW (tP sa) lD b E (d + 1) mX2_start 117 [some (.ref (b + 51)), some (.ref (b + l1)), some (.int (zI l2)), some (.int (zI l3))] [.int (zI s0), .ref (b + 51)] T Q := by
  unfold f_X2_start_117 at h
  refine g_aload_n dX2_start_117 rfl ?_
  refine g_getZ (v := vI T 51 15) dX2_start_118 tF_2_85 lD_51 rfl (zI_v T 51 15) ?_
  refine g_iconst (v := zI (-1)) dX2_start_121 (by decide) ?_
  refine g_icmp_neZ dX2_start_122 rfl ⟨vI_lo _ _ _, vI_hi _ _ _⟩ (by decide) (fun c122 => ?_) (fun c122 => ?_)
  · replace h := h.1 c122
    refine g_aload_n dX2_start_132 rfl ?_
    refine g_getZ (v := vI T 51 15) dX2_start_133 tF_2_85 lD_51 rfl (zI_v T 51 15) ?_
    refine g_i2l dX2_start_136 ?_
    refine g_callV [.ref (b + 51), .int (zI s0), .long ((zI (vI T 51 15)).toInt64)] [] dX2_start_137 tG_2_91 tM_19 lD_51 rfl rfl rfl rfl (by decide) rfl ?_
    refine gC.mono h (Nat.le_refl _) ?_
    rintro _ T137 ⟨rfl, h⟩
    refine g_iinc (x := zI l3) (v := zI (l3 + 1)) (L' := [some (.ref (b + 51)), some (.ref (b + l1)), some (.int (zI l2)), some (.int (zI (l3 + 1)))]) dX2_start_140 rfl (zI_add _ _) rfl ?_
    refine g_goto dX2_start_143 rfl ?_
    exact h
  · replace h := h.2 c122
    refine g_aload_n dX2_start_125 rfl ?_
    refine g_getJv (v := T.2.1 51 16) dX2_start_126 tF_2_88 lD_51 rfl rfl ?_
    refine g_goto dX2_start_129 rfl ?_
    refine g_callV [.ref (b + 51), .int (zI s0), .long (T.2.1 51 16)] [] dX2_start_137 tG_2_91 tM_19 lD_51 rfl rfl rfl rfl (by decide) rfl ?_
    refine gC.mono h (Nat.le_refl _) ?_
    rintro _ T137 ⟨rfl, h⟩
    refine g_iinc (x := zI l3) (v := zI (l3 + 1)) (L' := [some (.ref (b + 51)), some (.ref (b + l1)), some (.int (zI l2)), some (.int (zI (l3 + 1)))]) dX2_start_140 rfl (zI_add _ _) rfl ?_
    refine g_goto dX2_start_143 rfl ?_
    exact h
def f_X2_await (sa : Nat → Nat) (b : Nat) (E : Nat × mH) (d : Nat) (l1 : Int) (T : gT) (Q : Option Value → gT → Prop) : Prop := ((2000 ≤ (vI T 51 12) → (∃ r55 : Nat, (r55 = 2 ∨ r55 = 21) ∧ vI T 51 4 = (r55 : Int) ∧ (-2147483648 ≤ l1 ∧ l1 < 2147483648) ∧ Q none (gI T 51 13 (zI (aP T r55 l1 0))))) ∧ (¬ 2000 ≤ (vI T 51 12) → 0 ≤ vI T 51 12 ∧ vI T 51 12 < 2000 ∧ (∃ r55 : Nat, (r55 = 2 ∨ r55 = 21) ∧ vI T 51 4 = (r55 : Int) ∧ (-2147483648 ≤ l1 ∧ l1 < 2147483648) ∧ Q none (gI (gI (gI (gI (gI T 58 (vI T 51 12).toNat (zI l1)) 59 (vI T 51 12).toNat (zI (vI T 51 14))) 60 (vI T 51 12).toNat (zI 0)) 51 12 (zI ((vI T 51 12) + 1))) 51 13 (zI (aP (gI (gI (gI (gI T 58 (vI T 51 12).toNat (zI l1)) 59 (vI T 51 12).toNat (zI (vI T 51 14))) 60 (vI T 51 12).toNat (zI 0)) 51 12 (zI ((vI T 51 12) + 1))) r55 l1 0))))))
set_option maxRecDepth 4000 in
theorem w_X2_await {sa : Nat → Nat} {b : Nat} {E : Nat × mH} {d : Nat} {l1 : Int} {T : gT} {Q : Option Value → gT → Prop} (h : f_X2_await sa b E d l1 T Q) : gC (tP sa) lD b E (d + 1) mX2_await [.ref (b + 51), .int (zI l1)] T Q := by
  unfold f_X2_await at h
  refine ⟨Nat.le_of_ble_eq_true rfl, ?_⟩
  show gW (tP sa) lD b E (d + 1) mX2_await 0 [some (.ref (b + 51)), some (.int (zI l1))] [] T Q
  refine g_aload_n dX2_await_0 rfl ?_
  refine g_getZ (v := vI T 51 12) dX2_await_1 tF_2_69 lD_51 rfl (zI_v T 51 12) ?_
  refine g_sipush (v := zI 2000) dX2_await_4 (by decide) ?_
  refine g_icmp_geZ dX2_await_7 rfl ⟨vI_lo _ _ _, vI_hi _ _ _⟩ (by decide) (fun c7 => ?_) (fun c7 => ?_)
  · replace h := h.1 c7
    refine g_aload_n dX2_await_53 rfl ?_
    refine g_aload_n dX2_await_54 rfl ?_
    obtain ⟨r55, hq_r55, e_r55, h⟩ := h
    refine g_getVZ (o := r55) dX2_await_55 tF_2_50 lD_51 rfl e_r55 (q_lt hq_r55) ?_
    refine g_iload_n dX2_await_58 rfl ?_
    refine g_iconst (v := zI 0) dX2_await_59 (by decide) ?_
    obtain ⟨a1, h⟩ := h
    refine g_callV [.ref (b + r55), .int (zI l1), .int (zI 0)] [.ref (b + 51)] dX2_await_60 tG_2_138 tM_39 (lP_0 hq_r55) rfl rfl rfl rfl (by decide) rfl ?_
    refine gC.mono (c_part sa b E _ _ hq_r55 a1 (by decide)) (Nat.le_refl _) ?_
    rintro _ _ ⟨rfl, h9⟩
    obtain rfl := h9.symm
    refine g_putI dX2_await_63 tF_2_72 lD_51 rfl rfl ⟨rfl, rfl⟩ rfl ?_
    exact g_vret dX2_await_66 rfl h
  · replace h := h.2 c7
    refine g_aload_n dX2_await_10 rfl ?_
    refine g_getR dX2_await_11 tF_2_22 lD_51 rfl ?_
    refine g_aload_n dX2_await_14 rfl ?_
    refine g_getZ (v := vI T 51 12) dX2_await_15 tF_2_69 lD_51 rfl (zI_v T 51 12) ?_
    refine g_iload_n dX2_await_18 rfl ?_
    obtain ⟨a2, h⟩ := h
    obtain ⟨a3, h⟩ := h
    refine g_iastZ dX2_await_19 lD_58 a2 a3 (by decide) ?_
    refine g_aload_n dX2_await_20 rfl ?_
    refine g_getR dX2_await_21 tF_2_26 lD_51 rfl ?_
    refine g_aload_n dX2_await_24 rfl ?_
    refine g_getZ (v := vI T 51 12) dX2_await_25 tF_2_69 lD_51 rfl (zI_v T 51 12) ?_
    refine g_aload_n dX2_await_28 rfl ?_
    refine g_getZ (v := vI T 51 14) dX2_await_29 tF_2_75 lD_51 rfl (zI_v T 51 14) ?_
    refine g_iastZ dX2_await_32 lD_59 a2 a3 (by decide) ?_
    refine g_aload_n dX2_await_33 rfl ?_
    refine g_getR dX2_await_34 tF_2_29 lD_51 rfl ?_
    refine g_aload_n dX2_await_37 rfl ?_
    refine g_getZ (v := vI T 51 12) dX2_await_38 tF_2_69 lD_51 rfl (zI_v T 51 12) ?_
    refine g_iconst (v := zI 0) dX2_await_41 (by decide) ?_
    refine g_zastZ dX2_await_42 lD_60 a2 a3 (by decide) (by decide) ?_
    refine g_aload_n dX2_await_43 rfl ?_
    refine g_dup dX2_await_44 rfl ?_
    refine g_getZ (v := vI T 51 12) dX2_await_45 tF_2_69 lD_51 rfl (zI_v T 51 12) ?_
    refine g_iconst (v := zI 1) dX2_await_48 (by decide) ?_
    refine g_iaddZ dX2_await_49 ?_
    refine g_putI dX2_await_50 tF_2_69 lD_51 rfl rfl ⟨rfl, rfl⟩ rfl ?_
    refine g_aload_n dX2_await_53 rfl ?_
    refine g_aload_n dX2_await_54 rfl ?_
    obtain ⟨r55, hq_r55, e_r55, h⟩ := h
    refine g_getVZ (o := r55) dX2_await_55 tF_2_50 lD_51 rfl e_r55 (q_lt hq_r55) ?_
    refine g_iload_n dX2_await_58 rfl ?_
    refine g_iconst (v := zI 0) dX2_await_59 (by decide) ?_
    obtain ⟨a4, h⟩ := h
    refine g_callV [.ref (b + r55), .int (zI l1), .int (zI 0)] [.ref (b + 51)] dX2_await_60 tG_2_138 tM_39 (lP_0 hq_r55) rfl rfl rfl rfl (by decide) rfl ?_
    refine gC.mono (c_part sa b E _ _ hq_r55 a4 (by decide)) (Nat.le_refl _) ?_
    rintro _ _ ⟨rfl, h9⟩
    obtain rfl := h9.symm
    refine g_putI dX2_await_63 tF_2_72 lD_51 rfl rfl ⟨rfl, rfl⟩ rfl ?_
    exact g_vret dX2_await_66 rfl h
def f_X2_enter (sa : Nat → Nat) (b : Nat) (E : Nat × mH) (d : Nat) (l1 : Int) (l2 : Int) (l3 : Int64) (T : gT) (Q : Option Value → gT → Prop) : Prop := (-2147483648 ≤ l2 ∧ l2 < 2147483648) ∧ ((¬ l2 = (-1) → (-2147483648 ≤ l1 ∧ l1 < 2147483648) ∧ ((l1 < 0 → gW (tP sa) lD b E (d + 1) mX2_enter 36 [some (.ref (b + 51)), some (.int (zI l1)), some (.int (zI l2)), some (.long l3), none, none] [] T Q) ∧ (¬ l1 < 0 → ((200 ≤ l1 → gW (tP sa) lD b E (d + 1) mX2_enter 36 [some (.ref (b + 51)), some (.int (zI l1)), some (.int (zI l2)), some (.long l3), none, none] [] T Q) ∧ (¬ 200 ≤ l1 → 0 ≤ l1 ∧ l1 < 200 ∧ gW (tP sa) lD b E (d + 1) mX2_enter 36 [some (.ref (b + 51)), some (.int (zI l1)), some (.int (zI l2)), some (.long l3), none, none] [] (gJ T 52 l1.toNat ((T.2.1 52 l1.toNat) ||| (1 <<< ((zI l2).toInt64 &&& 63)))) Q))))) ∧ (l2 = (-1) → gC (tP sa) lD b E d mX2_end [.ref (b + 51), .int (zI 2), .long ((zI l1).toInt64)] T (fun r T9 => pV r (Q none T9))))
set_option maxRecDepth 4000 in
theorem w_X2_enter {sa : Nat → Nat} {b : Nat} {E : Nat × mH} {d : Nat} {l1 : Int} {l2 : Int} {l3 : Int64} {T : gT} {Q : Option Value → gT → Prop} (h : f_X2_enter sa b E d l1 l2 l3 T Q) : gC (tP sa) lD b E (d + 1) mX2_enter [.ref (b + 51), .int (zI l1), .int (zI l2), .long l3] T Q := by
  unfold f_X2_enter at h
  refine ⟨Nat.le_of_ble_eq_true rfl, ?_⟩
  show gW (tP sa) lD b E (d + 1) mX2_enter 0 [some (.ref (b + 51)), some (.int (zI l1)), some (.int (zI l2)), some (.long l3), none, none] [] T Q
  refine g_iload_n dX2_enter_0 rfl ?_
  refine g_iconst (v := zI (-1)) dX2_enter_1 (by decide) ?_
  obtain ⟨a1, h⟩ := h
  refine g_icmp_neZ dX2_enter_2 rfl a1 (by decide) (fun c2 => ?_) (fun c2 => ?_)
  · replace h := h.1 c2
    refine g_iload_n dX2_enter_13 rfl ?_
    obtain ⟨a2, h⟩ := h
    refine g_if_ltZ dX2_enter_14 rfl a2  (fun c14 => ?_) (fun c14 => ?_)
    · replace h := h.1 c14
      exact h
    · replace h := h.2 c14
      refine g_iload_n dX2_enter_17 rfl ?_
      refine g_sipush (v := zI 200) dX2_enter_18 (by decide) ?_
      refine g_icmp_geZ dX2_enter_21 rfl a2 (by decide) (fun c21 => ?_) (fun c21 => ?_)
      · replace h := h.1 c21
        exact h
      · replace h := h.2 c21
        refine g_aload_n dX2_enter_24 rfl ?_
        refine g_getR dX2_enter_25 tF_2_9 lD_51 rfl ?_
        refine g_iload_n dX2_enter_28 rfl ?_
        refine g_dup2 dX2_enter_29 rfl rfl ?_
        obtain ⟨a3, h⟩ := h
        obtain ⟨a4, h⟩ := h
        refine g_laldZ (v := T.2.1 52 l1.toNat) dX2_enter_30 lD_52 a3 a4 (by decide) rfl ?_
        refine g_lconst (v := 1) dX2_enter_31 (by decide) ?_
        refine g_iload_n dX2_enter_32 rfl ?_
        refine g_lshl dX2_enter_33 ?_
        refine g_lor dX2_enter_34 ?_
        refine g_lastZ dX2_enter_35 lD_52 a3 a4 (by decide) ?_
        exact h
  · replace h := h.2 c2
    refine g_aload_n dX2_enter_5 rfl ?_
    refine g_iconst (v := zI 2) dX2_enter_6 (by decide) ?_
    refine g_iload_n dX2_enter_7 rfl ?_
    refine g_i2l dX2_enter_8 ?_
    refine g_callV [.ref (b + 51), .int (zI 2), .long ((zI l1).toInt64)] [] dX2_enter_9 tG_2_91 tM_19 lD_51 rfl rfl rfl rfl (by decide) rfl ?_
    refine gC.mono h (Nat.le_refl _) ?_
    rintro _ T9 ⟨rfl, h⟩
    exact g_vret dX2_enter_12 rfl h
def f_X2_enter_36 (sa : Nat → Nat) (b : Nat) (E : Nat × mH) (d : Nat) (l1 : Int) (l2 : Int) (l3 : Int64) (T : gT) (Q : Option Value → gT → Prop) : Prop := (∃ r47 : Nat, (r47 = 2 ∨ r47 = 21) ∧ vI T 51 4 = (r47 : Int) ∧ (-2147483648 ≤ l2 ∧ l2 < 2147483648) ∧ (∃ r65 : Nat, (r65 = 2 ∨ r65 = 21) ∧ vI T 51 4 = (r65 : Int) ∧ gC (tP sa) lD b E d mX0_bind [.ref (b + 53), .int (zI (aI (gI T 51 12 (zI ((vI T 51 12) - 1))) (r65 + 2) 200 (aI (gI T 51 12 (zI ((vI T 51 12) - 1))) (r47 + 7) 50 l2))), .int (zI (vI T 51 15)), .long (T.2.1 51 16), .int (zI (l3.toInt32.toInt))] (gI T 51 12 (zI ((vI T 51 12) - 1))) (fun r T86 => pI r (fun v86 => (∃ r94 : Nat, (r94 = 2 ∨ r94 = 21) ∧ vI T86 51 4 = (r94 : Int) ∧ Q none (gI (gI T86 51 14 (zI v86)) 51 13 (zI (aP (gI T86 51 14 (zI v86)) r94 (aI (gI T 51 12 (zI ((vI T 51 12) - 1))) (r47 + 7) 50 l2) 0))))))))
set_option maxRecDepth 4000 in
theorem w_X2_enter_36 {sa : Nat → Nat} {b : Nat} {E : Nat × mH} {d : Nat} {l1 : Int} {l2 : Int} {l3 : Int64} {T : gT} {Q : Option Value → gT → Prop} (h : f_X2_enter_36 sa b E d l1 l2 l3 T Q) : gW (tP sa) lD b E (d + 1) mX2_enter 36 [some (.ref (b + 51)), some (.int (zI l1)), some (.int (zI l2)), some (.long l3), none, none] [] T Q := by
  unfold f_X2_enter_36 at h
  refine g_aload_n dX2_enter_36 rfl ?_
  refine g_dup dX2_enter_37 rfl ?_
  refine g_getZ (v := vI T 51 12) dX2_enter_38 tF_2_69 lD_51 rfl (zI_v T 51 12) ?_
  refine g_iconst (v := zI 1) dX2_enter_41 (by decide) ?_
  refine g_isubZ dX2_enter_42 ?_
  refine g_putI dX2_enter_43 tF_2_69 lD_51 rfl rfl ⟨rfl, rfl⟩ rfl ?_
  refine g_aload_n dX2_enter_46 rfl ?_
  obtain ⟨r47, hq_r47, e_r47, h⟩ := h
  refine g_getVZ (o := r47) dX2_enter_47 tF_2_50 lD_51 rfl e_r47 (q_lt hq_r47) ?_
  refine g_getR dX2_enter_50 tF_2_156 (lP_0 hq_r47) rfl ?_
  refine g_iload_n dX2_enter_53 rfl ?_
  obtain ⟨a1, h⟩ := h
  refine g_callS [.ref (b + (r47 + 7)), .int (zI l2)] [] dX2_enter_54 tG_2_100 tM_96 rfl rfl rfl rfl (by decide) ?_
  refine gC.mono (c_aI sa b E _ _ (lP_7 hq_r47) (by decide) a1) (Nat.le_refl _) ?_
  rintro _ _ ⟨rfl, h9⟩
  obtain rfl := h9.symm
  refine g_istore (L' := [some (.ref (b + 51)), some (.int (zI l1)), some (.int (zI l2)), some (.long l3), none, some (.int (zI (aI (gI T 51 12 (zI ((vI T 51 12) - 1))) (r47 + 7) 50 l2)))]) dX2_enter_57 rfl ?_
  refine g_aload_n dX2_enter_59 rfl ?_
  refine g_aload_n dX2_enter_60 rfl ?_
  refine g_getR dX2_enter_61 tF_2_18 lD_51 rfl ?_
  refine g_aload_n dX2_enter_64 rfl ?_
  obtain ⟨r65, hq_r65, e_r65, h⟩ := h
  refine g_getVZ (o := r65) dX2_enter_65 tF_2_50 lD_51 rfl e_r65 (q_lt hq_r65) ?_
  refine g_getR dX2_enter_68 tF_2_104 (lP_0 hq_r65) rfl ?_
  refine g_iload dX2_enter_71 rfl ?_
  refine g_callS [.ref (b + (r65 + 2)), .int (zI (aI (gI T 51 12 (zI ((vI T 51 12) - 1))) (r47 + 7) 50 l2))] [.ref (b + 53), .ref (b + 51)] dX2_enter_73 tG_2_100 tM_96 rfl rfl rfl rfl (by decide) ?_
  refine gC.mono (c_aI sa b E _ _ (lP_2 hq_r65) (by decide) (aI_rg _ _ _ _)) (Nat.le_refl _) ?_
  rintro _ _ ⟨rfl, h9⟩
  obtain rfl := h9.symm
  refine g_aload_n dX2_enter_76 rfl ?_
  refine g_getZ (v := vI T 51 15) dX2_enter_77 tF_2_85 lD_51 rfl (zI_v T 51 15) ?_
  refine g_aload_n dX2_enter_80 rfl ?_
  refine g_getJv (v := T.2.1 51 16) dX2_enter_81 tF_2_88 lD_51 rfl rfl ?_
  refine g_lload_n dX2_enter_84 rfl ?_
  refine g_l2iZ dX2_enter_85 ?_
  refine g_callV [.ref (b + 53), .int (zI (aI (gI T 51 12 (zI ((vI T 51 12) - 1))) (r65 + 2) 200 (aI (gI T 51 12 (zI ((vI T 51 12) - 1))) (r47 + 7) 50 l2))), .int (zI (vI T 51 15)), .long (T.2.1 51 16), .int (zI (l3.toInt32.toInt))] [.ref (b + 51)] dX2_enter_86 tG_2_144 tM_2 lD_53 rfl rfl rfl rfl (by decide) rfl ?_
  refine gC.mono h (Nat.le_refl _) ?_
  rintro _ T86 ⟨v86, rfl, h⟩
  refine g_putI dX2_enter_89 tF_2_75 lD_51 rfl rfl ⟨rfl, rfl⟩ rfl ?_
  refine g_aload_n dX2_enter_92 rfl ?_
  refine g_aload_n dX2_enter_93 rfl ?_
  obtain ⟨r94, hq_r94, e_r94, h⟩ := h
  refine g_getVZ (o := r94) dX2_enter_94 tF_2_50 lD_51 rfl e_r94 (q_lt hq_r94) ?_
  refine g_iload dX2_enter_97 rfl ?_
  refine g_iconst (v := zI 0) dX2_enter_99 (by decide) ?_
  refine g_callV [.ref (b + r94), .int (zI (aI (gI T 51 12 (zI ((vI T 51 12) - 1))) (r47 + 7) 50 l2)), .int (zI 0)] [.ref (b + 51)] dX2_enter_100 tG_2_138 tM_39 (lP_0 hq_r94) rfl rfl rfl rfl (by decide) rfl ?_
  refine gC.mono (c_part sa b E _ _ hq_r94 (aI_rg _ _ _ _) (by decide)) (Nat.le_refl _) ?_
  rintro _ _ ⟨rfl, h9⟩
  obtain rfl := h9.symm
  refine g_putI dX2_enter_103 tF_2_72 lD_51 rfl rfl ⟨rfl, rfl⟩ rfl ?_
  exact g_vret dX2_enter_106 rfl h
def f_X3_addCopies (sa : Nat → Nat) (b : Nat) (E : Nat × mH) (d : Nat) (l0 : Nat) (l1 : Nat) (l2 : Int) (l3 : Int) (l4 : Int) (T : gT) (Q : Option Value → gT → Prop) : Prop := (-2147483648 ≤ l2 ∧ l2 < 2147483648) ∧ gW (tP sa) lD b E (d + 1) mX3_addCopies 7 [some (.ref (b + l0)), some (.ref (b + l1)), some (.int (zI l2)), some (.int (zI l3)), some (.int (zI l4)), some (.int (zI (if l2 < 0 then 0 else l2))), none, none] [] T Q
set_option maxRecDepth 4000 in
theorem w_X3_addCopies {sa : Nat → Nat} {b : Nat} {E : Nat × mH} {d : Nat} {l0 : Nat} {l1 : Nat} {l2 : Int} {l3 : Int} {l4 : Int} {T : gT} {Q : Option Value → gT → Prop} (hq_l0 : l0 = 2 ∨ l0 = 21) (hq_l1 : l1 = 2 ∨ l1 = 21) (h : f_X3_addCopies sa b E d l0 l1 l2 l3 l4 T Q) : gC (tP sa) lD b E (d + 1) mX3_addCopies [.ref (b + l0), .ref (b + l1), .int (zI l2), .int (zI l3), .int (zI l4)] T Q := by
  unfold f_X3_addCopies at h
  refine ⟨Nat.le_of_ble_eq_true rfl, ?_⟩
  show gW (tP sa) lD b E (d + 1) mX3_addCopies 0 [some (.ref (b + l0)), some (.ref (b + l1)), some (.int (zI l2)), some (.int (zI l3)), some (.int (zI l4)), none, none, none] [] T Q
  refine g_iload_n dX3_addCopies_0 rfl ?_
  refine g_iconst (v := zI 0) dX3_addCopies_1 (by decide) ?_
  obtain ⟨a1, h⟩ := h
  refine g_primS (st1 := [.int (zI (if l2 < 0 then 0 else l2))]) dX3_addCopies_2 tG_3_63 rfl (fun S9 => congrArg (fun v9 => some (Value.int v9 :: _, S9)) (zI_max (x := l2) (y := 0) a1 (by decide))) rfl ?_
  refine g_istore (L' := [some (.ref (b + l0)), some (.ref (b + l1)), some (.int (zI l2)), some (.int (zI l3)), some (.int (zI l4)), some (.int (zI (if l2 < 0 then 0 else l2))), none, none]) dX3_addCopies_5 rfl ?_
  exact h
def f_X3_addCopies_7 (sa : Nat → Nat) (b : Nat) (E : Nat × mH) (d : Nat) (l0 : Nat) (l1 : Nat) (l2 : Int) (l3 : Int) (l4 : Int) (l5 : Int) (T : gT) (Q : Option Value → gT → Prop) : Prop := (-2147483648 ≤ l5 ∧ l5 < 2147483648) ∧ (-2147483648 ≤ l3 ∧ l3 < 2147483648) ∧ ((l3 ≤ l5 → Q none T) ∧ (¬ l3 ≤ l5 → (((vI T l1 0) ≤ l5 → Q none T) ∧ (¬ (vI T l1 0) ≤ l5 → 0 ≤ l5 ∧ l5 < 200 ∧ (((vI T (l1 + 1) l5.toNat) = 0 → gW (tP sa) lD b E (d + 1) mX3_addCopies 41 [some (.ref (b + l0)), some (.ref (b + l1)), some (.int (zI l2)), some (.int (zI l3)), some (.int (zI l4)), some (.int (zI l5)), none, none] [] T Q) ∧ (¬ (vI T (l1 + 1) l5.toNat) = 0 → gC (tP sa) lD b E d mX3_variablesOf [.ref (b + l1), .int (zI l5)] T (fun r T35 => pI r (fun v35 => (-2147483648 ≤ v35 ∧ v35 < 2147483648) ∧ ((v35 ≤ 0 → gW (tP sa) lD b E (d + 1) mX3_addCopies 46 [some (.ref (b + l0)), some (.ref (b + l1)), some (.int (zI l2)), some (.int (zI l3)), some (.int (zI l4)), some (.int (zI l5)), none, none] [.int (zI 0)] T35 Q) ∧ (¬ v35 ≤ 0 → gW (tP sa) lD b E (d + 1) mX3_addCopies 41 [some (.ref (b + l0)), some (.ref (b + l1)), some (.int (zI l2)), some (.int (zI l3)), some (.int (zI l4)), some (.int (zI l5)), none, none] [] T35 Q))))))))))
set_option maxRecDepth 4000 in
theorem w_X3_addCopies_7 {sa : Nat → Nat} {b : Nat} {E : Nat × mH} {d : Nat} {l0 : Nat} {l1 : Nat} {l2 : Int} {l3 : Int} {l4 : Int} {l5 : Int} {T : gT} {Q : Option Value → gT → Prop} (hq_l0 : l0 = 2 ∨ l0 = 21) (hq_l1 : l1 = 2 ∨ l1 = 21) (h : f_X3_addCopies_7 sa b E d l0 l1 l2 l3 l4 l5 T Q) : gW (tP sa) lD b E (d + 1) mX3_addCopies 7 [some (.ref (b + l0)), some (.ref (b + l1)), some (.int (zI l2)), some (.int (zI l3)), some (.int (zI l4)), some (.int (zI l5)), none, none] [] T Q := by
  unfold f_X3_addCopies_7 at h
  refine g_iload dX3_addCopies_7 rfl ?_
  refine g_iload_n dX3_addCopies_9 rfl ?_
  obtain ⟨a1, h⟩ := h
  obtain ⟨a2, h⟩ := h
  refine g_icmp_geZ dX3_addCopies_10 rfl a1 a2 (fun c10 => ?_) (fun c10 => ?_)
  · replace h := h.1 c10
    exact g_vret dX3_addCopies_110 rfl h
  · replace h := h.2 c10
    refine g_iload dX3_addCopies_13 rfl ?_
    refine g_aload_n dX3_addCopies_15 rfl ?_
    refine g_getZ (v := vI T l1 0) dX3_addCopies_16 tF_3_59 (lP_0 hq_l1) rfl (zI_v _ _ _) ?_
    refine g_icmp_geZ dX3_addCopies_19 rfl a1 ⟨vI_lo _ _ _, vI_hi _ _ _⟩ (fun c19 => ?_) (fun c19 => ?_)
    · replace h := h.1 c19
      exact g_vret dX3_addCopies_110 rfl h
    · replace h := h.2 c19
      refine g_aload_n dX3_addCopies_22 rfl ?_
      refine g_getR dX3_addCopies_23 tF_3_9 (lP_0 hq_l1) rfl ?_
      refine g_iload dX3_addCopies_26 rfl ?_
      obtain ⟨a3, h⟩ := h
      obtain ⟨a4, h⟩ := h
      refine g_ialdZ (v := vI T (l1 + 1) l5.toNat) dX3_addCopies_28 (lP_1 hq_l1) a3 a4 (by decide) (zI_v T (l1 + 1) l5.toNat) ?_
      refine g_if_eqZ dX3_addCopies_29 rfl ⟨vI_lo _ _ _, vI_hi _ _ _⟩  (fun c29 => ?_) (fun c29 => ?_)
      · replace h := h.1 c29
        exact h
      · replace h := h.2 c29
        refine g_aload_n dX3_addCopies_32 rfl ?_
        refine g_iload dX3_addCopies_33 rfl ?_
        refine g_callV [.ref (b + l1), .int (zI l5)] [] dX3_addCopies_35 tG_3_69 tM_43 (lP_0 hq_l1) rfl rfl rfl rfl (by decide) rfl ?_
        refine gC.mono h (Nat.le_refl _) ?_
        rintro _ T35 ⟨v35, rfl, h⟩
        obtain ⟨a5, h⟩ := h
        refine g_if_leZ dX3_addCopies_38 rfl a5  (fun c38 => ?_) (fun c38 => ?_)
        · replace h := h.1 c38
          refine g_iconst (v := zI 0) dX3_addCopies_45 (by decide) ?_
          exact h
        · replace h := h.2 c38
          exact h
def f_X3_addCopies_41 (sa : Nat → Nat) (b : Nat) (E : Nat × mH) (d : Nat) (l0 : Nat) (l1 : Nat) (l2 : Int) (l3 : Int) (l4 : Int) (l5 : Int) (T : gT) (Q : Option Value → gT → Prop) : Prop := gW (tP sa) lD b E (d + 1) mX3_addCopies 46 [some (.ref (b + l0)), some (.ref (b + l1)), some (.int (zI l2)), some (.int (zI l3)), some (.int (zI l4)), some (.int (zI l5)), none, none] [.int (zI 1)] T Q
set_option maxRecDepth 4000 in
theorem w_X3_addCopies_41 {sa : Nat → Nat} {b : Nat} {E : Nat × mH} {d : Nat} {l0 : Nat} {l1 : Nat} {l2 : Int} {l3 : Int} {l4 : Int} {l5 : Int} {T : gT} {Q : Option Value → gT → Prop} (hq_l0 : l0 = 2 ∨ l0 = 21) (hq_l1 : l1 = 2 ∨ l1 = 21) (h : f_X3_addCopies_41 sa b E d l0 l1 l2 l3 l4 l5 T Q) : gW (tP sa) lD b E (d + 1) mX3_addCopies 41 [some (.ref (b + l0)), some (.ref (b + l1)), some (.int (zI l2)), some (.int (zI l3)), some (.int (zI l4)), some (.int (zI l5)), none, none] [] T Q := by
  unfold f_X3_addCopies_41 at h
  refine g_iconst (v := zI 1) dX3_addCopies_41 (by decide) ?_
  refine g_goto dX3_addCopies_42 rfl ?_
  exact h
def f_X3_addCopies_46 (sa : Nat → Nat) (b : Nat) (E : Nat × mH) (d : Nat) (l0 : Nat) (l1 : Nat) (l2 : Int) (l3 : Int) (l4 : Int) (l5 : Int) (s0 : Int) (T : gT) (Q : Option Value → gT → Prop) : Prop := 0 ≤ l5 ∧ l5 < 200 ∧ ((¬ (vI T (l1 + 1) l5.toNat) = 3 → gW (tP sa) lD b E (d + 1) mX3_addCopies 64 [some (.ref (b + l0)), some (.ref (b + l1)), some (.int (zI l2)), some (.int (zI l3)), some (.int (zI l4)), some (.int (zI l5)), some (.int (zI s0)), none] [.int (zI 0)] T Q) ∧ ((vI T (l1 + 1) l5.toNat) = 3 → gW (tP sa) lD b E (d + 1) mX3_addCopies 64 [some (.ref (b + l0)), some (.ref (b + l1)), some (.int (zI l2)), some (.int (zI l3)), some (.int (zI l4)), some (.int (zI l5)), some (.int (zI s0)), none] [.int (zI 1)] T Q))
set_option maxRecDepth 4000 in
theorem w_X3_addCopies_46 {sa : Nat → Nat} {b : Nat} {E : Nat × mH} {d : Nat} {l0 : Nat} {l1 : Nat} {l2 : Int} {l3 : Int} {l4 : Int} {l5 : Int} {s0 : Int} {T : gT} {Q : Option Value → gT → Prop} (hq_l0 : l0 = 2 ∨ l0 = 21) (hq_l1 : l1 = 2 ∨ l1 = 21) (h : f_X3_addCopies_46 sa b E d l0 l1 l2 l3 l4 l5 s0 T Q) : gW (tP sa) lD b E (d + 1) mX3_addCopies 46 [some (.ref (b + l0)), some (.ref (b + l1)), some (.int (zI l2)), some (.int (zI l3)), some (.int (zI l4)), some (.int (zI l5)), none, none] [.int (zI s0)] T Q := by
  unfold f_X3_addCopies_46 at h
  refine g_istore (L' := [some (.ref (b + l0)), some (.ref (b + l1)), some (.int (zI l2)), some (.int (zI l3)), some (.int (zI l4)), some (.int (zI l5)), some (.int (zI s0)), none]) dX3_addCopies_46 rfl ?_
  refine g_aload_n dX3_addCopies_48 rfl ?_
  refine g_getR dX3_addCopies_49 tF_3_9 (lP_0 hq_l1) rfl ?_
  refine g_iload dX3_addCopies_52 rfl ?_
  obtain ⟨a1, h⟩ := h
  obtain ⟨a2, h⟩ := h
  refine g_ialdZ (v := vI T (l1 + 1) l5.toNat) dX3_addCopies_54 (lP_1 hq_l1) a1 a2 (by decide) (zI_v T (l1 + 1) l5.toNat) ?_
  refine g_iconst (v := zI 3) dX3_addCopies_55 (by decide) ?_
  refine g_icmp_neZ dX3_addCopies_56 rfl ⟨vI_lo _ _ _, vI_hi _ _ _⟩ (by decide) (fun c56 => ?_) (fun c56 => ?_)
  · replace h := h.1 c56
    refine g_iconst (v := zI 0) dX3_addCopies_63 (by decide) ?_
    exact h
  · replace h := h.2 c56
    refine g_iconst (v := zI 1) dX3_addCopies_59 (by decide) ?_
    refine g_goto dX3_addCopies_60 rfl ?_
    exact h
def f_X3_addCopies_64 (sa : Nat → Nat) (b : Nat) (E : Nat × mH) (d : Nat) (l0 : Nat) (l1 : Nat) (l2 : Int) (l3 : Int) (l4 : Int) (l5 : Int) (l6 : Int) (s0 : Int) (T : gT) (Q : Option Value → gT → Prop) : Prop := 0 ≤ l5 ∧ l5 < 200 ∧ gC (tP sa) lD b E d mX3_add [.ref (b + l0), .int (zI (vI T (l1 + 1) l5.toNat)), .int (zI ((vI T (l1 + 2) l5.toNat) + (l6 * l4))), .int (zI ((vI T (l1 + 3) l5.toNat) + (s0 * l4)))] T (fun r T100 => pI r (fun v100 => gW (tP sa) lD b E (d + 1) mX3_addCopies 7 [some (.ref (b + l0)), some (.ref (b + l1)), some (.int (zI l2)), some (.int (zI l3)), some (.int (zI l4)), some (.int (zI (l5 + 1))), some (.int (zI l6)), some (.int (zI s0))] [] T100 Q))
set_option maxRecDepth 4000 in
theorem w_X3_addCopies_64 {sa : Nat → Nat} {b : Nat} {E : Nat × mH} {d : Nat} {l0 : Nat} {l1 : Nat} {l2 : Int} {l3 : Int} {l4 : Int} {l5 : Int} {l6 : Int} {s0 : Int} {T : gT} {Q : Option Value → gT → Prop} (hq_l0 : l0 = 2 ∨ l0 = 21) (hq_l1 : l1 = 2 ∨ l1 = 21) (h : f_X3_addCopies_64 sa b E d l0 l1 l2 l3 l4 l5 l6 s0 T Q) : gW (tP sa) lD b E (d + 1) mX3_addCopies 64 [some (.ref (b + l0)), some (.ref (b + l1)), some (.int (zI l2)), some (.int (zI l3)), some (.int (zI l4)), some (.int (zI l5)), some (.int (zI l6)), none] [.int (zI s0)] T Q := by
  unfold f_X3_addCopies_64 at h
  refine g_istore (L' := [some (.ref (b + l0)), some (.ref (b + l1)), some (.int (zI l2)), some (.int (zI l3)), some (.int (zI l4)), some (.int (zI l5)), some (.int (zI l6)), some (.int (zI s0))]) dX3_addCopies_64 rfl ?_
  refine g_aload_n dX3_addCopies_66 rfl ?_
  refine g_aload_n dX3_addCopies_67 rfl ?_
  refine g_getR dX3_addCopies_68 tF_3_9 (lP_0 hq_l1) rfl ?_
  refine g_iload dX3_addCopies_71 rfl ?_
  obtain ⟨a1, h⟩ := h
  obtain ⟨a2, h⟩ := h
  refine g_ialdZ (v := vI T (l1 + 1) l5.toNat) dX3_addCopies_73 (lP_1 hq_l1) a1 a2 (by decide) (zI_v T (l1 + 1) l5.toNat) ?_
  refine g_aload_n dX3_addCopies_74 rfl ?_
  refine g_getR dX3_addCopies_75 tF_3_15 (lP_0 hq_l1) rfl ?_
  refine g_iload dX3_addCopies_78 rfl ?_
  refine g_ialdZ (v := vI T (l1 + 2) l5.toNat) dX3_addCopies_80 (lP_2 hq_l1) a1 a2 (by decide) (zI_v T (l1 + 2) l5.toNat) ?_
  refine g_iload dX3_addCopies_81 rfl ?_
  refine g_iload dX3_addCopies_83 rfl ?_
  refine g_imulZ dX3_addCopies_85 ?_
  refine g_iaddZ dX3_addCopies_86 ?_
  refine g_aload_n dX3_addCopies_87 rfl ?_
  refine g_getR dX3_addCopies_88 tF_3_18 (lP_0 hq_l1) rfl ?_
  refine g_iload dX3_addCopies_91 rfl ?_
  refine g_ialdZ (v := vI T (l1 + 3) l5.toNat) dX3_addCopies_93 (lP_3 hq_l1) a1 a2 (by decide) (zI_v T (l1 + 3) l5.toNat) ?_
  refine g_iload dX3_addCopies_94 rfl ?_
  refine g_iload dX3_addCopies_96 rfl ?_
  refine g_imulZ dX3_addCopies_98 ?_
  refine g_iaddZ dX3_addCopies_99 ?_
  refine g_callV [.ref (b + l0), .int (zI (vI T (l1 + 1) l5.toNat)), .int (zI ((vI T (l1 + 2) l5.toNat) + (l6 * l4))), .int (zI ((vI T (l1 + 3) l5.toNat) + (s0 * l4)))] [] dX3_addCopies_100 tG_3_73 tM_29 (lP_0 hq_l0) rfl rfl rfl rfl (by decide) rfl ?_
  refine gC.mono h (Nat.le_refl _) ?_
  rintro _ T100 ⟨v100, rfl, h⟩
  refine g_pop dX3_addCopies_103 rfl ?_
  refine g_iinc (x := zI l5) (v := zI (l5 + 1)) (L' := [some (.ref (b + l0)), some (.ref (b + l1)), some (.int (zI l2)), some (.int (zI l3)), some (.int (zI l4)), some (.int (zI (l5 + 1))), some (.int (zI l6)), some (.int (zI s0))]) dX3_addCopies_104 rfl (zI_add _ _) rfl ?_
  refine g_goto dX3_addCopies_107 rfl ?_
  exact h
def f_X3_addCopies_7b (sa : Nat → Nat) (b : Nat) (E : Nat × mH) (d : Nat) (l0 : Nat) (l1 : Nat) (l2 : Int) (l3 : Int) (l4 : Int) (l5 : Int) (l6 : Int) (l7 : Int) (T : gT) (Q : Option Value → gT → Prop) : Prop := (-2147483648 ≤ l5 ∧ l5 < 2147483648) ∧ (-2147483648 ≤ l3 ∧ l3 < 2147483648) ∧ ((l3 ≤ l5 → Q none T) ∧ (¬ l3 ≤ l5 → (((vI T l1 0) ≤ l5 → Q none T) ∧ (¬ (vI T l1 0) ≤ l5 → 0 ≤ l5 ∧ l5 < 200 ∧ (((vI T (l1 + 1) l5.toNat) = 0 → gW (tP sa) lD b E (d + 1) mX3_addCopies 41 [some (.ref (b + l0)), some (.ref (b + l1)), some (.int (zI l2)), some (.int (zI l3)), some (.int (zI l4)), some (.int (zI l5)), some (.int (zI l6)), some (.int (zI l7))] [] T Q) ∧ (¬ (vI T (l1 + 1) l5.toNat) = 0 → gC (tP sa) lD b E d mX3_variablesOf [.ref (b + l1), .int (zI l5)] T (fun r T35 => pI r (fun v35 => (-2147483648 ≤ v35 ∧ v35 < 2147483648) ∧ ((v35 ≤ 0 → gW (tP sa) lD b E (d + 1) mX3_addCopies 46 [some (.ref (b + l0)), some (.ref (b + l1)), some (.int (zI l2)), some (.int (zI l3)), some (.int (zI l4)), some (.int (zI l5)), some (.int (zI l6)), some (.int (zI l7))] [.int (zI 0)] T35 Q) ∧ (¬ v35 ≤ 0 → gW (tP sa) lD b E (d + 1) mX3_addCopies 41 [some (.ref (b + l0)), some (.ref (b + l1)), some (.int (zI l2)), some (.int (zI l3)), some (.int (zI l4)), some (.int (zI l5)), some (.int (zI l6)), some (.int (zI l7))] [] T35 Q))))))))))
set_option maxRecDepth 4000 in
theorem w_X3_addCopies_7b {sa : Nat → Nat} {b : Nat} {E : Nat × mH} {d : Nat} {l0 : Nat} {l1 : Nat} {l2 : Int} {l3 : Int} {l4 : Int} {l5 : Int} {l6 : Int} {l7 : Int} {T : gT} {Q : Option Value → gT → Prop} (hq_l0 : l0 = 2 ∨ l0 = 21) (hq_l1 : l1 = 2 ∨ l1 = 21) (h : f_X3_addCopies_7b sa b E d l0 l1 l2 l3 l4 l5 l6 l7 T Q) : gW (tP sa) lD b E (d + 1) mX3_addCopies 7 [some (.ref (b + l0)), some (.ref (b + l1)), some (.int (zI l2)), some (.int (zI l3)), some (.int (zI l4)), some (.int (zI l5)), some (.int (zI l6)), some (.int (zI l7))] [] T Q := by
  unfold f_X3_addCopies_7b at h
  refine g_iload dX3_addCopies_7 rfl ?_
  refine g_iload_n dX3_addCopies_9 rfl ?_
  obtain ⟨a1, h⟩ := h
  obtain ⟨a2, h⟩ := h
  refine g_icmp_geZ dX3_addCopies_10 rfl a1 a2 (fun c10 => ?_) (fun c10 => ?_)
  · replace h := h.1 c10
    exact g_vret dX3_addCopies_110 rfl h
  · replace h := h.2 c10
    refine g_iload dX3_addCopies_13 rfl ?_
    refine g_aload_n dX3_addCopies_15 rfl ?_
    refine g_getZ (v := vI T l1 0) dX3_addCopies_16 tF_3_59 (lP_0 hq_l1) rfl (zI_v _ _ _) ?_
    refine g_icmp_geZ dX3_addCopies_19 rfl a1 ⟨vI_lo _ _ _, vI_hi _ _ _⟩ (fun c19 => ?_) (fun c19 => ?_)
    · replace h := h.1 c19
      exact g_vret dX3_addCopies_110 rfl h
    · replace h := h.2 c19
      refine g_aload_n dX3_addCopies_22 rfl ?_
      refine g_getR dX3_addCopies_23 tF_3_9 (lP_0 hq_l1) rfl ?_
      refine g_iload dX3_addCopies_26 rfl ?_
      obtain ⟨a3, h⟩ := h
      obtain ⟨a4, h⟩ := h
      refine g_ialdZ (v := vI T (l1 + 1) l5.toNat) dX3_addCopies_28 (lP_1 hq_l1) a3 a4 (by decide) (zI_v T (l1 + 1) l5.toNat) ?_
      refine g_if_eqZ dX3_addCopies_29 rfl ⟨vI_lo _ _ _, vI_hi _ _ _⟩  (fun c29 => ?_) (fun c29 => ?_)
      · replace h := h.1 c29
        exact h
      · replace h := h.2 c29
        refine g_aload_n dX3_addCopies_32 rfl ?_
        refine g_iload dX3_addCopies_33 rfl ?_
        refine g_callV [.ref (b + l1), .int (zI l5)] [] dX3_addCopies_35 tG_3_69 tM_43 (lP_0 hq_l1) rfl rfl rfl rfl (by decide) rfl ?_
        refine gC.mono h (Nat.le_refl _) ?_
        rintro _ T35 ⟨v35, rfl, h⟩
        obtain ⟨a5, h⟩ := h
        refine g_if_leZ dX3_addCopies_38 rfl a5  (fun c38 => ?_) (fun c38 => ?_)
        · replace h := h.1 c38
          refine g_iconst (v := zI 0) dX3_addCopies_45 (by decide) ?_
          exact h
        · replace h := h.2 c38
          exact h
def f_X3_addCopies_41b (sa : Nat → Nat) (b : Nat) (E : Nat × mH) (d : Nat) (l0 : Nat) (l1 : Nat) (l2 : Int) (l3 : Int) (l4 : Int) (l5 : Int) (l6 : Int) (l7 : Int) (T : gT) (Q : Option Value → gT → Prop) : Prop := gW (tP sa) lD b E (d + 1) mX3_addCopies 46 [some (.ref (b + l0)), some (.ref (b + l1)), some (.int (zI l2)), some (.int (zI l3)), some (.int (zI l4)), some (.int (zI l5)), some (.int (zI l6)), some (.int (zI l7))] [.int (zI 1)] T Q
set_option maxRecDepth 4000 in
theorem w_X3_addCopies_41b {sa : Nat → Nat} {b : Nat} {E : Nat × mH} {d : Nat} {l0 : Nat} {l1 : Nat} {l2 : Int} {l3 : Int} {l4 : Int} {l5 : Int} {l6 : Int} {l7 : Int} {T : gT} {Q : Option Value → gT → Prop} (hq_l0 : l0 = 2 ∨ l0 = 21) (hq_l1 : l1 = 2 ∨ l1 = 21) (h : f_X3_addCopies_41b sa b E d l0 l1 l2 l3 l4 l5 l6 l7 T Q) : gW (tP sa) lD b E (d + 1) mX3_addCopies 41 [some (.ref (b + l0)), some (.ref (b + l1)), some (.int (zI l2)), some (.int (zI l3)), some (.int (zI l4)), some (.int (zI l5)), some (.int (zI l6)), some (.int (zI l7))] [] T Q := by
  unfold f_X3_addCopies_41b at h
  refine g_iconst (v := zI 1) dX3_addCopies_41 (by decide) ?_
  refine g_goto dX3_addCopies_42 rfl ?_
  exact h
def f_X3_addCopies_46b (sa : Nat → Nat) (b : Nat) (E : Nat × mH) (d : Nat) (l0 : Nat) (l1 : Nat) (l2 : Int) (l3 : Int) (l4 : Int) (l5 : Int) (l6 : Int) (l7 : Int) (s0 : Int) (T : gT) (Q : Option Value → gT → Prop) : Prop := 0 ≤ l5 ∧ l5 < 200 ∧ ((¬ (vI T (l1 + 1) l5.toNat) = 3 → gW (tP sa) lD b E (d + 1) mX3_addCopies 64 [some (.ref (b + l0)), some (.ref (b + l1)), some (.int (zI l2)), some (.int (zI l3)), some (.int (zI l4)), some (.int (zI l5)), some (.int (zI s0)), some (.int (zI l7))] [.int (zI 0)] T Q) ∧ ((vI T (l1 + 1) l5.toNat) = 3 → gW (tP sa) lD b E (d + 1) mX3_addCopies 64 [some (.ref (b + l0)), some (.ref (b + l1)), some (.int (zI l2)), some (.int (zI l3)), some (.int (zI l4)), some (.int (zI l5)), some (.int (zI s0)), some (.int (zI l7))] [.int (zI 1)] T Q))
set_option maxRecDepth 4000 in
theorem w_X3_addCopies_46b {sa : Nat → Nat} {b : Nat} {E : Nat × mH} {d : Nat} {l0 : Nat} {l1 : Nat} {l2 : Int} {l3 : Int} {l4 : Int} {l5 : Int} {l6 : Int} {l7 : Int} {s0 : Int} {T : gT} {Q : Option Value → gT → Prop} (hq_l0 : l0 = 2 ∨ l0 = 21) (hq_l1 : l1 = 2 ∨ l1 = 21) (h : f_X3_addCopies_46b sa b E d l0 l1 l2 l3 l4 l5 l6 l7 s0 T Q) : gW (tP sa) lD b E (d + 1) mX3_addCopies 46 [some (.ref (b + l0)), some (.ref (b + l1)), some (.int (zI l2)), some (.int (zI l3)), some (.int (zI l4)), some (.int (zI l5)), some (.int (zI l6)), some (.int (zI l7))] [.int (zI s0)] T Q := by
  unfold f_X3_addCopies_46b at h
  refine g_istore (L' := [some (.ref (b + l0)), some (.ref (b + l1)), some (.int (zI l2)), some (.int (zI l3)), some (.int (zI l4)), some (.int (zI l5)), some (.int (zI s0)), some (.int (zI l7))]) dX3_addCopies_46 rfl ?_
  refine g_aload_n dX3_addCopies_48 rfl ?_
  refine g_getR dX3_addCopies_49 tF_3_9 (lP_0 hq_l1) rfl ?_
  refine g_iload dX3_addCopies_52 rfl ?_
  obtain ⟨a1, h⟩ := h
  obtain ⟨a2, h⟩ := h
  refine g_ialdZ (v := vI T (l1 + 1) l5.toNat) dX3_addCopies_54 (lP_1 hq_l1) a1 a2 (by decide) (zI_v T (l1 + 1) l5.toNat) ?_
  refine g_iconst (v := zI 3) dX3_addCopies_55 (by decide) ?_
  refine g_icmp_neZ dX3_addCopies_56 rfl ⟨vI_lo _ _ _, vI_hi _ _ _⟩ (by decide) (fun c56 => ?_) (fun c56 => ?_)
  · replace h := h.1 c56
    refine g_iconst (v := zI 0) dX3_addCopies_63 (by decide) ?_
    exact h
  · replace h := h.2 c56
    refine g_iconst (v := zI 1) dX3_addCopies_59 (by decide) ?_
    refine g_goto dX3_addCopies_60 rfl ?_
    exact h
def f_X3_addCopies_64b (sa : Nat → Nat) (b : Nat) (E : Nat × mH) (d : Nat) (l0 : Nat) (l1 : Nat) (l2 : Int) (l3 : Int) (l4 : Int) (l5 : Int) (l6 : Int) (l7 : Int) (s0 : Int) (T : gT) (Q : Option Value → gT → Prop) : Prop := 0 ≤ l5 ∧ l5 < 200 ∧ gC (tP sa) lD b E d mX3_add [.ref (b + l0), .int (zI (vI T (l1 + 1) l5.toNat)), .int (zI ((vI T (l1 + 2) l5.toNat) + (l6 * l4))), .int (zI ((vI T (l1 + 3) l5.toNat) + (s0 * l4)))] T (fun r T100 => pI r (fun v100 => gW (tP sa) lD b E (d + 1) mX3_addCopies 7 [some (.ref (b + l0)), some (.ref (b + l1)), some (.int (zI l2)), some (.int (zI l3)), some (.int (zI l4)), some (.int (zI (l5 + 1))), some (.int (zI l6)), some (.int (zI s0))] [] T100 Q))
set_option maxRecDepth 4000 in
theorem w_X3_addCopies_64b {sa : Nat → Nat} {b : Nat} {E : Nat × mH} {d : Nat} {l0 : Nat} {l1 : Nat} {l2 : Int} {l3 : Int} {l4 : Int} {l5 : Int} {l6 : Int} {l7 : Int} {s0 : Int} {T : gT} {Q : Option Value → gT → Prop} (hq_l0 : l0 = 2 ∨ l0 = 21) (hq_l1 : l1 = 2 ∨ l1 = 21) (h : f_X3_addCopies_64b sa b E d l0 l1 l2 l3 l4 l5 l6 l7 s0 T Q) : gW (tP sa) lD b E (d + 1) mX3_addCopies 64 [some (.ref (b + l0)), some (.ref (b + l1)), some (.int (zI l2)), some (.int (zI l3)), some (.int (zI l4)), some (.int (zI l5)), some (.int (zI l6)), some (.int (zI l7))] [.int (zI s0)] T Q := by
  unfold f_X3_addCopies_64b at h
  refine g_istore (L' := [some (.ref (b + l0)), some (.ref (b + l1)), some (.int (zI l2)), some (.int (zI l3)), some (.int (zI l4)), some (.int (zI l5)), some (.int (zI l6)), some (.int (zI s0))]) dX3_addCopies_64 rfl ?_
  refine g_aload_n dX3_addCopies_66 rfl ?_
  refine g_aload_n dX3_addCopies_67 rfl ?_
  refine g_getR dX3_addCopies_68 tF_3_9 (lP_0 hq_l1) rfl ?_
  refine g_iload dX3_addCopies_71 rfl ?_
  obtain ⟨a1, h⟩ := h
  obtain ⟨a2, h⟩ := h
  refine g_ialdZ (v := vI T (l1 + 1) l5.toNat) dX3_addCopies_73 (lP_1 hq_l1) a1 a2 (by decide) (zI_v T (l1 + 1) l5.toNat) ?_
  refine g_aload_n dX3_addCopies_74 rfl ?_
  refine g_getR dX3_addCopies_75 tF_3_15 (lP_0 hq_l1) rfl ?_
  refine g_iload dX3_addCopies_78 rfl ?_
  refine g_ialdZ (v := vI T (l1 + 2) l5.toNat) dX3_addCopies_80 (lP_2 hq_l1) a1 a2 (by decide) (zI_v T (l1 + 2) l5.toNat) ?_
  refine g_iload dX3_addCopies_81 rfl ?_
  refine g_iload dX3_addCopies_83 rfl ?_
  refine g_imulZ dX3_addCopies_85 ?_
  refine g_iaddZ dX3_addCopies_86 ?_
  refine g_aload_n dX3_addCopies_87 rfl ?_
  refine g_getR dX3_addCopies_88 tF_3_18 (lP_0 hq_l1) rfl ?_
  refine g_iload dX3_addCopies_91 rfl ?_
  refine g_ialdZ (v := vI T (l1 + 3) l5.toNat) dX3_addCopies_93 (lP_3 hq_l1) a1 a2 (by decide) (zI_v T (l1 + 3) l5.toNat) ?_
  refine g_iload dX3_addCopies_94 rfl ?_
  refine g_iload dX3_addCopies_96 rfl ?_
  refine g_imulZ dX3_addCopies_98 ?_
  refine g_iaddZ dX3_addCopies_99 ?_
  refine g_callV [.ref (b + l0), .int (zI (vI T (l1 + 1) l5.toNat)), .int (zI ((vI T (l1 + 2) l5.toNat) + (l6 * l4))), .int (zI ((vI T (l1 + 3) l5.toNat) + (s0 * l4)))] [] dX3_addCopies_100 tG_3_73 tM_29 (lP_0 hq_l0) rfl rfl rfl rfl (by decide) rfl ?_
  refine gC.mono h (Nat.le_refl _) ?_
  rintro _ T100 ⟨v100, rfl, h⟩
  refine g_pop dX3_addCopies_103 rfl ?_
  refine g_iinc (x := zI l5) (v := zI (l5 + 1)) (L' := [some (.ref (b + l0)), some (.ref (b + l1)), some (.int (zI l2)), some (.int (zI l3)), some (.int (zI l4)), some (.int (zI (l5 + 1))), some (.int (zI l6)), some (.int (zI s0))]) dX3_addCopies_104 rfl (zI_add _ _) rfl ?_
  refine g_goto dX3_addCopies_107 rfl ?_
  exact h
def f_X3_variablesOf (sa : Nat → Nat) (b : Nat) (E : Nat × mH) (d : Nat) (l0 : Nat) (l1 : Int) (T : gT) (Q : Option Value → gT → Prop) : Prop := (-2147483648 ≤ l1 ∧ l1 < 2147483648) ∧ (((aI T (l0 + 1) 200 l1) = 2 → Q (some (.int (zI 1))) T) ∧ ((aI T (l0 + 1) 200 l1) = 3 → Q (some (.int (zI 2))) T) ∧ ((aI T (l0 + 1) 200 l1) = 5 → Q (some (.int (zI 1))) T) ∧ ((¬ (aI T (l0 + 1) 200 l1) = 2 ∧ ¬ (aI T (l0 + 1) 200 l1) = 3 ∧ ¬ (aI T (l0 + 1) 200 l1) = 5) → Q (some (.int (zI 0))) T))
set_option maxRecDepth 4000 in
theorem w_X3_variablesOf {sa : Nat → Nat} {b : Nat} {E : Nat × mH} {d : Nat} {l0 : Nat} {l1 : Int} {T : gT} {Q : Option Value → gT → Prop} (hq_l0 : l0 = 2 ∨ l0 = 21) (h : f_X3_variablesOf sa b E d l0 l1 T Q) : gC (tP sa) lD b E (d + 1) mX3_variablesOf [.ref (b + l0), .int (zI l1)] T Q := by
  unfold f_X3_variablesOf at h
  refine ⟨Nat.le_of_ble_eq_true rfl, ?_⟩
  show gW (tP sa) lD b E (d + 1) mX3_variablesOf 0 [some (.ref (b + l0)), some (.int (zI l1))] [] T Q
  refine g_aload_n dX3_variablesOf_0 rfl ?_
  refine g_getR dX3_variablesOf_1 tF_3_9 (lP_0 hq_l0) rfl ?_
  refine g_iload_n dX3_variablesOf_4 rfl ?_
  obtain ⟨a1, h⟩ := h
  refine g_callS [.ref (b + (l0 + 1)), .int (zI l1)] [] dX3_variablesOf_5 tG_3_100 tM_96 rfl rfl rfl rfl (by decide) ?_
  refine gC.mono (c_aI sa b E _ _ (lP_1 hq_l0) (by decide) a1) (Nat.le_refl _) ?_
  rintro _ _ ⟨rfl, h9⟩
  obtain rfl := h9.symm
  by_cases c9 : (aI T (l0 + 1) 200 l1) = 2
  · replace h := h.1 c9
    refine g_tabC (c := 2) (off := 34) dX3_variablesOf_8 (aI_rg _ _ _ _) c9 (by decide) rfl rfl ?_
    refine g_iconst (v := zI 1) dX3_variablesOf_42 (by decide) ?_
    exact g_iret dX3_variablesOf_43 rfl rfl h
  have n0_8 := c9
  by_cases c9 : (aI T (l0 + 1) 200 l1) = 3
  · replace h := h.2.1 c9
    refine g_tabC (c := 3) (off := 32) dX3_variablesOf_8 (aI_rg _ _ _ _) c9 (by decide) rfl rfl ?_
    refine g_iconst (v := zI 2) dX3_variablesOf_40 (by decide) ?_
    exact g_iret dX3_variablesOf_41 rfl rfl h
  have n1_8 := c9
  by_cases c9 : (aI T (l0 + 1) 200 l1) = 5
  · replace h := h.2.2.1 c9
    refine g_tabC (c := 5) (off := 36) dX3_variablesOf_8 (aI_rg _ _ _ _) c9 (by decide) rfl rfl ?_
    refine g_iconst (v := zI 1) dX3_variablesOf_44 (by decide) ?_
    exact g_iret dX3_variablesOf_45 rfl rfl h
  have n2_8 := c9
  replace h := h.2.2.2 ⟨n0_8, n1_8, n2_8⟩
  have o7 : ¬ ((aI T (l0 + 1) 200 l1) < 2 ∨ 5 < (aI T (l0 + 1) 200 l1)) → (#[34, 32, 38, 36] : Array Int)[((aI T (l0 + 1) 200 l1) - 2).toNat]? = some 38 := by
    intro o9
    have o8 : (aI T (l0 + 1) 200 l1) = 4 := by omega
    rw [o8]; rfl
  refine g_tabD dX3_variablesOf_8 (aI_rg _ _ _ _) o7 rfl ?_
  refine g_iconst (v := zI 0) dX3_variablesOf_46 (by decide) ?_
  exact g_iret dX3_variablesOf_47 rfl rfl h
def f_X4_load (sa : Nat → Nat) (b : Nat) (E : Nat × mH) (d : Nat) (l2 : Int) (l3 : Nat) (T : gT) (Q : Option Value → gT → Prop) : Prop := (-2147483648 ≤ l2 ∧ l2 < 2147483648) ∧ (∃ r31 : Nat, (r31 = 2 ∨ r31 = 21) ∧ vI (gI (gI (gI (gI (gI T 40 0 (nI 1)) 40 1 (zI (if 400 < l2 then 400 else l2))) 40 2 (zI 0)) 40 3 (zI (-1))) 40 4 (nI l3)) 40 4 = (r31 : Int) ∧ gW (tP sa) lD b E (d + 1) mX4_load 64 [some (.ref (b + 40)), some (.ref (b + 1)), some (.int (zI l2)), some (.ref (b + l3)), some (.int (zI 1)), some (.int (zI 0))] [] (gI (gI (gI (gI (gI (gI (gI (gI (gI (gI T 40 0 (nI 1)) 40 1 (zI (if 400 < l2 then 400 else l2))) 40 2 (zI 0)) 40 3 (zI (-1))) 40 4 (nI l3)) r31 0 (zI 0)) 40 5 (zI 0)) 40 6 (zI 0)) 40 9 (zI 0)) 40 14 (zI 0)) Q)
set_option maxRecDepth 4000 in
theorem w_X4_load {sa : Nat → Nat} {b : Nat} {E : Nat × mH} {d : Nat} {l2 : Int} {l3 : Nat} {T : gT} {Q : Option Value → gT → Prop} (hq_l3 : l3 = 2 ∨ l3 = 21) (h : f_X4_load sa b E d l2 l3 T Q) : gC (tP sa) lD b E (d + 1) mX4_load [.ref (b + 40), .ref (b + 1), .int (zI l2), .ref (b + l3)] T Q := by
  unfold f_X4_load at h
  refine ⟨Nat.le_of_ble_eq_true rfl, ?_⟩
  show gW (tP sa) lD b E (d + 1) mX4_load 0 [some (.ref (b + 40)), some (.ref (b + 1)), some (.int (zI l2)), some (.ref (b + l3)), none, none] [] T Q
  refine g_aload_n dX4_load_0 rfl ?_
  refine g_aload_n dX4_load_1 rfl ?_
  refine g_putV dX4_load_2 tF_4_30 lD_40 rfl rfl (by first | exact Or.inl ⟨_, rfl⟩ | exact Or.inr ⟨_, rfl⟩) (by decide) rfl ?_
  refine g_aload_n dX4_load_5 rfl ?_
  refine g_iload_n dX4_load_6 rfl ?_
  refine g_aload_n dX4_load_7 rfl ?_
  refine g_alenZ (z := 400) dX4_load_8 lD_1 rfl ?_
  obtain ⟨a1, h⟩ := h
  refine g_primS (st1 := [.int (zI (if 400 < l2 then 400 else l2)), .ref (b + 40)]) dX4_load_9 tG_4_34 rfl (fun S9 => congrArg (fun v9 => some (Value.int v9 :: _, S9)) (zI_min (x := l2) (y := 400) a1 (by decide))) rfl ?_
  refine g_putI dX4_load_12 tF_4_40 lD_40 rfl rfl ⟨rfl, rfl⟩ rfl ?_
  refine g_aload_n dX4_load_15 rfl ?_
  refine g_iconst (v := zI 0) dX4_load_16 (by decide) ?_
  refine g_putI dX4_load_17 tF_4_44 lD_40 rfl rfl ⟨rfl, rfl⟩ rfl ?_
  refine g_aload_n dX4_load_20 rfl ?_
  refine g_iconst (v := zI (-1)) dX4_load_21 (by decide) ?_
  refine g_putI dX4_load_22 tF_4_47 lD_40 rfl rfl ⟨rfl, rfl⟩ rfl ?_
  refine g_aload_n dX4_load_25 rfl ?_
  refine g_aload_n dX4_load_26 rfl ?_
  refine g_putV dX4_load_27 tF_4_50 lD_40 rfl rfl (by first | exact Or.inl ⟨_, rfl⟩ | exact Or.inr ⟨_, rfl⟩) (q_lt2 hq_l3) rfl ?_
  refine g_aload_n dX4_load_30 rfl ?_
  obtain ⟨r31, hq_r31, e_r31, h⟩ := h
  refine g_getVZ (o := r31) dX4_load_31 tF_4_50 lD_40 rfl e_r31 (q_lt hq_r31) ?_
  refine g_iconst (v := zI 0) dX4_load_34 (by decide) ?_
  refine g_putI dX4_load_35 tF_4_54 (lP_0 hq_r31) rfl rfl ⟨rfl, rfl⟩ rfl ?_
  refine g_aload_n dX4_load_38 rfl ?_
  refine g_iconst (v := zI 0) dX4_load_39 (by decide) ?_
  refine g_putI dX4_load_40 tF_4_59 lD_40 rfl rfl ⟨rfl, rfl⟩ rfl ?_
  refine g_aload_n dX4_load_43 rfl ?_
  refine g_iconst (v := zI 0) dX4_load_44 (by decide) ?_
  refine g_putI dX4_load_45 tF_4_62 lD_40 rfl rfl ⟨rfl, rfl⟩ rfl ?_
  refine g_aload_n dX4_load_48 rfl ?_
  refine g_iconst (v := zI 0) dX4_load_49 (by decide) ?_
  refine g_putI dX4_load_50 tF_4_65 lD_40 rfl rfl ⟨rfl, rfl⟩ rfl ?_
  refine g_aload_n dX4_load_53 rfl ?_
  refine g_iconst (v := zI 0) dX4_load_54 (by decide) ?_
  refine g_putI dX4_load_55 tF_4_68 lD_40 rfl rfl ⟨rfl, rfl⟩ rfl ?_
  refine g_iconst (v := zI 1) dX4_load_58 (by decide) ?_
  refine g_istore (L' := [some (.ref (b + 40)), some (.ref (b + 1)), some (.int (zI l2)), some (.ref (b + l3)), some (.int (zI 1)), none]) dX4_load_59 rfl ?_
  refine g_iconst (v := zI 0) dX4_load_61 (by decide) ?_
  refine g_istore (L' := [some (.ref (b + 40)), some (.ref (b + 1)), some (.int (zI l2)), some (.ref (b + l3)), some (.int (zI 1)), some (.int (zI 0))]) dX4_load_62 rfl ?_
  exact h
def f_X4_load_64 (sa : Nat → Nat) (b : Nat) (E : Nat × mH) (d : Nat) (l2 : Int) (l3 : Nat) (l4 : Int) (l5 : Int) (T : gT) (Q : Option Value → gT → Prop) : Prop := (-2147483648 ≤ l5 ∧ l5 < 2147483648) ∧ ((200 < l5 → gC (tP sa) lD b E d mX4_look [.ref (b + 40)] T (fun r T117 => pI r (fun v117 => (-2147483648 ≤ v117 ∧ v117 < 2147483648) ∧ ((v117 = (-1) → Q (some (.int (zI (vI T117 40 3)))) T117) ∧ (¬ v117 = (-1) → gC (tP sa) lD b E d mX4_fail [.ref (b + 40), .int (zI (vI T117 40 2))] T117 (fun r T129 => pV r (Q (some (.int (zI (vI T129 40 3)))) T129))))))) ∧ (¬ 200 < l5 → (-2147483648 ≤ l4 ∧ l4 < 2147483648) ∧ ((l4 = 0 → gC (tP sa) lD b E d mX4_look [.ref (b + 40)] T (fun r T117 => pI r (fun v117 => (-2147483648 ≤ v117 ∧ v117 < 2147483648) ∧ ((v117 = (-1) → Q (some (.int (zI (vI T117 40 3)))) T117) ∧ (¬ v117 = (-1) → gC (tP sa) lD b E d mX4_fail [.ref (b + 40), .int (zI (vI T117 40 2))] T117 (fun r T129 => pV r (Q (some (.int (zI (vI T129 40 3)))) T129))))))) ∧ (¬ l4 = 0 → gC (tP sa) lD b E d mX4_takeExpr [.ref (b + 40)] T (fun r T78 => pI r (fun v78 => (-2147483648 ≤ v78 ∧ v78 < 2147483648) ∧ ((v78 = 0 → gW (tP sa) lD b E (d + 1) mX4_load 88 [some (.ref (b + 40)), some (.ref (b + 1)), some (.int (zI l2)), some (.ref (b + l3)), some (.int (zI l4)), some (.int (zI l5))] [] T78 Q) ∧ (¬ v78 = 0 → gC (tP sa) lD b E d mX4_endExpr [.ref (b + 40)] T78 (fun r T85 => pV r (gW (tP sa) lD b E (d + 1) mX4_load 88 [some (.ref (b + 40)), some (.ref (b + 1)), some (.int (zI l2)), some (.ref (b + l3)), some (.int (zI l4)), some (.int (zI l5))] [] T85 Q))))))))))
set_option maxRecDepth 4000 in
theorem w_X4_load_64 {sa : Nat → Nat} {b : Nat} {E : Nat × mH} {d : Nat} {l2 : Int} {l3 : Nat} {l4 : Int} {l5 : Int} {T : gT} {Q : Option Value → gT → Prop} (hq_l3 : l3 = 2 ∨ l3 = 21) (h : f_X4_load_64 sa b E d l2 l3 l4 l5 T Q) : gW (tP sa) lD b E (d + 1) mX4_load 64 [some (.ref (b + 40)), some (.ref (b + 1)), some (.int (zI l2)), some (.ref (b + l3)), some (.int (zI l4)), some (.int (zI l5))] [] T Q := by
  unfold f_X4_load_64 at h
  refine g_iload dX4_load_64 rfl ?_
  refine g_sipush (v := zI 200) dX4_load_66 (by decide) ?_
  obtain ⟨a1, h⟩ := h
  refine g_icmp_gtZ dX4_load_69 rfl a1 (by decide) (fun c69 => ?_) (fun c69 => ?_)
  · replace h := h.1 c69
    refine g_aload_n dX4_load_116 rfl ?_
    refine g_callV [.ref (b + 40)] [] dX4_load_117 tG_4_78 tM_48 lD_40 rfl rfl rfl rfl (by decide) rfl ?_
    refine gC.mono h (Nat.le_refl _) ?_
    rintro _ T117 ⟨v117, rfl, h⟩
    refine g_iconst (v := zI (-1)) dX4_load_120 (by decide) ?_
    obtain ⟨a2, h⟩ := h
    refine g_icmp_eqZ dX4_load_121 rfl a2 (by decide) (fun c121 => ?_) (fun c121 => ?_)
    · replace h := h.1 c121
      refine g_aload_n dX4_load_132 rfl ?_
      refine g_getZ (v := vI T117 40 3) dX4_load_133 tF_4_47 lD_40 rfl (zI_v T117 40 3) ?_
      exact g_iret dX4_load_136 rfl rfl h
    · replace h := h.2 c121
      refine g_aload_n dX4_load_124 rfl ?_
      refine g_aload_n dX4_load_125 rfl ?_
      refine g_getZ (v := vI T117 40 2) dX4_load_126 tF_4_44 lD_40 rfl (zI_v T117 40 2) ?_
      refine g_callV [.ref (b + 40), .int (zI (vI T117 40 2))] [] dX4_load_129 tG_4_82 tM_46 lD_40 rfl rfl rfl rfl (by decide) rfl ?_
      refine gC.mono h (Nat.le_refl _) ?_
      rintro _ T129 ⟨rfl, h⟩
      refine g_aload_n dX4_load_132 rfl ?_
      refine g_getZ (v := vI T129 40 3) dX4_load_133 tF_4_47 lD_40 rfl (zI_v T129 40 3) ?_
      exact g_iret dX4_load_136 rfl rfl h
  · replace h := h.2 c69
    refine g_iload dX4_load_72 rfl ?_
    obtain ⟨a3, h⟩ := h
    refine g_if_eqZ dX4_load_74 rfl a3  (fun c74 => ?_) (fun c74 => ?_)
    · replace h := h.1 c74
      refine g_aload_n dX4_load_116 rfl ?_
      refine g_callV [.ref (b + 40)] [] dX4_load_117 tG_4_78 tM_48 lD_40 rfl rfl rfl rfl (by decide) rfl ?_
      refine gC.mono h (Nat.le_refl _) ?_
      rintro _ T117 ⟨v117, rfl, h⟩
      refine g_iconst (v := zI (-1)) dX4_load_120 (by decide) ?_
      obtain ⟨a4, h⟩ := h
      refine g_icmp_eqZ dX4_load_121 rfl a4 (by decide) (fun c121 => ?_) (fun c121 => ?_)
      · replace h := h.1 c121
        refine g_aload_n dX4_load_132 rfl ?_
        refine g_getZ (v := vI T117 40 3) dX4_load_133 tF_4_47 lD_40 rfl (zI_v T117 40 3) ?_
        exact g_iret dX4_load_136 rfl rfl h
      · replace h := h.2 c121
        refine g_aload_n dX4_load_124 rfl ?_
        refine g_aload_n dX4_load_125 rfl ?_
        refine g_getZ (v := vI T117 40 2) dX4_load_126 tF_4_44 lD_40 rfl (zI_v T117 40 2) ?_
        refine g_callV [.ref (b + 40), .int (zI (vI T117 40 2))] [] dX4_load_129 tG_4_82 tM_46 lD_40 rfl rfl rfl rfl (by decide) rfl ?_
        refine gC.mono h (Nat.le_refl _) ?_
        rintro _ T129 ⟨rfl, h⟩
        refine g_aload_n dX4_load_132 rfl ?_
        refine g_getZ (v := vI T129 40 3) dX4_load_133 tF_4_47 lD_40 rfl (zI_v T129 40 3) ?_
        exact g_iret dX4_load_136 rfl rfl h
    · replace h := h.2 c74
      refine g_aload_n dX4_load_77 rfl ?_
      refine g_callV [.ref (b + 40)] [] dX4_load_78 tG_4_71 tM_51 lD_40 rfl rfl rfl rfl (by decide) rfl ?_
      refine gC.mono h (Nat.le_refl _) ?_
      rintro _ T78 ⟨v78, rfl, h⟩
      obtain ⟨a5, h⟩ := h
      refine g_if_eqZ dX4_load_81 rfl a5  (fun c81 => ?_) (fun c81 => ?_)
      · replace h := h.1 c81
        exact h
      · replace h := h.2 c81
        refine g_aload_n dX4_load_84 rfl ?_
        refine g_callV [.ref (b + 40)] [] dX4_load_85 tG_4_75 tM_67 lD_40 rfl rfl rfl rfl (by decide) rfl ?_
        refine gC.mono h (Nat.le_refl _) ?_
        rintro _ T85 ⟨rfl, h⟩
        exact h
def f_X4_load_88 (sa : Nat → Nat) (b : Nat) (E : Nat × mH) (d : Nat) (l2 : Int) (l3 : Nat) (l4 : Int) (l5 : Int) (T : gT) (Q : Option Value → gT → Prop) : Prop := (((vI T 40 14) ≤ 0 → gW (tP sa) lD b E (d + 1) mX4_load 64 [some (.ref (b + 40)), some (.ref (b + 1)), some (.int (zI l2)), some (.ref (b + l3)), some (.int (zI 0)), some (.int (zI (l5 + 1)))] [] T Q) ∧ (¬ (vI T 40 14) ≤ 0 → ((¬ (vI T 40 3) = (-1) → gW (tP sa) lD b E (d + 1) mX4_load 64 [some (.ref (b + 40)), some (.ref (b + 1)), some (.int (zI l2)), some (.ref (b + l3)), some (.int (zI 0)), some (.int (zI (l5 + 1)))] [] T Q) ∧ ((vI T 40 3) = (-1) → gW (tP sa) lD b E (d + 1) mX4_load 64 [some (.ref (b + 40)), some (.ref (b + 1)), some (.int (zI l2)), some (.ref (b + l3)), some (.int (zI 1)), some (.int (zI (l5 + 1)))] [] T Q))))
set_option maxRecDepth 4000 in
theorem w_X4_load_88 {sa : Nat → Nat} {b : Nat} {E : Nat × mH} {d : Nat} {l2 : Int} {l3 : Nat} {l4 : Int} {l5 : Int} {T : gT} {Q : Option Value → gT → Prop} (hq_l3 : l3 = 2 ∨ l3 = 21) (h : f_X4_load_88 sa b E d l2 l3 l4 l5 T Q) : gW (tP sa) lD b E (d + 1) mX4_load 88 [some (.ref (b + 40)), some (.ref (b + 1)), some (.int (zI l2)), some (.ref (b + l3)), some (.int (zI l4)), some (.int (zI l5))] [] T Q := by
  unfold f_X4_load_88 at h
  refine g_aload_n dX4_load_88 rfl ?_
  refine g_getZ (v := vI T 40 14) dX4_load_89 tF_4_68 lD_40 rfl (zI_v T 40 14) ?_
  refine g_if_leZ dX4_load_92 rfl ⟨vI_lo _ _ _, vI_hi _ _ _⟩  (fun c92 => ?_) (fun c92 => ?_)
  · replace h := h.1 c92
    refine g_iconst (v := zI 0) dX4_load_107 (by decide) ?_
    refine g_istore (L' := [some (.ref (b + 40)), some (.ref (b + 1)), some (.int (zI l2)), some (.ref (b + l3)), some (.int (zI 0)), some (.int (zI l5))]) dX4_load_108 rfl ?_
    refine g_iinc (x := zI l5) (v := zI (l5 + 1)) (L' := [some (.ref (b + 40)), some (.ref (b + 1)), some (.int (zI l2)), some (.ref (b + l3)), some (.int (zI 0)), some (.int (zI (l5 + 1)))]) dX4_load_110 rfl (zI_add _ _) rfl ?_
    refine g_goto dX4_load_113 rfl ?_
    exact h
  · replace h := h.2 c92
    refine g_aload_n dX4_load_95 rfl ?_
    refine g_getZ (v := vI T 40 3) dX4_load_96 tF_4_47 lD_40 rfl (zI_v T 40 3) ?_
    refine g_iconst (v := zI (-1)) dX4_load_99 (by decide) ?_
    refine g_icmp_neZ dX4_load_100 rfl ⟨vI_lo _ _ _, vI_hi _ _ _⟩ (by decide) (fun c100 => ?_) (fun c100 => ?_)
    · replace h := h.1 c100
      refine g_iconst (v := zI 0) dX4_load_107 (by decide) ?_
      refine g_istore (L' := [some (.ref (b + 40)), some (.ref (b + 1)), some (.int (zI l2)), some (.ref (b + l3)), some (.int (zI 0)), some (.int (zI l5))]) dX4_load_108 rfl ?_
      refine g_iinc (x := zI l5) (v := zI (l5 + 1)) (L' := [some (.ref (b + 40)), some (.ref (b + 1)), some (.int (zI l2)), some (.ref (b + l3)), some (.int (zI 0)), some (.int (zI (l5 + 1)))]) dX4_load_110 rfl (zI_add _ _) rfl ?_
      refine g_goto dX4_load_113 rfl ?_
      exact h
    · replace h := h.2 c100
      refine g_iconst (v := zI 1) dX4_load_103 (by decide) ?_
      refine g_goto dX4_load_104 rfl ?_
      refine g_istore (L' := [some (.ref (b + 40)), some (.ref (b + 1)), some (.int (zI l2)), some (.ref (b + l3)), some (.int (zI 1)), some (.int (zI l5))]) dX4_load_108 rfl ?_
      refine g_iinc (x := zI l5) (v := zI (l5 + 1)) (L' := [some (.ref (b + 40)), some (.ref (b + 1)), some (.int (zI l2)), some (.ref (b + l3)), some (.int (zI 1)), some (.int (zI (l5 + 1)))]) dX4_load_110 rfl (zI_add _ _) rfl ?_
      refine g_goto dX4_load_113 rfl ?_
      exact h
def f_X4_takeLambda (sa : Nat → Nat) (b : Nat) (E : Nat × mH) (d : Nat) (T : gT) (Q : Option Value → gT → Prop) : Prop := ((40 ≤ (vI T 40 14) → gC (tP sa) lD b E d mX4_fail [.ref (b + 40), .int (zI (vI T 40 2))] T (fun r T23 => pV r (Q none T23))) ∧ (¬ 40 ≤ (vI T 40 14) → (((vI T 40 5) < 50 → gC (tP sa) lD b E d mX4_open [.ref (b + 40), .int (zI 2)] (gI (gI T 40 2 (zI ((vI T 40 2) + 1))) 40 5 (zI ((vI T 40 5) + 1))) (fun r T49 => pV r (gC (tP sa) lD b E d mX4_takeBinding [.ref (b + 40)] T49 (fun r T53 => pI r (fun v53 => gC (tP sa) lD b E d mX4_setVariable [.ref (b + 40), .int (zI ((vI T53 40 6) - 1)), .int (zI (-1))] T53 (fun r T65 => pV r (gC (tP sa) lD b E d mX4_expect [.ref (b + 40), .int (zI 46)] T65 (fun r T71 => pV r (gC (tP sa) lD b E d mX4_bind [.ref (b + 40), .int (zI v53), .int (zI ((vI T71 40 6) - 1))] T71 (fun r T82 => pV r (Q none T82))))))))))) ∧ (¬ (vI T 40 5) < 50 → gC (tP sa) lD b E d mX4_fail [.ref (b + 40), .int (zI (vI T 40 2))] T (fun r T23 => pV r (Q none T23))))))
set_option maxRecDepth 4000 in
theorem w_X4_takeLambda {sa : Nat → Nat} {b : Nat} {E : Nat × mH} {d : Nat} {T : gT} {Q : Option Value → gT → Prop} (h : f_X4_takeLambda sa b E d T Q) : gC (tP sa) lD b E (d + 1) mX4_takeLambda [.ref (b + 40)] T Q := by
  unfold f_X4_takeLambda at h
  refine ⟨Nat.le_of_ble_eq_true rfl, ?_⟩
  show gW (tP sa) lD b E (d + 1) mX4_takeLambda 0 [some (.ref (b + 40)), none] [] T Q
  refine g_aload_n dX4_takeLambda_0 rfl ?_
  refine g_getZ (v := vI T 40 14) dX4_takeLambda_1 tF_4_68 lD_40 rfl (zI_v T 40 14) ?_
  refine g_bipush (v := zI 40) dX4_takeLambda_4 (by decide) ?_
  refine g_icmp_geZ dX4_takeLambda_6 rfl ⟨vI_lo _ _ _, vI_hi _ _ _⟩ (by decide) (fun c6 => ?_) (fun c6 => ?_)
  · replace h := h.1 c6
    refine g_aload_n dX4_takeLambda_18 rfl ?_
    refine g_aload_n dX4_takeLambda_19 rfl ?_
    refine g_getZ (v := vI T 40 2) dX4_takeLambda_20 tF_4_44 lD_40 rfl (zI_v T 40 2) ?_
    refine g_callV [.ref (b + 40), .int (zI (vI T 40 2))] [] dX4_takeLambda_23 tG_4_82 tM_46 lD_40 rfl rfl rfl rfl (by decide) rfl ?_
    refine gC.mono h (Nat.le_refl _) ?_
    rintro _ T23 ⟨rfl, h⟩
    exact g_vret dX4_takeLambda_26 rfl h
  · replace h := h.2 c6
    refine g_aload_n dX4_takeLambda_9 rfl ?_
    refine g_getZ (v := vI T 40 5) dX4_takeLambda_10 tF_4_59 lD_40 rfl (zI_v T 40 5) ?_
    refine g_bipush (v := zI 50) dX4_takeLambda_13 (by decide) ?_
    refine g_icmp_ltZ dX4_takeLambda_15 rfl ⟨vI_lo _ _ _, vI_hi _ _ _⟩ (by decide) (fun c15 => ?_) (fun c15 => ?_)
    · replace h := h.1 c15
      refine g_aload_n dX4_takeLambda_27 rfl ?_
      refine g_dup dX4_takeLambda_28 rfl ?_
      refine g_getZ (v := vI T 40 2) dX4_takeLambda_29 tF_4_44 lD_40 rfl (zI_v T 40 2) ?_
      refine g_iconst (v := zI 1) dX4_takeLambda_32 (by decide) ?_
      refine g_iaddZ dX4_takeLambda_33 ?_
      refine g_putI dX4_takeLambda_34 tF_4_44 lD_40 rfl rfl ⟨rfl, rfl⟩ rfl ?_
      refine g_aload_n dX4_takeLambda_37 rfl ?_
      refine g_dup dX4_takeLambda_38 rfl ?_
      refine g_getZ (v := vI T 40 5) dX4_takeLambda_39 tF_4_59 lD_40 rfl (zI_v T 40 5) ?_
      refine g_iconst (v := zI 1) dX4_takeLambda_42 (by decide) ?_
      refine g_iaddZ dX4_takeLambda_43 ?_
      refine g_putI dX4_takeLambda_44 tF_4_59 lD_40 rfl rfl ⟨rfl, rfl⟩ rfl ?_
      refine g_aload_n dX4_takeLambda_47 rfl ?_
      refine g_iconst (v := zI 2) dX4_takeLambda_48 (by decide) ?_
      refine g_callV [.ref (b + 40), .int (zI 2)] [] dX4_takeLambda_49 tG_4_119 tM_64 lD_40 rfl rfl rfl rfl (by decide) rfl ?_
      refine gC.mono h (Nat.le_refl _) ?_
      rintro _ T49 ⟨rfl, h⟩
      refine g_aload_n dX4_takeLambda_52 rfl ?_
      refine g_callV [.ref (b + 40)] [] dX4_takeLambda_53 tG_4_122 tM_62 lD_40 rfl rfl rfl rfl (by decide) rfl ?_
      refine gC.mono h (Nat.le_refl _) ?_
      rintro _ T53 ⟨v53, rfl, h⟩
      refine g_istore_n (L' := [some (.ref (b + 40)), some (.int (zI v53))]) dX4_takeLambda_56 rfl ?_
      refine g_aload_n dX4_takeLambda_57 rfl ?_
      refine g_aload_n dX4_takeLambda_58 rfl ?_
      refine g_getZ (v := vI T53 40 6) dX4_takeLambda_59 tF_4_62 lD_40 rfl (zI_v T53 40 6) ?_
      refine g_iconst (v := zI 1) dX4_takeLambda_62 (by decide) ?_
      refine g_isubZ dX4_takeLambda_63 ?_
      refine g_iconst (v := zI (-1)) dX4_takeLambda_64 (by decide) ?_
      refine g_callV [.ref (b + 40), .int (zI ((vI T53 40 6) - 1)), .int (zI (-1))] [] dX4_takeLambda_65 tG_4_125 tM_65 lD_40 rfl rfl rfl rfl (by decide) rfl ?_
      refine gC.mono h (Nat.le_refl _) ?_
      rintro _ T65 ⟨rfl, h⟩
      refine g_aload_n dX4_takeLambda_68 rfl ?_
      refine g_bipush (v := zI 46) dX4_takeLambda_69 (by decide) ?_
      refine g_callV [.ref (b + 40), .int (zI 46)] [] dX4_takeLambda_71 tG_4_129 tM_63 lD_40 rfl rfl rfl rfl (by decide) rfl ?_
      refine gC.mono h (Nat.le_refl _) ?_
      rintro _ T71 ⟨rfl, h⟩
      refine g_aload_n dX4_takeLambda_74 rfl ?_
      refine g_iload_n dX4_takeLambda_75 rfl ?_
      refine g_aload_n dX4_takeLambda_76 rfl ?_
      refine g_getZ (v := vI T71 40 6) dX4_takeLambda_77 tF_4_62 lD_40 rfl (zI_v T71 40 6) ?_
      refine g_iconst (v := zI 1) dX4_takeLambda_80 (by decide) ?_
      refine g_isubZ dX4_takeLambda_81 ?_
      refine g_callV [.ref (b + 40), .int (zI v53), .int (zI ((vI T71 40 6) - 1))] [] dX4_takeLambda_82 tG_4_132 tM_66 lD_40 rfl rfl rfl rfl (by decide) rfl ?_
      refine gC.mono h (Nat.le_refl _) ?_
      rintro _ T82 ⟨rfl, h⟩
      exact g_vret dX4_takeLambda_85 rfl h
    · replace h := h.2 c15
      refine g_aload_n dX4_takeLambda_18 rfl ?_
      refine g_aload_n dX4_takeLambda_19 rfl ?_
      refine g_getZ (v := vI T 40 2) dX4_takeLambda_20 tF_4_44 lD_40 rfl (zI_v T 40 2) ?_
      refine g_callV [.ref (b + 40), .int (zI (vI T 40 2))] [] dX4_takeLambda_23 tG_4_82 tM_46 lD_40 rfl rfl rfl rfl (by decide) rfl ?_
      refine gC.mono h (Nat.le_refl _) ?_
      rintro _ T23 ⟨rfl, h⟩
      exact g_vret dX4_takeLambda_26 rfl h
def f_X4_isWord (sa : Nat → Nat) (b : Nat) (E : Nat × mH) (d : Nat) (l1 : Int) (l2 : Nat) (l2w : List Nat) (T : gT) (Q : Option Value → gT → Prop) : Prop := (-2147483648 ≤ l1 - (vI T 40 2) ∧ l1 - (vI T 40 2) < 2147483648) ∧ (-2147483648 ≤ (l2w.length : Int) ∧ (l2w.length : Int) < 2147483648) ∧ ((¬ (l1 - (vI T 40 2)) = (l2w.length : Int) → gW (tP sa) lD b E (d + 3 + 1) mX4_isWord 22 [some (.ref (b + 40)), some (.int (zI l1)), some (.ref (l2)), some (.int (zI 0)), some (.int (zI 0))] [] T Q) ∧ ((l1 - (vI T 40 2)) = (l2w.length : Int) → gW (tP sa) lD b E (d + 3 + 1) mX4_isWord 22 [some (.ref (b + 40)), some (.int (zI l1)), some (.ref (l2)), some (.int (zI 1)), some (.int (zI 0))] [] T Q))
set_option maxRecDepth 4000 in
theorem w_X4_isWord {sa : Nat → Nat} {b : Nat} {E : Nat × mH} {d : Nat} {l1 : Int} {l2 : Nat} {l2w : List Nat} {T : gT} {Q : Option Value → gT → Prop} (hs_l2 : mStr E b l2 l2w) (h : f_X4_isWord sa b E d l1 l2 l2w T Q) : gC (tP sa) lD b E (d + 3 + 1) mX4_isWord [.ref (b + 40), .int (zI l1), .ref (l2)] T Q := by
  unfold f_X4_isWord at h
  obtain ⟨va_hs_l2, f_hs_l2, fs_hs_l2, ha_hs_l2, _, hk_hs_l2, _⟩ := id hs_l2
  refine ⟨Nat.le_of_ble_eq_true rfl, ?_⟩
  show gW (tP sa) lD b E (d + 3 + 1) mX4_isWord 0 [some (.ref (b + 40)), some (.int (zI l1)), some (.ref (l2)), none, none] [] T Q
  refine g_iload_n dX4_isWord_0 rfl ?_
  refine g_aload_n dX4_isWord_1 rfl ?_
  refine g_getZ (v := vI T 40 2) dX4_isWord_2 tF_4_44 lD_40 rfl (zI_v T 40 2) ?_
  refine g_isubZ dX4_isWord_5 ?_
  refine g_aload_n dX4_isWord_6 rfl ?_
  refine g_callC [.ref (l2)] [.int (zI (l1 - (vI T 40 2)))] dX4_isWord_7 tG_4_157 tM_179 ha_hs_l2 hk_hs_l2 rfl rfl rfl rfl (by decide) rfl ?_
  refine gC.mono (c_length sa _ _ hs_l2) (Nat.add_le_add_left (by decide) _) ?_
  rintro _ _ ⟨rfl, h9⟩
  obtain rfl := h9.symm
  rw [zI_nat]
  obtain ⟨a1, h⟩ := h
  obtain ⟨a2, h⟩ := h
  refine g_icmp_neZ dX4_isWord_10 rfl a1 a2 (fun c10 => ?_) (fun c10 => ?_)
  · replace h := h.1 c10
    refine g_iconst (v := zI 0) dX4_isWord_17 (by decide) ?_
    refine g_istore_n (L' := [some (.ref (b + 40)), some (.int (zI l1)), some (.ref (l2)), some (.int (zI 0)), none]) dX4_isWord_18 rfl ?_
    refine g_iconst (v := zI 0) dX4_isWord_19 (by decide) ?_
    refine g_istore (L' := [some (.ref (b + 40)), some (.int (zI l1)), some (.ref (l2)), some (.int (zI 0)), some (.int (zI 0))]) dX4_isWord_20 rfl ?_
    exact h
  · replace h := h.2 c10
    refine g_iconst (v := zI 1) dX4_isWord_13 (by decide) ?_
    refine g_goto dX4_isWord_14 rfl ?_
    refine g_istore_n (L' := [some (.ref (b + 40)), some (.int (zI l1)), some (.ref (l2)), some (.int (zI 1)), none]) dX4_isWord_18 rfl ?_
    refine g_iconst (v := zI 0) dX4_isWord_19 (by decide) ?_
    refine g_istore (L' := [some (.ref (b + 40)), some (.int (zI l1)), some (.ref (l2)), some (.int (zI 1)), some (.int (zI 0))]) dX4_isWord_20 rfl ?_
    exact h
def f_X4_isWord_22 (sa : Nat → Nat) (b : Nat) (E : Nat × mH) (d : Nat) (l1 : Int) (l2 : Nat) (l2w : List Nat) (l3 : Int) (l4 : Int) (T : gT) (Q : Option Value → gT → Prop) : Prop := (-2147483648 ≤ l4 ∧ l4 < 2147483648) ∧ (-2147483648 ≤ (l2w.length : Int) ∧ (l2w.length : Int) < 2147483648) ∧ (((l2w.length : Int) ≤ l4 → (l3 = 0 ∨ l3 = 1) ∧ Q (some (.int (zI l3))) T) ∧ (¬ (l2w.length : Int) ≤ l4 → (-2147483648 ≤ l3 ∧ l3 < 2147483648) ∧ ((l3 = 0 → (l3 = 0 ∨ l3 = 1) ∧ Q (some (.int (zI l3))) T) ∧ (¬ l3 = 0 → gC (tP sa) lD b E (d + 3) mX4_byteAt [.ref (b + 40), .int (zI ((vI T 40 2) + l4))] T (fun r T43 => pI r (fun v43 => 0 ≤ l4 ∧ l4 < (l2w.length : Int) ∧ (-2147483648 ≤ v43 ∧ v43 < 2147483648) ∧ (-2147483648 ≤ ((l2w.getD l4.toNat 0 : Nat) : Int) ∧ ((l2w.getD l4.toNat 0 : Nat) : Int) < 2147483648) ∧ ((¬ v43 = ((l2w.getD l4.toNat 0 : Nat) : Int) → gW (tP sa) lD b E (d + 3 + 1) mX4_isWord 22 [some (.ref (b + 40)), some (.int (zI l1)), some (.ref (l2)), some (.int (zI 0)), some (.int (zI (l4 + 1)))] [] T43 Q) ∧ (v43 = ((l2w.getD l4.toNat 0 : Nat) : Int) → gW (tP sa) lD b E (d + 3 + 1) mX4_isWord 22 [some (.ref (b + 40)), some (.int (zI l1)), some (.ref (l2)), some (.int (zI 1)), some (.int (zI (l4 + 1)))] [] T43 Q))))))))
set_option maxRecDepth 4000 in
theorem w_X4_isWord_22 {sa : Nat → Nat} {b : Nat} {E : Nat × mH} {d : Nat} {l1 : Int} {l2 : Nat} {l2w : List Nat} {l3 : Int} {l4 : Int} {T : gT} {Q : Option Value → gT → Prop} (hs_l2 : mStr E b l2 l2w) (h : f_X4_isWord_22 sa b E d l1 l2 l2w l3 l4 T Q) : gW (tP sa) lD b E (d + 3 + 1) mX4_isWord 22 [some (.ref (b + 40)), some (.int (zI l1)), some (.ref (l2)), some (.int (zI l3)), some (.int (zI l4))] [] T Q := by
  unfold f_X4_isWord_22 at h
  obtain ⟨va_hs_l2, f_hs_l2, fs_hs_l2, ha_hs_l2, _, hk_hs_l2, _⟩ := id hs_l2
  refine g_iload dX4_isWord_22 rfl ?_
  refine g_aload_n dX4_isWord_24 rfl ?_
  refine g_callC [.ref (l2)] [.int (zI l4)] dX4_isWord_25 tG_4_157 tM_179 ha_hs_l2 hk_hs_l2 rfl rfl rfl rfl (by decide) rfl ?_
  refine gC.mono (c_length sa _ _ hs_l2) (Nat.add_le_add_left (by decide) _) ?_
  rintro _ _ ⟨rfl, h9⟩
  obtain rfl := h9.symm
  rw [zI_nat]
  obtain ⟨a1, h⟩ := h
  obtain ⟨a2, h⟩ := h
  refine g_icmp_geZ dX4_isWord_28 rfl a1 a2 (fun c28 => ?_) (fun c28 => ?_)
  · replace h := h.1 c28
    refine g_iload_n dX4_isWord_67 rfl ?_
    obtain ⟨a3, h⟩ := h
    exact g_iret dX4_isWord_68 rfl (fit_z a3).1 h
  · replace h := h.2 c28
    refine g_iload_n dX4_isWord_31 rfl ?_
    obtain ⟨a4, h⟩ := h
    refine g_if_eqZ dX4_isWord_32 rfl a4  (fun c32 => ?_) (fun c32 => ?_)
    · replace h := h.1 c32
      refine g_iload_n dX4_isWord_67 rfl ?_
      obtain ⟨a5, h⟩ := h
      exact g_iret dX4_isWord_68 rfl (fit_z a5).1 h
    · replace h := h.2 c32
      refine g_aload_n dX4_isWord_35 rfl ?_
      refine g_aload_n dX4_isWord_36 rfl ?_
      refine g_getZ (v := vI T 40 2) dX4_isWord_37 tF_4_44 lD_40 rfl (zI_v T 40 2) ?_
      refine g_iload dX4_isWord_40 rfl ?_
      refine g_iaddZ dX4_isWord_42 ?_
      refine g_callV [.ref (b + 40), .int (zI ((vI T 40 2) + l4))] [] dX4_isWord_43 tG_4_86 tM_47 lD_40 rfl rfl rfl rfl (by decide) rfl ?_
      refine gC.mono h (Nat.le_refl _) ?_
      rintro _ T43 ⟨v43, rfl, h⟩
      refine g_aload_n dX4_isWord_46 rfl ?_
      refine g_iload dX4_isWord_47 rfl ?_
      obtain ⟨a6, h⟩ := h
      obtain ⟨a7, h⟩ := h
      refine g_callC [.ref (l2), .int (zI l4)] [.int (zI v43)] dX4_isWord_49 tG_4_162 tM_180 ha_hs_l2 hk_hs_l2 rfl rfl rfl rfl (by decide) rfl ?_
      refine gC.mono (c_charZ sa _ _ hs_l2 a6 a7) (Nat.le_refl _) ?_
      rintro _ _ ⟨rfl, h9⟩
      obtain rfl := h9.symm
      rw [zI_nat]
      obtain ⟨a8, h⟩ := h
      obtain ⟨a9, h⟩ := h
      refine g_icmp_neZ dX4_isWord_52 rfl a8 a9 (fun c52 => ?_) (fun c52 => ?_)
      · replace h := h.1 c52
        refine g_iconst (v := zI 0) dX4_isWord_59 (by decide) ?_
        refine g_istore_n (L' := [some (.ref (b + 40)), some (.int (zI l1)), some (.ref (l2)), some (.int (zI 0)), some (.int (zI l4))]) dX4_isWord_60 rfl ?_
        refine g_iinc (x := zI l4) (v := zI (l4 + 1)) (L' := [some (.ref (b + 40)), some (.int (zI l1)), some (.ref (l2)), some (.int (zI 0)), some (.int (zI (l4 + 1)))]) dX4_isWord_61 rfl (zI_add _ _) rfl ?_
        refine g_goto dX4_isWord_64 rfl ?_
        exact h
      · replace h := h.2 c52
        refine g_iconst (v := zI 1) dX4_isWord_55 (by decide) ?_
        refine g_goto dX4_isWord_56 rfl ?_
        refine g_istore_n (L' := [some (.ref (b + 40)), some (.int (zI l1)), some (.ref (l2)), some (.int (zI 1)), some (.int (zI l4))]) dX4_isWord_60 rfl ?_
        refine g_iinc (x := zI l4) (v := zI (l4 + 1)) (L' := [some (.ref (b + 40)), some (.int (zI l1)), some (.ref (l2)), some (.int (zI 1)), some (.int (zI (l4 + 1)))]) dX4_isWord_61 rfl (zI_add _ _) rfl ?_
        refine g_goto dX4_isWord_64 rfl ?_
        exact h
def f_X4_takeBinding (sa : Nat → Nat) (b : Nat) (E : Nat × mH) (d : Nat) (T : gT) (Q : Option Value → gT → Prop) : Prop := gC (tP sa) lD b E d mX4_look [.ref (b + 40)] T (fun r T1 => pI r (fun v1 => (((vI T1 40 6) < 100 → gC (tP sa) lD b E d mX4_takeName [.ref (b + 40)] (gI T1 40 6 (zI ((vI T1 40 6) + 1))) (fun r T35 => pI r (fun v35 => Q (some (.int (zI v35))) T35))) ∧ (¬ (vI T1 40 6) < 100 → gC (tP sa) lD b E d mX4_fail [.ref (b + 40), .int (zI (vI T1 40 2))] T1 (fun r T19 => pV r (Q (some (.int (zI (-1)))) T19))))))
set_option maxRecDepth 4000 in
theorem w_X4_takeBinding {sa : Nat → Nat} {b : Nat} {E : Nat × mH} {d : Nat} {T : gT} {Q : Option Value → gT → Prop} (h : f_X4_takeBinding sa b E d T Q) : gC (tP sa) lD b E (d + 1) mX4_takeBinding [.ref (b + 40)] T Q := by
  unfold f_X4_takeBinding at h
  refine ⟨Nat.le_of_ble_eq_true rfl, ?_⟩
  show gW (tP sa) lD b E (d + 1) mX4_takeBinding 0 [some (.ref (b + 40))] [] T Q
  refine g_aload_n dX4_takeBinding_0 rfl ?_
  refine g_callV [.ref (b + 40)] [] dX4_takeBinding_1 tG_4_78 tM_48 lD_40 rfl rfl rfl rfl (by decide) rfl ?_
  refine gC.mono h (Nat.le_refl _) ?_
  rintro _ T1 ⟨v1, rfl, h⟩
  refine g_pop dX4_takeBinding_4 rfl ?_
  refine g_aload_n dX4_takeBinding_5 rfl ?_
  refine g_getZ (v := vI T1 40 6) dX4_takeBinding_6 tF_4_62 lD_40 rfl (zI_v T1 40 6) ?_
  refine g_bipush (v := zI 100) dX4_takeBinding_9 (by decide) ?_
  refine g_icmp_ltZ dX4_takeBinding_11 rfl ⟨vI_lo _ _ _, vI_hi _ _ _⟩ (by decide) (fun c11 => ?_) (fun c11 => ?_)
  · replace h := h.1 c11
    refine g_aload_n dX4_takeBinding_24 rfl ?_
    refine g_dup dX4_takeBinding_25 rfl ?_
    refine g_getZ (v := vI T1 40 6) dX4_takeBinding_26 tF_4_62 lD_40 rfl (zI_v T1 40 6) ?_
    refine g_iconst (v := zI 1) dX4_takeBinding_29 (by decide) ?_
    refine g_iaddZ dX4_takeBinding_30 ?_
    refine g_putI dX4_takeBinding_31 tF_4_62 lD_40 rfl rfl ⟨rfl, rfl⟩ rfl ?_
    refine g_aload_n dX4_takeBinding_34 rfl ?_
    refine g_callV [.ref (b + 40)] [] dX4_takeBinding_35 tG_4_109 tM_61 lD_40 rfl rfl rfl rfl (by decide) rfl ?_
    refine gC.mono h (Nat.le_refl _) ?_
    rintro _ T35 ⟨v35, rfl, h⟩
    exact g_iret dX4_takeBinding_38 rfl rfl h
  · replace h := h.2 c11
    refine g_aload_n dX4_takeBinding_14 rfl ?_
    refine g_aload_n dX4_takeBinding_15 rfl ?_
    refine g_getZ (v := vI T1 40 2) dX4_takeBinding_16 tF_4_44 lD_40 rfl (zI_v T1 40 2) ?_
    refine g_callV [.ref (b + 40), .int (zI (vI T1 40 2))] [] dX4_takeBinding_19 tG_4_82 tM_46 lD_40 rfl rfl rfl rfl (by decide) rfl ?_
    refine gC.mono h (Nat.le_refl _) ?_
    rintro _ T19 ⟨rfl, h⟩
    refine g_iconst (v := zI (-1)) dX4_takeBinding_22 (by decide) ?_
    exact g_iret dX4_takeBinding_23 rfl rfl h
def f_X4_expect (sa : Nat → Nat) (b : Nat) (E : Nat × mH) (d : Nat) (l1 : Int) (T : gT) (Q : Option Value → gT → Prop) : Prop := gC (tP sa) lD b E d mX4_look [.ref (b + 40)] T (fun r T1 => pI r (fun v1 => (-2147483648 ≤ v1 ∧ v1 < 2147483648) ∧ (-2147483648 ≤ l1 ∧ l1 < 2147483648) ∧ ((¬ v1 = l1 → gC (tP sa) lD b E d mX4_fail [.ref (b + 40), .int (zI (vI T1 40 2))] T1 (fun r T26 => pV r (Q none T26))) ∧ (v1 = l1 → Q none (gI T1 40 2 (zI ((vI T1 40 2) + 1)))))))
set_option maxRecDepth 4000 in
theorem w_X4_expect {sa : Nat → Nat} {b : Nat} {E : Nat × mH} {d : Nat} {l1 : Int} {T : gT} {Q : Option Value → gT → Prop} (h : f_X4_expect sa b E d l1 T Q) : gC (tP sa) lD b E (d + 1) mX4_expect [.ref (b + 40), .int (zI l1)] T Q := by
  unfold f_X4_expect at h
  refine ⟨Nat.le_of_ble_eq_true rfl, ?_⟩
  show gW (tP sa) lD b E (d + 1) mX4_expect 0 [some (.ref (b + 40)), some (.int (zI l1))] [] T Q
  refine g_aload_n dX4_expect_0 rfl ?_
  refine g_callV [.ref (b + 40)] [] dX4_expect_1 tG_4_78 tM_48 lD_40 rfl rfl rfl rfl (by decide) rfl ?_
  refine gC.mono h (Nat.le_refl _) ?_
  rintro _ T1 ⟨v1, rfl, h⟩
  refine g_iload_n dX4_expect_4 rfl ?_
  obtain ⟨a1, h⟩ := h
  obtain ⟨a2, h⟩ := h
  refine g_icmp_neZ dX4_expect_5 rfl a1 a2 (fun c5 => ?_) (fun c5 => ?_)
  · replace h := h.1 c5
    refine g_aload_n dX4_expect_21 rfl ?_
    refine g_aload_n dX4_expect_22 rfl ?_
    refine g_getZ (v := vI T1 40 2) dX4_expect_23 tF_4_44 lD_40 rfl (zI_v T1 40 2) ?_
    refine g_callV [.ref (b + 40), .int (zI (vI T1 40 2))] [] dX4_expect_26 tG_4_82 tM_46 lD_40 rfl rfl rfl rfl (by decide) rfl ?_
    refine gC.mono h (Nat.le_refl _) ?_
    rintro _ T26 ⟨rfl, h⟩
    exact g_vret dX4_expect_29 rfl h
  · replace h := h.2 c5
    refine g_aload_n dX4_expect_8 rfl ?_
    refine g_dup dX4_expect_9 rfl ?_
    refine g_getZ (v := vI T1 40 2) dX4_expect_10 tF_4_44 lD_40 rfl (zI_v T1 40 2) ?_
    refine g_iconst (v := zI 1) dX4_expect_13 (by decide) ?_
    refine g_iaddZ dX4_expect_14 ?_
    refine g_putI dX4_expect_15 tF_4_44 lD_40 rfl rfl ⟨rfl, rfl⟩ rfl ?_
    refine g_goto dX4_expect_18 rfl ?_
    exact g_vret dX4_expect_29 rfl h
def f_X4_setVariable (sa : Nat → Nat) (b : Nat) (E : Nat × mH) (d : Nat) (l1 : Int) (l2 : Int) (T : gT) (Q : Option Value → gT → Prop) : Prop := (∃ r1 : Nat, (r1 = 2 ∨ r1 = 21) ∧ vI T 40 4 = (r1 : Int) ∧ (((vI T r1 0) ≤ 0 → Q none T) ∧ (¬ (vI T r1 0) ≤ 0 → (∃ r11 : Nat, (r11 = 2 ∨ r11 = 21) ∧ vI T 40 4 = (r11 : Int) ∧ (∃ r18 : Nat, (r18 = 2 ∨ r18 = 21) ∧ vI T 40 4 = (r18 : Int) ∧ 0 ≤ (vI T r18 0) - 1 ∧ (vI T r18 0) - 1 < 200 ∧ (∃ r29 : Nat, (r29 = 2 ∨ r29 = 21) ∧ vI (gI T (r11 + 2) ((vI T r18 0) - 1).toNat (zI l1)) 40 4 = (r29 : Int) ∧ (∃ r36 : Nat, (r36 = 2 ∨ r36 = 21) ∧ vI (gI T (r11 + 2) ((vI T r18 0) - 1).toNat (zI l1)) 40 4 = (r36 : Int) ∧ 0 ≤ (vI (gI T (r11 + 2) ((vI T r18 0) - 1).toNat (zI l1)) r36 0) - 1 ∧ (vI (gI T (r11 + 2) ((vI T r18 0) - 1).toNat (zI l1)) r36 0) - 1 < 200 ∧ Q none (gI (gI T (r11 + 2) ((vI T r18 0) - 1).toNat (zI l1)) (r29 + 3) ((vI (gI T (r11 + 2) ((vI T r18 0) - 1).toNat (zI l1)) r36 0) - 1).toNat (zI l2)))))))))
set_option maxRecDepth 4000 in
theorem w_X4_setVariable {sa : Nat → Nat} {b : Nat} {E : Nat × mH} {d : Nat} {l1 : Int} {l2 : Int} {T : gT} {Q : Option Value → gT → Prop} (h : f_X4_setVariable sa b E d l1 l2 T Q) : gC (tP sa) lD b E d mX4_setVariable [.ref (b + 40), .int (zI l1), .int (zI l2)] T Q := by
  unfold f_X4_setVariable at h
  refine ⟨Nat.le_of_ble_eq_true rfl, ?_⟩
  show gW (tP sa) lD b E d mX4_setVariable 0 [some (.ref (b + 40)), some (.int (zI l1)), some (.int (zI l2))] [] T Q
  refine g_aload_n dX4_setVariable_0 rfl ?_
  obtain ⟨r1, hq_r1, e_r1, h⟩ := h
  refine g_getVZ (o := r1) dX4_setVariable_1 tF_4_50 lD_40 rfl e_r1 (q_lt hq_r1) ?_
  refine g_getZ (v := vI T r1 0) dX4_setVariable_4 tF_4_54 (lP_0 hq_r1) rfl (zI_v _ _ _) ?_
  refine g_if_leZ dX4_setVariable_7 rfl ⟨vI_lo _ _ _, vI_hi _ _ _⟩  (fun c7 => ?_) (fun c7 => ?_)
  · replace h := h.1 c7
    exact g_vret dX4_setVariable_46 rfl h
  · replace h := h.2 c7
    refine g_aload_n dX4_setVariable_10 rfl ?_
    obtain ⟨r11, hq_r11, e_r11, h⟩ := h
    refine g_getVZ (o := r11) dX4_setVariable_11 tF_4_50 lD_40 rfl e_r11 (q_lt hq_r11) ?_
    refine g_getR dX4_setVariable_14 tF_4_173 (lP_0 hq_r11) rfl ?_
    refine g_aload_n dX4_setVariable_17 rfl ?_
    obtain ⟨r18, hq_r18, e_r18, h⟩ := h
    refine g_getVZ (o := r18) dX4_setVariable_18 tF_4_50 lD_40 rfl e_r18 (q_lt hq_r18) ?_
    refine g_getZ (v := vI T r18 0) dX4_setVariable_21 tF_4_54 (lP_0 hq_r18) rfl (zI_v _ _ _) ?_
    refine g_iconst (v := zI 1) dX4_setVariable_24 (by decide) ?_
    refine g_isubZ dX4_setVariable_25 ?_
    refine g_iload_n dX4_setVariable_26 rfl ?_
    obtain ⟨a1, h⟩ := h
    obtain ⟨a2, h⟩ := h
    refine g_iastZ dX4_setVariable_27 (lP_2 hq_r11) a1 a2 (by decide) ?_
    refine g_aload_n dX4_setVariable_28 rfl ?_
    obtain ⟨r29, hq_r29, e_r29, h⟩ := h
    refine g_getVZ (o := r29) dX4_setVariable_29 tF_4_50 lD_40 rfl e_r29 (q_lt hq_r29) ?_
    refine g_getR dX4_setVariable_32 tF_4_176 (lP_0 hq_r29) rfl ?_
    refine g_aload_n dX4_setVariable_35 rfl ?_
    obtain ⟨r36, hq_r36, e_r36, h⟩ := h
    refine g_getVZ (o := r36) dX4_setVariable_36 tF_4_50 lD_40 rfl e_r36 (q_lt hq_r36) ?_
    refine g_getZ (v := vI (gI T (r11 + 2) ((vI T r18 0) - 1).toNat (zI l1)) r36 0) dX4_setVariable_39 tF_4_54 (lP_0 hq_r36) rfl (zI_v _ _ _) ?_
    refine g_iconst (v := zI 1) dX4_setVariable_42 (by decide) ?_
    refine g_isubZ dX4_setVariable_43 ?_
    refine g_iload_n dX4_setVariable_44 rfl ?_
    obtain ⟨a3, h⟩ := h
    obtain ⟨a4, h⟩ := h
    refine g_iastZ dX4_setVariable_45 (lP_3 hq_r29) a3 a4 (by decide) ?_
    exact g_vret dX4_setVariable_46 rfl h
def f_X4_endExpr (sa : Nat → Nat) (b : Nat) (E : Nat × mH) (d : Nat) (T : gT) (Q : Option Value → gT → Prop) : Prop := gW (tP sa) lD b E (d + 1) mX4_endExpr 7 [some (.ref (b + 40)), some (.int (zI ((vI T 40 14) - 1))), none] [] T Q
set_option maxRecDepth 4000 in
theorem w_X4_endExpr {sa : Nat → Nat} {b : Nat} {E : Nat × mH} {d : Nat} {T : gT} {Q : Option Value → gT → Prop} (h : f_X4_endExpr sa b E d T Q) : gC (tP sa) lD b E (d + 1) mX4_endExpr [.ref (b + 40)] T Q := by
  unfold f_X4_endExpr at h
  refine ⟨Nat.le_of_ble_eq_true rfl, ?_⟩
  show gW (tP sa) lD b E (d + 1) mX4_endExpr 0 [some (.ref (b + 40)), none, none] [] T Q
  refine g_aload_n dX4_endExpr_0 rfl ?_
  refine g_getZ (v := vI T 40 14) dX4_endExpr_1 tF_4_68 lD_40 rfl (zI_v T 40 14) ?_
  refine g_iconst (v := zI 1) dX4_endExpr_4 (by decide) ?_
  refine g_isubZ dX4_endExpr_5 ?_
  refine g_istore_n (L' := [some (.ref (b + 40)), some (.int (zI ((vI T 40 14) - 1))), none]) dX4_endExpr_6 rfl ?_
  exact h
def f_X4_endExpr_7 (sa : Nat → Nat) (b : Nat) (E : Nat × mH) (d : Nat) (l1 : Int) (T : gT) (Q : Option Value → gT → Prop) : Prop := (-2147483648 ≤ l1 ∧ l1 < 2147483648) ∧ ((l1 < 0 → Q none T) ∧ (¬ l1 < 0 → ((¬ (vI T 40 3) = (-1) → Q none T) ∧ ((vI T 40 3) = (-1) → 0 ≤ l1 ∧ l1 < 40 ∧ (((vI (gI T 44 l1.toNat (zI ((vI T 44 l1.toNat) - 1))) 44 l1.toNat) ≤ 0 → (∃ r53 : Nat, (r53 = 2 ∨ r53 = 21) ∧ vI T 40 4 = (r53 : Int) ∧ (((aI (gI T 44 l1.toNat (zI ((vI T 44 l1.toNat) - 1))) (r53 + 1) 200 (vI T 43 l1.toNat)) = 2 → gW (tP sa) lD b E (d + 1) mX4_endExpr 7 [some (.ref (b + 40)), some (.int (zI (l1 - 1))), some (.int (zI (vI T 43 l1.toNat)))] [] (gI (gI (gI T 44 l1.toNat (zI ((vI T 44 l1.toNat) - 1))) 40 9 (zI (vI T 45 l1.toNat))) 40 14 (zI l1)) Q) ∧ (¬ (aI (gI T 44 l1.toNat (zI ((vI T 44 l1.toNat) - 1))) (r53 + 1) 200 (vI T 43 l1.toNat)) = 2 → gC (tP sa) lD b E d mX4_expect [.ref (b + 40), .int (zI 41)] (gI T 44 l1.toNat (zI ((vI T 44 l1.toNat) - 1))) (fun r T70 => pV r (gW (tP sa) lD b E (d + 1) mX4_endExpr 7 [some (.ref (b + 40)), some (.int (zI (l1 - 1))), some (.int (zI (vI T 43 l1.toNat)))] [] (gI (gI T70 40 9 (zI (vI T70 45 l1.toNat))) 40 14 (zI l1)) Q)))))) ∧ (¬ (vI (gI T 44 l1.toNat (zI ((vI T 44 l1.toNat) - 1))) 44 l1.toNat) ≤ 0 → gC (tP sa) lD b E d mX4_bindLet [.ref (b + 40), .int (zI l1), .int (zI (vI T 43 l1.toNat))] (gI T 44 l1.toNat (zI ((vI T 44 l1.toNat) - 1))) (fun r T48 => pV r (Q none T48))))))))
set_option maxRecDepth 4000 in
theorem w_X4_endExpr_7 {sa : Nat → Nat} {b : Nat} {E : Nat × mH} {d : Nat} {l1 : Int} {T : gT} {Q : Option Value → gT → Prop} (h : f_X4_endExpr_7 sa b E d l1 T Q) : gW (tP sa) lD b E (d + 1) mX4_endExpr 7 [some (.ref (b + 40)), some (.int (zI l1)), none] [] T Q := by
  unfold f_X4_endExpr_7 at h
  refine g_iload_n dX4_endExpr_7 rfl ?_
  obtain ⟨a1, h⟩ := h
  refine g_if_ltZ dX4_endExpr_8 rfl a1  (fun c8 => ?_) (fun c8 => ?_)
  · replace h := h.1 c8
    exact g_vret dX4_endExpr_94 rfl h
  · replace h := h.2 c8
    refine g_aload_n dX4_endExpr_11 rfl ?_
    refine g_getZ (v := vI T 40 3) dX4_endExpr_12 tF_4_47 lD_40 rfl (zI_v T 40 3) ?_
    refine g_iconst (v := zI (-1)) dX4_endExpr_15 (by decide) ?_
    refine g_icmp_neZ dX4_endExpr_16 rfl ⟨vI_lo _ _ _, vI_hi _ _ _⟩ (by decide) (fun c16 => ?_) (fun c16 => ?_)
    · replace h := h.1 c16
      exact g_vret dX4_endExpr_94 rfl h
    · replace h := h.2 c16
      refine g_aload_n dX4_endExpr_19 rfl ?_
      refine g_getR dX4_endExpr_20 tF_4_18 lD_40 rfl ?_
      refine g_iload_n dX4_endExpr_23 rfl ?_
      obtain ⟨a2, h⟩ := h
      obtain ⟨a3, h⟩ := h
      refine g_ialdZ (v := vI T 43 l1.toNat) dX4_endExpr_24 lD_43 a2 a3 (by decide) (zI_v T 43 l1.toNat) ?_
      refine g_istore_n (L' := [some (.ref (b + 40)), some (.int (zI l1)), some (.int (zI (vI T 43 l1.toNat)))]) dX4_endExpr_25 rfl ?_
      refine g_aload_n dX4_endExpr_26 rfl ?_
      refine g_getR dX4_endExpr_27 tF_4_21 lD_40 rfl ?_
      refine g_iload_n dX4_endExpr_30 rfl ?_
      refine g_dup2 dX4_endExpr_31 rfl rfl ?_
      refine g_ialdZ (v := vI T 44 l1.toNat) dX4_endExpr_32 lD_44 a2 a3 (by decide) (zI_v T 44 l1.toNat) ?_
      refine g_iconst (v := zI 1) dX4_endExpr_33 (by decide) ?_
      refine g_isubZ dX4_endExpr_34 ?_
      refine g_iastZ dX4_endExpr_35 lD_44 a2 a3 (by decide) ?_
      refine g_aload_n dX4_endExpr_36 rfl ?_
      refine g_getR dX4_endExpr_37 tF_4_21 lD_40 rfl ?_
      refine g_iload_n dX4_endExpr_40 rfl ?_
      refine g_ialdZ (v := vI (gI T 44 l1.toNat (zI ((vI T 44 l1.toNat) - 1))) 44 l1.toNat) dX4_endExpr_41 lD_44 a2 a3 (by decide) (zI_v (gI T 44 l1.toNat (zI ((vI T 44 l1.toNat) - 1))) 44 l1.toNat) ?_
      refine g_if_leZ dX4_endExpr_42 rfl ⟨vI_lo _ _ _, vI_hi _ _ _⟩  (fun c42 => ?_) (fun c42 => ?_)
      · replace h := h.1 c42
        refine g_aload_n dX4_endExpr_52 rfl ?_
        obtain ⟨r53, hq_r53, e_r53, h⟩ := h
        refine g_getVZ (o := r53) dX4_endExpr_53 tF_4_50 lD_40 rfl e_r53 (q_lt hq_r53) ?_
        refine g_getR dX4_endExpr_56 tF_4_182 (lP_0 hq_r53) rfl ?_
        refine g_iload_n dX4_endExpr_59 rfl ?_
        refine g_callS [.ref (b + (r53 + 1)), .int (zI (vI T 43 l1.toNat))] [] dX4_endExpr_60 tG_4_169 tM_96 rfl rfl rfl rfl (by decide) ?_
        refine gC.mono (c_aI sa b E _ _ (lP_1 hq_r53) (by decide) ⟨vI_lo _ _ _, vI_hi _ _ _⟩) (Nat.le_refl _) ?_
        rintro _ _ ⟨rfl, h9⟩
        obtain rfl := h9.symm
        refine g_iconst (v := zI 2) dX4_endExpr_63 (by decide) ?_
        refine g_icmp_eqZ dX4_endExpr_64 rfl (aI_rg _ _ _ _) (by decide) (fun c64 => ?_) (fun c64 => ?_)
        · replace h := h.1 c64
          refine g_aload_n dX4_endExpr_73 rfl ?_
          refine g_aload_n dX4_endExpr_74 rfl ?_
          refine g_getR dX4_endExpr_75 tF_4_24 lD_40 rfl ?_
          refine g_iload_n dX4_endExpr_78 rfl ?_
          refine g_ialdZ (v := vI T 45 l1.toNat) dX4_endExpr_79 lD_45 a2 a3 (by decide) (zI_v T 45 l1.toNat) ?_
          refine g_putI dX4_endExpr_80 tF_4_65 lD_40 rfl rfl ⟨rfl, rfl⟩ rfl ?_
          refine g_aload_n dX4_endExpr_83 rfl ?_
          refine g_iload_n dX4_endExpr_84 rfl ?_
          refine g_putI dX4_endExpr_85 tF_4_68 lD_40 rfl rfl ⟨rfl, rfl⟩ rfl ?_
          refine g_iinc (x := zI l1) (v := zI (l1 - 1)) (L' := [some (.ref (b + 40)), some (.int (zI (l1 - 1))), some (.int (zI (vI T 43 l1.toNat)))]) dX4_endExpr_88 rfl ((zI_add _ _).trans (congrArg zI (show _ = l1 - 1 by omega))) rfl ?_
          refine g_goto dX4_endExpr_91 rfl ?_
          exact h
        · replace h := h.2 c64
          refine g_aload_n dX4_endExpr_67 rfl ?_
          refine g_bipush (v := zI 41) dX4_endExpr_68 (by decide) ?_
          refine g_callV [.ref (b + 40), .int (zI 41)] [] dX4_endExpr_70 tG_4_129 tM_63 lD_40 rfl rfl rfl rfl (by decide) rfl ?_
          refine gC.mono h (Nat.le_refl _) ?_
          rintro _ T70 ⟨rfl, h⟩
          refine g_aload_n dX4_endExpr_73 rfl ?_
          refine g_aload_n dX4_endExpr_74 rfl ?_
          refine g_getR dX4_endExpr_75 tF_4_24 lD_40 rfl ?_
          refine g_iload_n dX4_endExpr_78 rfl ?_
          refine g_ialdZ (v := vI T70 45 l1.toNat) dX4_endExpr_79 lD_45 a2 a3 (by decide) (zI_v T70 45 l1.toNat) ?_
          refine g_putI dX4_endExpr_80 tF_4_65 lD_40 rfl rfl ⟨rfl, rfl⟩ rfl ?_
          refine g_aload_n dX4_endExpr_83 rfl ?_
          refine g_iload_n dX4_endExpr_84 rfl ?_
          refine g_putI dX4_endExpr_85 tF_4_68 lD_40 rfl rfl ⟨rfl, rfl⟩ rfl ?_
          refine g_iinc (x := zI l1) (v := zI (l1 - 1)) (L' := [some (.ref (b + 40)), some (.int (zI (l1 - 1))), some (.int (zI (vI T 43 l1.toNat)))]) dX4_endExpr_88 rfl ((zI_add _ _).trans (congrArg zI (show _ = l1 - 1 by omega))) rfl ?_
          refine g_goto dX4_endExpr_91 rfl ?_
          exact h
      · replace h := h.2 c42
        refine g_aload_n dX4_endExpr_45 rfl ?_
        refine g_iload_n dX4_endExpr_46 rfl ?_
        refine g_iload_n dX4_endExpr_47 rfl ?_
        refine g_callV [.ref (b + 40), .int (zI l1), .int (zI (vI T 43 l1.toNat))] [] dX4_endExpr_48 tG_4_179 tM_68 lD_40 rfl rfl rfl rfl (by decide) rfl ?_
        refine gC.mono h (Nat.le_refl _) ?_
        rintro _ T48 ⟨rfl, h⟩
        exact g_vret dX4_endExpr_51 rfl h
def f_X4_endExpr_7b (sa : Nat → Nat) (b : Nat) (E : Nat × mH) (d : Nat) (l1 : Int) (l2 : Int) (T : gT) (Q : Option Value → gT → Prop) : Prop := (-2147483648 ≤ l1 ∧ l1 < 2147483648) ∧ ((l1 < 0 → Q none T) ∧ (¬ l1 < 0 → ((¬ (vI T 40 3) = (-1) → Q none T) ∧ ((vI T 40 3) = (-1) → 0 ≤ l1 ∧ l1 < 40 ∧ (((vI (gI T 44 l1.toNat (zI ((vI T 44 l1.toNat) - 1))) 44 l1.toNat) ≤ 0 → (∃ r53 : Nat, (r53 = 2 ∨ r53 = 21) ∧ vI T 40 4 = (r53 : Int) ∧ (((aI (gI T 44 l1.toNat (zI ((vI T 44 l1.toNat) - 1))) (r53 + 1) 200 (vI T 43 l1.toNat)) = 2 → gW (tP sa) lD b E (d + 1) mX4_endExpr 7 [some (.ref (b + 40)), some (.int (zI (l1 - 1))), some (.int (zI (vI T 43 l1.toNat)))] [] (gI (gI (gI T 44 l1.toNat (zI ((vI T 44 l1.toNat) - 1))) 40 9 (zI (vI T 45 l1.toNat))) 40 14 (zI l1)) Q) ∧ (¬ (aI (gI T 44 l1.toNat (zI ((vI T 44 l1.toNat) - 1))) (r53 + 1) 200 (vI T 43 l1.toNat)) = 2 → gC (tP sa) lD b E d mX4_expect [.ref (b + 40), .int (zI 41)] (gI T 44 l1.toNat (zI ((vI T 44 l1.toNat) - 1))) (fun r T70 => pV r (gW (tP sa) lD b E (d + 1) mX4_endExpr 7 [some (.ref (b + 40)), some (.int (zI (l1 - 1))), some (.int (zI (vI T 43 l1.toNat)))] [] (gI (gI T70 40 9 (zI (vI T70 45 l1.toNat))) 40 14 (zI l1)) Q)))))) ∧ (¬ (vI (gI T 44 l1.toNat (zI ((vI T 44 l1.toNat) - 1))) 44 l1.toNat) ≤ 0 → gC (tP sa) lD b E d mX4_bindLet [.ref (b + 40), .int (zI l1), .int (zI (vI T 43 l1.toNat))] (gI T 44 l1.toNat (zI ((vI T 44 l1.toNat) - 1))) (fun r T48 => pV r (Q none T48))))))))
set_option maxRecDepth 4000 in
theorem w_X4_endExpr_7b {sa : Nat → Nat} {b : Nat} {E : Nat × mH} {d : Nat} {l1 : Int} {l2 : Int} {T : gT} {Q : Option Value → gT → Prop} (h : f_X4_endExpr_7b sa b E d l1 l2 T Q) : gW (tP sa) lD b E (d + 1) mX4_endExpr 7 [some (.ref (b + 40)), some (.int (zI l1)), some (.int (zI l2))] [] T Q := by
  unfold f_X4_endExpr_7b at h
  refine g_iload_n dX4_endExpr_7 rfl ?_
  obtain ⟨a1, h⟩ := h
  refine g_if_ltZ dX4_endExpr_8 rfl a1  (fun c8 => ?_) (fun c8 => ?_)
  · replace h := h.1 c8
    exact g_vret dX4_endExpr_94 rfl h
  · replace h := h.2 c8
    refine g_aload_n dX4_endExpr_11 rfl ?_
    refine g_getZ (v := vI T 40 3) dX4_endExpr_12 tF_4_47 lD_40 rfl (zI_v T 40 3) ?_
    refine g_iconst (v := zI (-1)) dX4_endExpr_15 (by decide) ?_
    refine g_icmp_neZ dX4_endExpr_16 rfl ⟨vI_lo _ _ _, vI_hi _ _ _⟩ (by decide) (fun c16 => ?_) (fun c16 => ?_)
    · replace h := h.1 c16
      exact g_vret dX4_endExpr_94 rfl h
    · replace h := h.2 c16
      refine g_aload_n dX4_endExpr_19 rfl ?_
      refine g_getR dX4_endExpr_20 tF_4_18 lD_40 rfl ?_
      refine g_iload_n dX4_endExpr_23 rfl ?_
      obtain ⟨a2, h⟩ := h
      obtain ⟨a3, h⟩ := h
      refine g_ialdZ (v := vI T 43 l1.toNat) dX4_endExpr_24 lD_43 a2 a3 (by decide) (zI_v T 43 l1.toNat) ?_
      refine g_istore_n (L' := [some (.ref (b + 40)), some (.int (zI l1)), some (.int (zI (vI T 43 l1.toNat)))]) dX4_endExpr_25 rfl ?_
      refine g_aload_n dX4_endExpr_26 rfl ?_
      refine g_getR dX4_endExpr_27 tF_4_21 lD_40 rfl ?_
      refine g_iload_n dX4_endExpr_30 rfl ?_
      refine g_dup2 dX4_endExpr_31 rfl rfl ?_
      refine g_ialdZ (v := vI T 44 l1.toNat) dX4_endExpr_32 lD_44 a2 a3 (by decide) (zI_v T 44 l1.toNat) ?_
      refine g_iconst (v := zI 1) dX4_endExpr_33 (by decide) ?_
      refine g_isubZ dX4_endExpr_34 ?_
      refine g_iastZ dX4_endExpr_35 lD_44 a2 a3 (by decide) ?_
      refine g_aload_n dX4_endExpr_36 rfl ?_
      refine g_getR dX4_endExpr_37 tF_4_21 lD_40 rfl ?_
      refine g_iload_n dX4_endExpr_40 rfl ?_
      refine g_ialdZ (v := vI (gI T 44 l1.toNat (zI ((vI T 44 l1.toNat) - 1))) 44 l1.toNat) dX4_endExpr_41 lD_44 a2 a3 (by decide) (zI_v (gI T 44 l1.toNat (zI ((vI T 44 l1.toNat) - 1))) 44 l1.toNat) ?_
      refine g_if_leZ dX4_endExpr_42 rfl ⟨vI_lo _ _ _, vI_hi _ _ _⟩  (fun c42 => ?_) (fun c42 => ?_)
      · replace h := h.1 c42
        refine g_aload_n dX4_endExpr_52 rfl ?_
        obtain ⟨r53, hq_r53, e_r53, h⟩ := h
        refine g_getVZ (o := r53) dX4_endExpr_53 tF_4_50 lD_40 rfl e_r53 (q_lt hq_r53) ?_
        refine g_getR dX4_endExpr_56 tF_4_182 (lP_0 hq_r53) rfl ?_
        refine g_iload_n dX4_endExpr_59 rfl ?_
        refine g_callS [.ref (b + (r53 + 1)), .int (zI (vI T 43 l1.toNat))] [] dX4_endExpr_60 tG_4_169 tM_96 rfl rfl rfl rfl (by decide) ?_
        refine gC.mono (c_aI sa b E _ _ (lP_1 hq_r53) (by decide) ⟨vI_lo _ _ _, vI_hi _ _ _⟩) (Nat.le_refl _) ?_
        rintro _ _ ⟨rfl, h9⟩
        obtain rfl := h9.symm
        refine g_iconst (v := zI 2) dX4_endExpr_63 (by decide) ?_
        refine g_icmp_eqZ dX4_endExpr_64 rfl (aI_rg _ _ _ _) (by decide) (fun c64 => ?_) (fun c64 => ?_)
        · replace h := h.1 c64
          refine g_aload_n dX4_endExpr_73 rfl ?_
          refine g_aload_n dX4_endExpr_74 rfl ?_
          refine g_getR dX4_endExpr_75 tF_4_24 lD_40 rfl ?_
          refine g_iload_n dX4_endExpr_78 rfl ?_
          refine g_ialdZ (v := vI T 45 l1.toNat) dX4_endExpr_79 lD_45 a2 a3 (by decide) (zI_v T 45 l1.toNat) ?_
          refine g_putI dX4_endExpr_80 tF_4_65 lD_40 rfl rfl ⟨rfl, rfl⟩ rfl ?_
          refine g_aload_n dX4_endExpr_83 rfl ?_
          refine g_iload_n dX4_endExpr_84 rfl ?_
          refine g_putI dX4_endExpr_85 tF_4_68 lD_40 rfl rfl ⟨rfl, rfl⟩ rfl ?_
          refine g_iinc (x := zI l1) (v := zI (l1 - 1)) (L' := [some (.ref (b + 40)), some (.int (zI (l1 - 1))), some (.int (zI (vI T 43 l1.toNat)))]) dX4_endExpr_88 rfl ((zI_add _ _).trans (congrArg zI (show _ = l1 - 1 by omega))) rfl ?_
          refine g_goto dX4_endExpr_91 rfl ?_
          exact h
        · replace h := h.2 c64
          refine g_aload_n dX4_endExpr_67 rfl ?_
          refine g_bipush (v := zI 41) dX4_endExpr_68 (by decide) ?_
          refine g_callV [.ref (b + 40), .int (zI 41)] [] dX4_endExpr_70 tG_4_129 tM_63 lD_40 rfl rfl rfl rfl (by decide) rfl ?_
          refine gC.mono h (Nat.le_refl _) ?_
          rintro _ T70 ⟨rfl, h⟩
          refine g_aload_n dX4_endExpr_73 rfl ?_
          refine g_aload_n dX4_endExpr_74 rfl ?_
          refine g_getR dX4_endExpr_75 tF_4_24 lD_40 rfl ?_
          refine g_iload_n dX4_endExpr_78 rfl ?_
          refine g_ialdZ (v := vI T70 45 l1.toNat) dX4_endExpr_79 lD_45 a2 a3 (by decide) (zI_v T70 45 l1.toNat) ?_
          refine g_putI dX4_endExpr_80 tF_4_65 lD_40 rfl rfl ⟨rfl, rfl⟩ rfl ?_
          refine g_aload_n dX4_endExpr_83 rfl ?_
          refine g_iload_n dX4_endExpr_84 rfl ?_
          refine g_putI dX4_endExpr_85 tF_4_68 lD_40 rfl rfl ⟨rfl, rfl⟩ rfl ?_
          refine g_iinc (x := zI l1) (v := zI (l1 - 1)) (L' := [some (.ref (b + 40)), some (.int (zI (l1 - 1))), some (.int (zI (vI T 43 l1.toNat)))]) dX4_endExpr_88 rfl ((zI_add _ _).trans (congrArg zI (show _ = l1 - 1 by omega))) rfl ?_
          refine g_goto dX4_endExpr_91 rfl ?_
          exact h
      · replace h := h.2 c42
        refine g_aload_n dX4_endExpr_45 rfl ?_
        refine g_iload_n dX4_endExpr_46 rfl ?_
        refine g_iload_n dX4_endExpr_47 rfl ?_
        refine g_callV [.ref (b + 40), .int (zI l1), .int (zI (vI T 43 l1.toNat))] [] dX4_endExpr_48 tG_4_179 tM_68 lD_40 rfl rfl rfl rfl (by decide) rfl ?_
        refine gC.mono h (Nat.le_refl _) ?_
        rintro _ T48 ⟨rfl, h⟩
        exact g_vret dX4_endExpr_51 rfl h
def f_X6_clear (sa : Nat → Nat) (b : Nat) (E : Nat × mH) (d : Nat) (T : gT) (Q : Option Value → gT → Prop) : Prop := Q (some (.int (zI (vI T 0 1)))) (gI T 0 1 (zI 0))
set_option maxRecDepth 4000 in
theorem w_X6_clear {sa : Nat → Nat} {b : Nat} {E : Nat × mH} {d : Nat} {T : gT} {Q : Option Value → gT → Prop} (h : f_X6_clear sa b E d T Q) : gC (tP sa) lD b E d mX6_clear [.ref (b + 0)] T Q := by
  unfold f_X6_clear at h
  refine ⟨Nat.le_of_ble_eq_true rfl, ?_⟩
  show gW (tP sa) lD b E d mX6_clear 0 [some (.ref (b + 0)), none] [] T Q
  refine g_aload_n dX6_clear_0 rfl ?_
  refine g_getZ (v := vI T 0 1) dX6_clear_1 tF_6_58 lD_0 rfl (zI_v T 0 1) ?_
  refine g_istore_n (L' := [some (.ref (b + 0)), some (.int (zI (vI T 0 1)))]) dX6_clear_4 rfl ?_
  refine g_aload_n dX6_clear_5 rfl ?_
  refine g_iconst (v := zI 0) dX6_clear_6 (by decide) ?_
  refine g_putI dX6_clear_7 tF_6_58 lD_0 rfl rfl ⟨rfl, rfl⟩ rfl ?_
  refine g_iload_n dX6_clear_10 rfl ?_
  exact g_iret dX6_clear_11 rfl rfl h
def f_X6_read (sa : Nat → Nat) (b : Nat) (E : Nat × mH) (d : Nat) (T : gT) (Q : Option Value → gT → Prop) : Prop := (∃ r13 : Nat, (r13 = 2 ∨ r13 = 21) ∧ vI T 0 3 = (r13 : Int) ∧ gC (tP sa) lD b E d mX4_load [.ref (b + 40), .ref (b + 1), .int (zI (vI T 0 1)), .ref (b + r13)] T (fun r T16 => pI r (fun v16 => (-2147483648 ≤ v16 ∧ v16 < 2147483648) ∧ ((¬ v16 = (-1) → Q (some (.int (zI v16))) T16) ∧ (v16 = (-1) → gC (tP sa) lD b E d mX6_takeSpare [.ref (b + 0)] T16 (fun r T26 => pV r (Q (some (.int (zI v16))) T26)))))))
set_option maxRecDepth 4000 in
theorem w_X6_read {sa : Nat → Nat} {b : Nat} {E : Nat × mH} {d : Nat} {T : gT} {Q : Option Value → gT → Prop} (h : f_X6_read sa b E d T Q) : gC (tP sa) lD b E (d + 1) mX6_read [.ref (b + 0)] T Q := by
  unfold f_X6_read at h
  refine ⟨Nat.le_of_ble_eq_true rfl, ?_⟩
  show gW (tP sa) lD b E (d + 1) mX6_read 0 [some (.ref (b + 0)), none] [] T Q
  refine g_aload_n dX6_read_0 rfl ?_
  refine g_getR dX6_read_1 tF_6_26 lD_0 rfl ?_
  refine g_aload_n dX6_read_4 rfl ?_
  refine g_getR dX6_read_5 tF_6_9 lD_0 rfl ?_
  refine g_aload_n dX6_read_8 rfl ?_
  refine g_getZ (v := vI T 0 1) dX6_read_9 tF_6_58 lD_0 rfl (zI_v T 0 1) ?_
  refine g_aload_n dX6_read_12 rfl ?_
  obtain ⟨r13, hq_r13, e_r13, h⟩ := h
  refine g_getVZ (o := r13) dX6_read_13 tF_6_20 lD_0 rfl e_r13 (q_lt hq_r13) ?_
  refine g_callV [.ref (b + 40), .ref (b + 1), .int (zI (vI T 0 1)), .ref (b + r13)] [] dX6_read_16 tG_6_67 tM_45 lD_40 rfl rfl rfl rfl (by decide) rfl ?_
  refine gC.mono h (Nat.le_refl _) ?_
  rintro _ T16 ⟨v16, rfl, h⟩
  refine g_istore_n (L' := [some (.ref (b + 0)), some (.int (zI v16))]) dX6_read_19 rfl ?_
  refine g_iload_n dX6_read_20 rfl ?_
  refine g_iconst (v := zI (-1)) dX6_read_21 (by decide) ?_
  obtain ⟨a1, h⟩ := h
  refine g_icmp_neZ dX6_read_22 rfl a1 (by decide) (fun c22 => ?_) (fun c22 => ?_)
  · replace h := h.1 c22
    refine g_iload_n dX6_read_29 rfl ?_
    exact g_iret dX6_read_30 rfl rfl h
  · replace h := h.2 c22
    refine g_aload_n dX6_read_25 rfl ?_
    refine g_callV [.ref (b + 0)] [] dX6_read_26 tG_6_71 tM_98 lD_0 rfl rfl rfl rfl (by decide) rfl ?_
    refine gC.mono h (Nat.le_refl _) ?_
    rintro _ T26 ⟨rfl, h⟩
    refine g_iload_n dX6_read_29 rfl ?_
    exact g_iret dX6_read_30 rfl rfl h
def f_X6_expr (sa : Nat → Nat) (b : Nat) (E : Nat × mH) (d : Nat) (l1 : Int) (l2 : Int) (T : gT) (Q : Option Value → gT → Prop) : Prop := gC (tP sa) lD b E d mX6_isLabel [.ref (b + 0), .int (zI l1)] T (fun r T2 => pI r (fun v2 => (-2147483648 ≤ v2 ∧ v2 < 2147483648) ∧ ((¬ v2 = 0 → (-2147483648 ≤ l2 ∧ l2 < 2147483648) ∧ ((l2 = 0 → (∃ r61 : Nat, (r61 = 2 ∨ r61 = 21) ∧ vI T2 0 2 = (r61 : Int) ∧ 0 ≤ l1 ∧ l1 < 200 ∧ Q (some (.int (zI (vI T2 (r61 + 1) l1.toNat)))) T2)) ∧ (l2 = 1 → (∃ r71 : Nat, (r71 = 2 ∨ r71 = 21) ∧ vI T2 0 2 = (r71 : Int) ∧ 0 ≤ l1 ∧ l1 < 200 ∧ Q (some (.int (zI (vI T2 (r71 + 2) l1.toNat)))) T2)) ∧ (l2 = 2 → (∃ r81 : Nat, (r81 = 2 ∨ r81 = 21) ∧ vI T2 0 2 = (r81 : Int) ∧ 0 ≤ l1 ∧ l1 < 200 ∧ Q (some (.int (zI (vI T2 (r81 + 4) l1.toNat)))) T2)) ∧ (l2 = 3 → (∃ r91 : Nat, (r91 = 2 ∨ r91 = 21) ∧ vI T2 0 2 = (r91 : Int) ∧ (-2147483648 ≤ l1 ∧ l1 < 2147483648) ∧ Q (some (.int (zI (aP T2 r91 l1 0)))) T2)) ∧ (l2 = 4 → (∃ r101 : Nat, (r101 = 2 ∨ r101 = 21) ∧ vI T2 0 2 = (r101 : Int) ∧ (-2147483648 ≤ l1 ∧ l1 < 2147483648) ∧ Q (some (.int (zI (aP T2 r101 l1 1)))) T2)) ∧ (l2 = 5 → (∃ r111 : Nat, (r111 = 2 ∨ r111 = 21) ∧ vI T2 0 2 = (r111 : Int) ∧ (-2147483648 ≤ l1 ∧ l1 < 2147483648) ∧ Q (some (.int (zI (aP T2 r111 l1 2)))) T2)) ∧ (l2 = 6 → (∃ r121 : Nat, (r121 = 2 ∨ r121 = 21) ∧ vI T2 0 2 = (r121 : Int) ∧ 0 ≤ l1 ∧ l1 < 200 ∧ Q (some (.int (zI (vI T2 (r121 + 5) l1.toNat)))) T2)) ∧ (l2 = 7 → (∃ r131 : Nat, (r131 = 2 ∨ r131 = 21) ∧ vI T2 0 2 = (r131 : Int) ∧ 0 ≤ l1 ∧ l1 < 200 ∧ Q (some (.int (zI (vI T2 (r131 + 6) l1.toNat)))) T2)) ∧ ((¬ l2 = 0 ∧ ¬ l2 = 1 ∧ ¬ l2 = 2 ∧ ¬ l2 = 3 ∧ ¬ l2 = 4 ∧ ¬ l2 = 5 ∧ ¬ l2 = 6 ∧ ¬ l2 = 7) → Q (some (.int (zI (-2)))) T2))) ∧ (v2 = 0 → Q (some (.int (zI (-2)))) T2))))
set_option maxRecDepth 4000 in
theorem w_X6_expr {sa : Nat → Nat} {b : Nat} {E : Nat × mH} {d : Nat} {l1 : Int} {l2 : Int} {T : gT} {Q : Option Value → gT → Prop} (h : f_X6_expr sa b E d l1 l2 T Q) : gC (tP sa) lD b E (d + 1) mX6_expr [.ref (b + 0), .int (zI l1), .int (zI l2)] T Q := by
  unfold f_X6_expr at h
  refine ⟨Nat.le_of_ble_eq_true rfl, ?_⟩
  show gW (tP sa) lD b E (d + 1) mX6_expr 0 [some (.ref (b + 0)), some (.int (zI l1)), some (.int (zI l2))] [] T Q
  refine g_aload_n dX6_expr_0 rfl ?_
  refine g_iload_n dX6_expr_1 rfl ?_
  refine g_callV [.ref (b + 0), .int (zI l1)] [] dX6_expr_2 tG_6_90 tM_99 lD_0 rfl rfl rfl rfl (by decide) rfl ?_
  refine gC.mono h (Nat.le_refl _) ?_
  rintro _ T2 ⟨v2, rfl, h⟩
  obtain ⟨a1, h⟩ := h
  refine g_if_neZ dX6_expr_5 rfl a1  (fun c5 => ?_) (fun c5 => ?_)
  · replace h := h.1 c5
    refine g_iload_n dX6_expr_11 rfl ?_
    obtain ⟨a2, h⟩ := h
    by_cases c9 : l2 = 0
    · replace h := h.1 c9
      refine g_tabC (c := 0) (off := 48) dX6_expr_12 a2 c9 (by decide) rfl rfl ?_
      refine g_aload_n dX6_expr_60 rfl ?_
      obtain ⟨r61, hq_r61, e_r61, h⟩ := h
      refine g_getVZ (o := r61) dX6_expr_61 tF_6_16 lD_0 rfl e_r61 (q_lt hq_r61) ?_
      refine g_getR dX6_expr_64 tF_6_94 (lP_0 hq_r61) rfl ?_
      refine g_iload_n dX6_expr_67 rfl ?_
      obtain ⟨a3, h⟩ := h
      obtain ⟨a4, h⟩ := h
      refine g_ialdZ (v := vI T2 (r61 + 1) l1.toNat) dX6_expr_68 (lP_1 hq_r61) a3 a4 (by decide) (zI_v T2 (r61 + 1) l1.toNat) ?_
      exact g_iret dX6_expr_69 rfl rfl h
    have n0_12 := c9
    by_cases c9 : l2 = 1
    · replace h := h.2.1 c9
      refine g_tabC (c := 1) (off := 58) dX6_expr_12 a2 c9 (by decide) rfl rfl ?_
      refine g_aload_n dX6_expr_70 rfl ?_
      obtain ⟨r71, hq_r71, e_r71, h⟩ := h
      refine g_getVZ (o := r71) dX6_expr_71 tF_6_16 lD_0 rfl e_r71 (q_lt hq_r71) ?_
      refine g_getR dX6_expr_74 tF_6_98 (lP_0 hq_r71) rfl ?_
      refine g_iload_n dX6_expr_77 rfl ?_
      obtain ⟨a5, h⟩ := h
      obtain ⟨a6, h⟩ := h
      refine g_ialdZ (v := vI T2 (r71 + 2) l1.toNat) dX6_expr_78 (lP_2 hq_r71) a5 a6 (by decide) (zI_v T2 (r71 + 2) l1.toNat) ?_
      exact g_iret dX6_expr_79 rfl rfl h
    have n1_12 := c9
    by_cases c9 : l2 = 2
    · replace h := h.2.2.1 c9
      refine g_tabC (c := 2) (off := 68) dX6_expr_12 a2 c9 (by decide) rfl rfl ?_
      refine g_aload_n dX6_expr_80 rfl ?_
      obtain ⟨r81, hq_r81, e_r81, h⟩ := h
      refine g_getVZ (o := r81) dX6_expr_81 tF_6_16 lD_0 rfl e_r81 (q_lt hq_r81) ?_
      refine g_getR dX6_expr_84 tF_6_101 (lP_0 hq_r81) rfl ?_
      refine g_iload_n dX6_expr_87 rfl ?_
      obtain ⟨a7, h⟩ := h
      obtain ⟨a8, h⟩ := h
      refine g_ialdZ (v := vI T2 (r81 + 4) l1.toNat) dX6_expr_88 (lP_4 hq_r81) a7 a8 (by decide) (zI_v T2 (r81 + 4) l1.toNat) ?_
      exact g_iret dX6_expr_89 rfl rfl h
    have n2_12 := c9
    by_cases c9 : l2 = 3
    · replace h := h.2.2.2.1 c9
      refine g_tabC (c := 3) (off := 78) dX6_expr_12 a2 c9 (by decide) rfl rfl ?_
      refine g_aload_n dX6_expr_90 rfl ?_
      obtain ⟨r91, hq_r91, e_r91, h⟩ := h
      refine g_getVZ (o := r91) dX6_expr_91 tF_6_16 lD_0 rfl e_r91 (q_lt hq_r91) ?_
      refine g_iload_n dX6_expr_94 rfl ?_
      refine g_iconst (v := zI 0) dX6_expr_95 (by decide) ?_
      obtain ⟨a9, h⟩ := h
      refine g_callV [.ref (b + r91), .int (zI l1), .int (zI 0)] [] dX6_expr_96 tG_6_104 tM_39 (lP_0 hq_r91) rfl rfl rfl rfl (by decide) rfl ?_
      refine gC.mono (c_part sa b E _ _ hq_r91 a9 (by decide)) (Nat.le_refl _) ?_
      rintro _ _ ⟨rfl, h9⟩
      obtain rfl := h9.symm
      exact g_iret dX6_expr_99 rfl rfl h
    have n3_12 := c9
    by_cases c9 : l2 = 4
    · replace h := h.2.2.2.2.1 c9
      refine g_tabC (c := 4) (off := 88) dX6_expr_12 a2 c9 (by decide) rfl rfl ?_
      refine g_aload_n dX6_expr_100 rfl ?_
      obtain ⟨r101, hq_r101, e_r101, h⟩ := h
      refine g_getVZ (o := r101) dX6_expr_101 tF_6_16 lD_0 rfl e_r101 (q_lt hq_r101) ?_
      refine g_iload_n dX6_expr_104 rfl ?_
      refine g_iconst (v := zI 1) dX6_expr_105 (by decide) ?_
      obtain ⟨a10, h⟩ := h
      refine g_callV [.ref (b + r101), .int (zI l1), .int (zI 1)] [] dX6_expr_106 tG_6_104 tM_39 (lP_0 hq_r101) rfl rfl rfl rfl (by decide) rfl ?_
      refine gC.mono (c_part sa b E _ _ hq_r101 a10 (by decide)) (Nat.le_refl _) ?_
      rintro _ _ ⟨rfl, h9⟩
      obtain rfl := h9.symm
      exact g_iret dX6_expr_109 rfl rfl h
    have n4_12 := c9
    by_cases c9 : l2 = 5
    · replace h := h.2.2.2.2.2.1 c9
      refine g_tabC (c := 5) (off := 98) dX6_expr_12 a2 c9 (by decide) rfl rfl ?_
      refine g_aload_n dX6_expr_110 rfl ?_
      obtain ⟨r111, hq_r111, e_r111, h⟩ := h
      refine g_getVZ (o := r111) dX6_expr_111 tF_6_16 lD_0 rfl e_r111 (q_lt hq_r111) ?_
      refine g_iload_n dX6_expr_114 rfl ?_
      refine g_iconst (v := zI 2) dX6_expr_115 (by decide) ?_
      obtain ⟨a11, h⟩ := h
      refine g_callV [.ref (b + r111), .int (zI l1), .int (zI 2)] [] dX6_expr_116 tG_6_104 tM_39 (lP_0 hq_r111) rfl rfl rfl rfl (by decide) rfl ?_
      refine gC.mono (c_part sa b E _ _ hq_r111 a11 (by decide)) (Nat.le_refl _) ?_
      rintro _ _ ⟨rfl, h9⟩
      obtain rfl := h9.symm
      exact g_iret dX6_expr_119 rfl rfl h
    have n5_12 := c9
    by_cases c9 : l2 = 6
    · replace h := h.2.2.2.2.2.2.1 c9
      refine g_tabC (c := 6) (off := 108) dX6_expr_12 a2 c9 (by decide) rfl rfl ?_
      refine g_aload_n dX6_expr_120 rfl ?_
      obtain ⟨r121, hq_r121, e_r121, h⟩ := h
      refine g_getVZ (o := r121) dX6_expr_121 tF_6_16 lD_0 rfl e_r121 (q_lt hq_r121) ?_
      refine g_getR dX6_expr_124 tF_6_108 (lP_0 hq_r121) rfl ?_
      refine g_iload_n dX6_expr_127 rfl ?_
      obtain ⟨a12, h⟩ := h
      obtain ⟨a13, h⟩ := h
      refine g_ialdZ (v := vI T2 (r121 + 5) l1.toNat) dX6_expr_128 (lP_5 hq_r121) a12 a13 (by decide) (zI_v T2 (r121 + 5) l1.toNat) ?_
      exact g_iret dX6_expr_129 rfl rfl h
    have n6_12 := c9
    by_cases c9 : l2 = 7
    · replace h := h.2.2.2.2.2.2.2.1 c9
      refine g_tabC (c := 7) (off := 118) dX6_expr_12 a2 c9 (by decide) rfl rfl ?_
      refine g_aload_n dX6_expr_130 rfl ?_
      obtain ⟨r131, hq_r131, e_r131, h⟩ := h
      refine g_getVZ (o := r131) dX6_expr_131 tF_6_16 lD_0 rfl e_r131 (q_lt hq_r131) ?_
      refine g_getR dX6_expr_134 tF_6_111 (lP_0 hq_r131) rfl ?_
      refine g_iload_n dX6_expr_137 rfl ?_
      obtain ⟨a14, h⟩ := h
      obtain ⟨a15, h⟩ := h
      refine g_ialdZ (v := vI T2 (r131 + 6) l1.toNat) dX6_expr_138 (lP_6 hq_r131) a14 a15 (by decide) (zI_v T2 (r131 + 6) l1.toNat) ?_
      exact g_iret dX6_expr_139 rfl rfl h
    have n7_12 := c9
    replace h := h.2.2.2.2.2.2.2.2 ⟨n0_12, n1_12, n2_12, n3_12, n4_12, n5_12, n6_12, n7_12⟩
    have o7 : ¬ (l2 < 0 ∨ 7 < l2) → (#[48, 58, 68, 78, 88, 98, 108, 118] : Array Int)[(l2 - 0).toNat]? = some 128 := by
      intro o9
      exact absurd o9 (by omega)
    refine g_tabD dX6_expr_12 a2 o7 rfl ?_
    refine g_bipush (v := zI (-2)) dX6_expr_140 (by decide) ?_
    exact g_iret dX6_expr_142 rfl rfl h
  · replace h := h.2 c5
    refine g_bipush (v := zI (-2)) dX6_expr_8 (by decide) ?_
    exact g_iret dX6_expr_10 rfl rfl h
def f_X6_inline (sa : Nat → Nat) (b : Nat) (E : Nat × mH) (d : Nat) (l1 : Int) (T : gT) (Q : Option Value → gT → Prop) : Prop := gC (tP sa) lD b E (d + 1) mX6_isOfKind [.ref (b + 0), .int (zI l1), .int (zI 11)] T (fun r T4 => pI r (fun v4 => (-2147483648 ≤ v4 ∧ v4 < 2147483648) ∧ ((¬ v4 = 0 → gC (tP sa) lD b E (d + 1) mX6_isInlinable [.ref (b + 0), .int (zI l1)] T4 (fun r T15 => pI r (fun v15 => (-2147483648 ≤ v15 ∧ v15 < 2147483648) ∧ ((¬ v15 = 0 → (∃ r24 : Nat, (r24 = 2 ∨ r24 = 21) ∧ vI T15 0 2 = (r24 : Int) ∧ gC (tP sa) lD b E (d + 1) mX6_onlyFunction [.ref (b + 0), .int (zI l1)] T15 (fun r T32 => pI r (fun v32 => (-2147483648 ≤ v32 ∧ v32 < 2147483648) ∧ (∃ r40 : Nat, (r40 = 2 ∨ r40 = 21) ∧ vI T32 0 2 = (r40 : Int) ∧ (∃ r50 : Nat, (r50 = 2 ∨ r50 = 21) ∧ vI T32 0 2 = (r50 : Int) ∧ (-2147483648 ≤ l1 ∧ l1 < 2147483648) ∧ gC (tP sa) lD b E (d + 1) mX6_hasRoom [.ref (b + 0), .int (zI (l1 + 1)), .int (zI (aP T32 r50 l1 1)), .int (zI (aP T32 r40 (aI T32 (r24 + 7) 50 v32) 0))] T32 (fun r T67 => pI r (fun v67 => (-2147483648 ≤ v67 ∧ v67 < 2147483648) ∧ ((¬ v67 = 0 → (∃ r76 : Nat, (r76 = 2 ∨ r76 = 21) ∧ vI T67 0 3 = (r76 : Int) ∧ (∃ r84 : Nat, (r84 = 2 ∨ r84 = 21) ∧ vI (gI T67 r76 0 (zI 0)) 0 3 = (r84 : Int) ∧ (∃ r88 : Nat, (r88 = 2 ∨ r88 = 21) ∧ vI (gI T67 r76 0 (zI 0)) 0 2 = (r88 : Int) ∧ gC (tP sa) lD b E (d + 1) mX3_addCopies [.ref (b + r84), .ref (b + r88), .int (zI 0), .int (zI l1), .int (zI 0)] (gI T67 r76 0 (zI 0)) (fun r T94 => pV r ((∃ r98 : Nat, (r98 = 2 ∨ r98 = 21) ∧ vI T94 0 3 = (r98 : Int) ∧ (∃ r103 : Nat, (r103 = 2 ∨ r103 = 21) ∧ vI T94 0 2 = (r103 : Int) ∧ gC (tP sa) lD b E (d + 1) mX3_add [.ref (b + r98), .int (zI 5), .int (zI ((aI T94 (r103 + 2) 200 (aI T32 (r24 + 7) 50 v32)) + 100)), .int (zI (-1))] T94 (fun r T117 => pI r (fun v117 => (∃ r122 : Nat, (r122 = 2 ∨ r122 = 21) ∧ vI T117 0 3 = (r122 : Int) ∧ (∃ r126 : Nat, (r126 = 2 ∨ r126 = 21) ∧ vI T117 0 2 = (r126 : Int) ∧ (∃ r132 : Nat, (r132 = 2 ∨ r132 = 21) ∧ vI T117 0 2 = (r132 : Int) ∧ gC (tP sa) lD b E (d + 1) mX3_addCopies [.ref (b + r122), .ref (b + r126), .int (zI (aP T32 r50 l1 1)), .int (zI (aI T117 (r132 + 17) 200 (aP T32 r50 l1 1))), .int (zI 0)] T117 (fun r T141 => pV r ((∃ r145 : Nat, (r145 = 2 ∨ r145 = 21) ∧ vI T141 0 3 = (r145 : Int) ∧ (∃ r149 : Nat, (r149 = 2 ∨ r149 = 21) ∧ vI T141 0 2 = (r149 : Int) ∧ (∃ r154 : Nat, (r154 = 2 ∨ r154 = 21) ∧ vI T141 0 2 = (r154 : Int) ∧ gC (tP sa) lD b E (d + 1) mX3_addCopies [.ref (b + r145), .ref (b + r149), .int (zI (aP T32 r40 (aI T32 (r24 + 7) 50 v32) 0)), .int (zI (aI T141 (r154 + 17) 200 (aP T32 r40 (aI T32 (r24 + 7) 50 v32) 0))), .int (zI 100)] T141 (fun r T163 => pV r ((∃ r167 : Nat, (r167 = 2 ∨ r167 = 21) ∧ vI T163 0 3 = (r167 : Int) ∧ (∃ r171 : Nat, (r171 = 2 ∨ r171 = 21) ∧ vI T163 0 2 = (r171 : Int) ∧ (∃ r175 : Nat, (r175 = 2 ∨ r175 = 21) ∧ vI T163 0 2 = (r175 : Int) ∧ (∃ r183 : Nat, (r183 = 2 ∨ r183 = 21) ∧ vI T163 0 2 = (r183 : Int) ∧ gC (tP sa) lD b E (d + 1) mX3_addCopies [.ref (b + r167), .ref (b + r171), .int (zI (aI T163 (r175 + 17) 200 l1)), .int (zI (vI T163 r183 0)), .int (zI 0)] T163 (fun r T190 => pV r (gC (tP sa) lD b E (d + 1) mX6_takeSpare [.ref (b + 0)] T190 (fun r T194 => pV r ((∃ r198 : Nat, (r198 = 2 ∨ r198 = 21) ∧ vI T194 0 2 = (r198 : Int) ∧ Q (some (.int (zI (vI T194 r198 0)))) T194))))))))))))))))))))))))))))) ∧ (v67 = 0 → Q (some (.int (zI (-1)))) T67)))))))))) ∧ (v15 = 0 → Q (some (.int (zI (-1)))) T15))))) ∧ (v4 = 0 → Q (some (.int (zI (-2)))) T4))))
set_option maxRecDepth 4000 in
theorem w_X6_inline {sa : Nat → Nat} {b : Nat} {E : Nat × mH} {d : Nat} {l1 : Int} {T : gT} {Q : Option Value → gT → Prop} (h : f_X6_inline sa b E d l1 T Q) : gC (tP sa) lD b E (d + 1 + 1) mX6_inline [.ref (b + 0), .int (zI l1)] T Q := by
  unfold f_X6_inline at h
  refine ⟨Nat.le_of_ble_eq_true rfl, ?_⟩
  show gW (tP sa) lD b E (d + 1 + 1) mX6_inline 0 [some (.ref (b + 0)), some (.int (zI l1)), none, none, none] [] T Q
  refine g_aload_n dX6_inline_0 rfl ?_
  refine g_iload_n dX6_inline_1 rfl ?_
  refine g_bipush (v := zI 11) dX6_inline_2 (by decide) ?_
  refine g_callV [.ref (b + 0), .int (zI l1), .int (zI 11)] [] dX6_inline_4 tG_6_143 tM_100 lD_0 rfl rfl rfl rfl (by decide) rfl ?_
  refine gC.mono h (Nat.le_refl _) ?_
  rintro _ T4 ⟨v4, rfl, h⟩
  obtain ⟨a1, h⟩ := h
  refine g_if_neZ dX6_inline_7 rfl a1  (fun c7 => ?_) (fun c7 => ?_)
  · replace h := h.1 c7
    refine g_aload_n dX6_inline_13 rfl ?_
    refine g_iload_n dX6_inline_14 rfl ?_
    refine g_callV [.ref (b + 0), .int (zI l1)] [] dX6_inline_15 tG_6_164 tM_104 lD_0 rfl rfl rfl rfl (by decide) rfl ?_
    refine gC.mono h (Nat.le_refl _) ?_
    rintro _ T15 ⟨v15, rfl, h⟩
    obtain ⟨a2, h⟩ := h
    refine g_if_neZ dX6_inline_18 rfl a2  (fun c18 => ?_) (fun c18 => ?_)
    · replace h := h.1 c18
      refine g_aload_n dX6_inline_23 rfl ?_
      obtain ⟨r24, hq_r24, e_r24, h⟩ := h
      refine g_getVZ (o := r24) dX6_inline_24 tF_6_16 lD_0 rfl e_r24 (q_lt hq_r24) ?_
      refine g_getR dX6_inline_27 tF_6_124 (lP_0 hq_r24) rfl ?_
      refine g_aload_n dX6_inline_30 rfl ?_
      refine g_iload_n dX6_inline_31 rfl ?_
      refine g_callV [.ref (b + 0), .int (zI l1)] [.ref (b + (r24 + 7))] dX6_inline_32 tG_6_147 tM_103 lD_0 rfl rfl rfl rfl (by decide) rfl ?_
      refine gC.mono h (Nat.le_refl _) ?_
      rintro _ T32 ⟨v32, rfl, h⟩
      obtain ⟨a3, h⟩ := h
      refine g_callS [.ref (b + (r24 + 7)), .int (zI v32)] [] dX6_inline_35 tG_6_127 tM_96 rfl rfl rfl rfl (by decide) ?_
      refine gC.mono (c_aI sa b E _ _ (lP_7 hq_r24) (by decide) a3) (Nat.le_refl _) ?_
      rintro _ _ ⟨rfl, h9⟩
      obtain rfl := h9.symm
      refine g_istore_n (L' := [some (.ref (b + 0)), some (.int (zI l1)), some (.int (zI (aI T32 (r24 + 7) 50 v32))), none, none]) dX6_inline_38 rfl ?_
      refine g_aload_n dX6_inline_39 rfl ?_
      obtain ⟨r40, hq_r40, e_r40, h⟩ := h
      refine g_getVZ (o := r40) dX6_inline_40 tF_6_16 lD_0 rfl e_r40 (q_lt hq_r40) ?_
      refine g_iload_n dX6_inline_43 rfl ?_
      refine g_iconst (v := zI 0) dX6_inline_44 (by decide) ?_
      refine g_callV [.ref (b + r40), .int (zI (aI T32 (r24 + 7) 50 v32)), .int (zI 0)] [] dX6_inline_45 tG_6_104 tM_39 (lP_0 hq_r40) rfl rfl rfl rfl (by decide) rfl ?_
      refine gC.mono (c_part sa b E _ _ hq_r40 (aI_rg _ _ _ _) (by decide)) (Nat.le_refl _) ?_
      rintro _ _ ⟨rfl, h9⟩
      obtain rfl := h9.symm
      refine g_istore_n (L' := [some (.ref (b + 0)), some (.int (zI l1)), some (.int (zI (aI T32 (r24 + 7) 50 v32))), some (.int (zI (aP T32 r40 (aI T32 (r24 + 7) 50 v32) 0))), none]) dX6_inline_48 rfl ?_
      refine g_aload_n dX6_inline_49 rfl ?_
      obtain ⟨r50, hq_r50, e_r50, h⟩ := h
      refine g_getVZ (o := r50) dX6_inline_50 tF_6_16 lD_0 rfl e_r50 (q_lt hq_r50) ?_
      refine g_iload_n dX6_inline_53 rfl ?_
      refine g_iconst (v := zI 1) dX6_inline_54 (by decide) ?_
      obtain ⟨a4, h⟩ := h
      refine g_callV [.ref (b + r50), .int (zI l1), .int (zI 1)] [] dX6_inline_55 tG_6_104 tM_39 (lP_0 hq_r50) rfl rfl rfl rfl (by decide) rfl ?_
      refine gC.mono (c_part sa b E _ _ hq_r50 a4 (by decide)) (Nat.le_refl _) ?_
      rintro _ _ ⟨rfl, h9⟩
      obtain rfl := h9.symm
      refine g_istore (L' := [some (.ref (b + 0)), some (.int (zI l1)), some (.int (zI (aI T32 (r24 + 7) 50 v32))), some (.int (zI (aP T32 r40 (aI T32 (r24 + 7) 50 v32) 0))), some (.int (zI (aP T32 r50 l1 1)))]) dX6_inline_58 rfl ?_
      refine g_aload_n dX6_inline_60 rfl ?_
      refine g_iload_n dX6_inline_61 rfl ?_
      refine g_iconst (v := zI 1) dX6_inline_62 (by decide) ?_
      refine g_iaddZ dX6_inline_63 ?_
      refine g_iload dX6_inline_64 rfl ?_
      refine g_iload_n dX6_inline_66 rfl ?_
      refine g_callV [.ref (b + 0), .int (zI (l1 + 1)), .int (zI (aP T32 r50 l1 1)), .int (zI (aP T32 r40 (aI T32 (r24 + 7) 50 v32) 0))] [] dX6_inline_67 tG_6_167 tM_106 lD_0 rfl rfl rfl rfl (by decide) rfl ?_
      refine gC.mono h (Nat.le_refl _) ?_
      rintro _ T67 ⟨v67, rfl, h⟩
      obtain ⟨a5, h⟩ := h
      refine g_if_neZ dX6_inline_70 rfl a5  (fun c70 => ?_) (fun c70 => ?_)
      · replace h := h.1 c70
        refine g_aload_n dX6_inline_75 rfl ?_
        obtain ⟨r76, hq_r76, e_r76, h⟩ := h
        refine g_getVZ (o := r76) dX6_inline_76 tF_6_20 lD_0 rfl e_r76 (q_lt hq_r76) ?_
        refine g_iconst (v := zI 0) dX6_inline_79 (by decide) ?_
        refine g_putI dX6_inline_80 tF_6_74 (lP_0 hq_r76) rfl rfl ⟨rfl, rfl⟩ rfl ?_
        refine g_aload_n dX6_inline_83 rfl ?_
        obtain ⟨r84, hq_r84, e_r84, h⟩ := h
        refine g_getVZ (o := r84) dX6_inline_84 tF_6_20 lD_0 rfl e_r84 (q_lt hq_r84) ?_
        refine g_aload_n dX6_inline_87 rfl ?_
        obtain ⟨r88, hq_r88, e_r88, h⟩ := h
        refine g_getVZ (o := r88) dX6_inline_88 tF_6_16 lD_0 rfl e_r88 (q_lt hq_r88) ?_
        refine g_iconst (v := zI 0) dX6_inline_91 (by decide) ?_
        refine g_iload_n dX6_inline_92 rfl ?_
        refine g_iconst (v := zI 0) dX6_inline_93 (by decide) ?_
        refine g_callV [.ref (b + r84), .ref (b + r88), .int (zI 0), .int (zI l1), .int (zI 0)] [] dX6_inline_94 tG_6_171 tM_30 (lP_0 hq_r84) rfl rfl rfl rfl (by decide) rfl ?_
        refine gC.mono h (Nat.le_refl _) ?_
        rintro _ T94 ⟨rfl, h⟩
        refine g_aload_n dX6_inline_97 rfl ?_
        obtain ⟨r98, hq_r98, e_r98, h⟩ := h
        refine g_getVZ (o := r98) dX6_inline_98 tF_6_20 lD_0 rfl e_r98 (q_lt hq_r98) ?_
        refine g_iconst (v := zI 5) dX6_inline_101 (by decide) ?_
        refine g_aload_n dX6_inline_102 rfl ?_
        obtain ⟨r103, hq_r103, e_r103, h⟩ := h
        refine g_getVZ (o := r103) dX6_inline_103 tF_6_16 lD_0 rfl e_r103 (q_lt hq_r103) ?_
        refine g_getR dX6_inline_106 tF_6_98 (lP_0 hq_r103) rfl ?_
        refine g_iload_n dX6_inline_109 rfl ?_
        refine g_callS [.ref (b + (r103 + 2)), .int (zI (aI T32 (r24 + 7) 50 v32))] [.int (zI 5), .ref (b + r98)] dX6_inline_110 tG_6_127 tM_96 rfl rfl rfl rfl (by decide) ?_
        refine gC.mono (c_aI sa b E _ _ (lP_2 hq_r103) (by decide) (aI_rg _ _ _ _)) (Nat.le_refl _) ?_
        rintro _ _ ⟨rfl, h9⟩
        obtain rfl := h9.symm
        refine g_bipush (v := zI 100) dX6_inline_113 (by decide) ?_
        refine g_iaddZ dX6_inline_115 ?_
        refine g_iconst (v := zI (-1)) dX6_inline_116 (by decide) ?_
        refine g_callV [.ref (b + r98), .int (zI 5), .int (zI ((aI T94 (r103 + 2) 200 (aI T32 (r24 + 7) 50 v32)) + 100)), .int (zI (-1))] [] dX6_inline_117 tG_6_175 tM_29 (lP_0 hq_r98) rfl rfl rfl rfl (by decide) rfl ?_
        refine gC.mono h (Nat.le_refl _) ?_
        rintro _ T117 ⟨v117, rfl, h⟩
        refine g_pop dX6_inline_120 rfl ?_
        refine g_aload_n dX6_inline_121 rfl ?_
        obtain ⟨r122, hq_r122, e_r122, h⟩ := h
        refine g_getVZ (o := r122) dX6_inline_122 tF_6_20 lD_0 rfl e_r122 (q_lt hq_r122) ?_
        refine g_aload_n dX6_inline_125 rfl ?_
        obtain ⟨r126, hq_r126, e_r126, h⟩ := h
        refine g_getVZ (o := r126) dX6_inline_126 tF_6_16 lD_0 rfl e_r126 (q_lt hq_r126) ?_
        refine g_iload dX6_inline_129 rfl ?_
        refine g_aload_n dX6_inline_131 rfl ?_
        obtain ⟨r132, hq_r132, e_r132, h⟩ := h
        refine g_getVZ (o := r132) dX6_inline_132 tF_6_16 lD_0 rfl e_r132 (q_lt hq_r132) ?_
        refine g_iload dX6_inline_135 rfl ?_
        refine g_callV [.ref (b + r132), .int (zI (aP T32 r50 l1 1))] [.int (zI (aP T32 r50 l1 1)), .ref (b + r126), .ref (b + r122)] dX6_inline_137 tG_6_179 tM_40 (lP_0 hq_r132) rfl rfl rfl rfl (by decide) rfl ?_
        refine gC.mono (c_endOf sa b E _ _ hq_r132 (aP_rg _ _ _ _)) (Nat.le_refl _) ?_
        rintro _ _ ⟨rfl, h9⟩
        obtain rfl := h9.symm
        refine g_iconst (v := zI 0) dX6_inline_140 (by decide) ?_
        refine g_callV [.ref (b + r122), .ref (b + r126), .int (zI (aP T32 r50 l1 1)), .int (zI (aI T117 (r132 + 17) 200 (aP T32 r50 l1 1))), .int (zI 0)] [] dX6_inline_141 tG_6_171 tM_30 (lP_0 hq_r122) rfl rfl rfl rfl (by decide) rfl ?_
        refine gC.mono h (Nat.le_refl _) ?_
        rintro _ T141 ⟨rfl, h⟩
        refine g_aload_n dX6_inline_144 rfl ?_
        obtain ⟨r145, hq_r145, e_r145, h⟩ := h
        refine g_getVZ (o := r145) dX6_inline_145 tF_6_20 lD_0 rfl e_r145 (q_lt hq_r145) ?_
        refine g_aload_n dX6_inline_148 rfl ?_
        obtain ⟨r149, hq_r149, e_r149, h⟩ := h
        refine g_getVZ (o := r149) dX6_inline_149 tF_6_16 lD_0 rfl e_r149 (q_lt hq_r149) ?_
        refine g_iload_n dX6_inline_152 rfl ?_
        refine g_aload_n dX6_inline_153 rfl ?_
        obtain ⟨r154, hq_r154, e_r154, h⟩ := h
        refine g_getVZ (o := r154) dX6_inline_154 tF_6_16 lD_0 rfl e_r154 (q_lt hq_r154) ?_
        refine g_iload_n dX6_inline_157 rfl ?_
        refine g_callV [.ref (b + r154), .int (zI (aP T32 r40 (aI T32 (r24 + 7) 50 v32) 0))] [.int (zI (aP T32 r40 (aI T32 (r24 + 7) 50 v32) 0)), .ref (b + r149), .ref (b + r145)] dX6_inline_158 tG_6_179 tM_40 (lP_0 hq_r154) rfl rfl rfl rfl (by decide) rfl ?_
        refine gC.mono (c_endOf sa b E _ _ hq_r154 (aP_rg _ _ _ _)) (Nat.le_refl _) ?_
        rintro _ _ ⟨rfl, h9⟩
        obtain rfl := h9.symm
        refine g_bipush (v := zI 100) dX6_inline_161 (by decide) ?_
        refine g_callV [.ref (b + r145), .ref (b + r149), .int (zI (aP T32 r40 (aI T32 (r24 + 7) 50 v32) 0)), .int (zI (aI T141 (r154 + 17) 200 (aP T32 r40 (aI T32 (r24 + 7) 50 v32) 0))), .int (zI 100)] [] dX6_inline_163 tG_6_171 tM_30 (lP_0 hq_r145) rfl rfl rfl rfl (by decide) rfl ?_
        refine gC.mono h (Nat.le_refl _) ?_
        rintro _ T163 ⟨rfl, h⟩
        refine g_aload_n dX6_inline_166 rfl ?_
        obtain ⟨r167, hq_r167, e_r167, h⟩ := h
        refine g_getVZ (o := r167) dX6_inline_167 tF_6_20 lD_0 rfl e_r167 (q_lt hq_r167) ?_
        refine g_aload_n dX6_inline_170 rfl ?_
        obtain ⟨r171, hq_r171, e_r171, h⟩ := h
        refine g_getVZ (o := r171) dX6_inline_171 tF_6_16 lD_0 rfl e_r171 (q_lt hq_r171) ?_
        refine g_aload_n dX6_inline_174 rfl ?_
        obtain ⟨r175, hq_r175, e_r175, h⟩ := h
        refine g_getVZ (o := r175) dX6_inline_175 tF_6_16 lD_0 rfl e_r175 (q_lt hq_r175) ?_
        refine g_iload_n dX6_inline_178 rfl ?_
        refine g_callV [.ref (b + r175), .int (zI l1)] [.ref (b + r171), .ref (b + r167)] dX6_inline_179 tG_6_179 tM_40 (lP_0 hq_r175) rfl rfl rfl rfl (by decide) rfl ?_
        refine gC.mono (c_endOf sa b E _ _ hq_r175 a4) (Nat.le_refl _) ?_
        rintro _ _ ⟨rfl, h9⟩
        obtain rfl := h9.symm
        refine g_aload_n dX6_inline_182 rfl ?_
        obtain ⟨r183, hq_r183, e_r183, h⟩ := h
        refine g_getVZ (o := r183) dX6_inline_183 tF_6_16 lD_0 rfl e_r183 (q_lt hq_r183) ?_
        refine g_getZ (v := vI T163 r183 0) dX6_inline_186 tF_6_74 (lP_0 hq_r183) rfl (zI_v _ _ _) ?_
        refine g_iconst (v := zI 0) dX6_inline_189 (by decide) ?_
        refine g_callV [.ref (b + r167), .ref (b + r171), .int (zI (aI T163 (r175 + 17) 200 l1)), .int (zI (vI T163 r183 0)), .int (zI 0)] [] dX6_inline_190 tG_6_171 tM_30 (lP_0 hq_r167) rfl rfl rfl rfl (by decide) rfl ?_
        refine gC.mono h (Nat.le_refl _) ?_
        rintro _ T190 ⟨rfl, h⟩
        refine g_aload_n dX6_inline_193 rfl ?_
        refine g_callV [.ref (b + 0)] [] dX6_inline_194 tG_6_71 tM_98 lD_0 rfl rfl rfl rfl (by decide) rfl ?_
        refine gC.mono h (Nat.le_refl _) ?_
        rintro _ T194 ⟨rfl, h⟩
        refine g_aload_n dX6_inline_197 rfl ?_
        obtain ⟨r198, hq_r198, e_r198, h⟩ := h
        refine g_getVZ (o := r198) dX6_inline_198 tF_6_16 lD_0 rfl e_r198 (q_lt hq_r198) ?_
        refine g_getZ (v := vI T194 r198 0) dX6_inline_201 tF_6_74 (lP_0 hq_r198) rfl (zI_v _ _ _) ?_
        exact g_iret dX6_inline_204 rfl rfl h
      · replace h := h.2 c70
        refine g_iconst (v := zI (-1)) dX6_inline_73 (by decide) ?_
        exact g_iret dX6_inline_74 rfl rfl h
    · replace h := h.2 c18
      refine g_iconst (v := zI (-1)) dX6_inline_21 (by decide) ?_
      exact g_iret dX6_inline_22 rfl rfl h
  · replace h := h.2 c7
    refine g_bipush (v := zI (-2)) dX6_inline_10 (by decide) ?_
    exact g_iret dX6_inline_12 rfl rfl h
def f_X6_countExprs (sa : Nat → Nat) (b : Nat) (E : Nat × mH) (d : Nat) (l1 : Int) (T : gT) (Q : Option Value → gT → Prop) : Prop := gW (tP sa) lD b E (d + 1) mX6_countExprs 4 [some (.ref (b + 0)), some (.int (zI l1)), some (.int (zI 0)), some (.int (zI 0))] [] T Q
set_option maxRecDepth 4000 in
theorem w_X6_countExprs {sa : Nat → Nat} {b : Nat} {E : Nat × mH} {d : Nat} {l1 : Int} {T : gT} {Q : Option Value → gT → Prop} (h : f_X6_countExprs sa b E d l1 T Q) : gC (tP sa) lD b E (d + 1) mX6_countExprs [.ref (b + 0), .int (zI l1)] T Q := by
  unfold f_X6_countExprs at h
  refine ⟨Nat.le_of_ble_eq_true rfl, ?_⟩
  show gW (tP sa) lD b E (d + 1) mX6_countExprs 0 [some (.ref (b + 0)), some (.int (zI l1)), none, none] [] T Q
  refine g_iconst (v := zI 0) dX6_countExprs_0 (by decide) ?_
  refine g_istore_n (L' := [some (.ref (b + 0)), some (.int (zI l1)), some (.int (zI 0)), none]) dX6_countExprs_1 rfl ?_
  refine g_iconst (v := zI 0) dX6_countExprs_2 (by decide) ?_
  refine g_istore_n (L' := [some (.ref (b + 0)), some (.int (zI l1)), some (.int (zI 0)), some (.int (zI 0))]) dX6_countExprs_3 rfl ?_
  exact h
def f_X6_countExprs_4 (sa : Nat → Nat) (b : Nat) (E : Nat × mH) (d : Nat) (l1 : Int) (l2 : Int) (l3 : Int) (T : gT) (Q : Option Value → gT → Prop) : Prop := (∃ r6 : Nat, (r6 = 2 ∨ r6 = 21) ∧ vI T 0 2 = (r6 : Int) ∧ (-2147483648 ≤ l3 ∧ l3 < 2147483648) ∧ (((vI T r6 0) ≤ l3 → Q (some (.int (zI l2))) T) ∧ (¬ (vI T r6 0) ≤ l3 → gC (tP sa) lD b E d mX6_isOfSort [.ref (b + 0), .int (zI l3), .int (zI l1)] T (fun r T19 => pI r (fun v19 => (-2147483648 ≤ v19 ∧ v19 < 2147483648) ∧ ((v19 = 0 → gW (tP sa) lD b E (d + 1) mX6_countExprs 4 [some (.ref (b + 0)), some (.int (zI l1)), some (.int (zI (l2 + 0))), some (.int (zI (l3 + 1)))] [] T19 Q) ∧ (¬ v19 = 0 → gW (tP sa) lD b E (d + 1) mX6_countExprs 4 [some (.ref (b + 0)), some (.int (zI l1)), some (.int (zI (l2 + 1))), some (.int (zI (l3 + 1)))] [] T19 Q)))))))
set_option maxRecDepth 4000 in
theorem w_X6_countExprs_4 {sa : Nat → Nat} {b : Nat} {E : Nat × mH} {d : Nat} {l1 : Int} {l2 : Int} {l3 : Int} {T : gT} {Q : Option Value → gT → Prop} (h : f_X6_countExprs_4 sa b E d l1 l2 l3 T Q) : gW (tP sa) lD b E (d + 1) mX6_countExprs 4 [some (.ref (b + 0)), some (.int (zI l1)), some (.int (zI l2)), some (.int (zI l3))] [] T Q := by
  unfold f_X6_countExprs_4 at h
  refine g_iload_n dX6_countExprs_4 rfl ?_
  refine g_aload_n dX6_countExprs_5 rfl ?_
  obtain ⟨r6, hq_r6, e_r6, h⟩ := h
  refine g_getVZ (o := r6) dX6_countExprs_6 tF_6_16 lD_0 rfl e_r6 (q_lt hq_r6) ?_
  refine g_getZ (v := vI T r6 0) dX6_countExprs_9 tF_6_74 (lP_0 hq_r6) rfl (zI_v _ _ _) ?_
  obtain ⟨a1, h⟩ := h
  refine g_icmp_geZ dX6_countExprs_12 rfl a1 ⟨vI_lo _ _ _, vI_hi _ _ _⟩ (fun c12 => ?_) (fun c12 => ?_)
  · replace h := h.1 c12
    refine g_iload_n dX6_countExprs_38 rfl ?_
    exact g_iret dX6_countExprs_39 rfl rfl h
  · replace h := h.2 c12
    refine g_iload_n dX6_countExprs_15 rfl ?_
    refine g_aload_n dX6_countExprs_16 rfl ?_
    refine g_iload_n dX6_countExprs_17 rfl ?_
    refine g_iload_n dX6_countExprs_18 rfl ?_
    refine g_callV [.ref (b + 0), .int (zI l3), .int (zI l1)] [.int (zI l2)] dX6_countExprs_19 tG_6_227 tM_108 lD_0 rfl rfl rfl rfl (by decide) rfl ?_
    refine gC.mono h (Nat.le_refl _) ?_
    rintro _ T19 ⟨v19, rfl, h⟩
    obtain ⟨a2, h⟩ := h
    refine g_if_eqZ dX6_countExprs_22 rfl a2  (fun c22 => ?_) (fun c22 => ?_)
    · replace h := h.1 c22
      refine g_iconst (v := zI 0) dX6_countExprs_29 (by decide) ?_
      refine g_iaddZ dX6_countExprs_30 ?_
      refine g_istore_n (L' := [some (.ref (b + 0)), some (.int (zI l1)), some (.int (zI (l2 + 0))), some (.int (zI l3))]) dX6_countExprs_31 rfl ?_
      refine g_iinc (x := zI l3) (v := zI (l3 + 1)) (L' := [some (.ref (b + 0)), some (.int (zI l1)), some (.int (zI (l2 + 0))), some (.int (zI (l3 + 1)))]) dX6_countExprs_32 rfl (zI_add _ _) rfl ?_
      refine g_goto dX6_countExprs_35 rfl ?_
      exact h
    · replace h := h.2 c22
      refine g_iconst (v := zI 1) dX6_countExprs_25 (by decide) ?_
      refine g_goto dX6_countExprs_26 rfl ?_
      refine g_iaddZ dX6_countExprs_30 ?_
      refine g_istore_n (L' := [some (.ref (b + 0)), some (.int (zI l1)), some (.int (zI (l2 + 1))), some (.int (zI l3))]) dX6_countExprs_31 rfl ?_
      refine g_iinc (x := zI l3) (v := zI (l3 + 1)) (L' := [some (.ref (b + 0)), some (.int (zI l1)), some (.int (zI (l2 + 1))), some (.int (zI (l3 + 1)))]) dX6_countExprs_32 rfl (zI_add _ _) rfl ?_
      refine g_goto dX6_countExprs_35 rfl ?_
      exact h
def f_X6_countCallsInto (sa : Nat → Nat) (b : Nat) (E : Nat × mH) (d : Nat) (l1 : Int) (T : gT) (Q : Option Value → gT → Prop) : Prop := gW (tP sa) lD b E (d + 1) mX6_countCallsInto 4 [some (.ref (b + 0)), some (.int (zI l1)), some (.int (zI 0)), some (.int (zI 0))] [] T Q
set_option maxRecDepth 4000 in
theorem w_X6_countCallsInto {sa : Nat → Nat} {b : Nat} {E : Nat × mH} {d : Nat} {l1 : Int} {T : gT} {Q : Option Value → gT → Prop} (h : f_X6_countCallsInto sa b E d l1 T Q) : gC (tP sa) lD b E (d + 1) mX6_countCallsInto [.ref (b + 0), .int (zI l1)] T Q := by
  unfold f_X6_countCallsInto at h
  refine ⟨Nat.le_of_ble_eq_true rfl, ?_⟩
  show gW (tP sa) lD b E (d + 1) mX6_countCallsInto 0 [some (.ref (b + 0)), some (.int (zI l1)), none, none] [] T Q
  refine g_iconst (v := zI 0) dX6_countCallsInto_0 (by decide) ?_
  refine g_istore_n (L' := [some (.ref (b + 0)), some (.int (zI l1)), some (.int (zI 0)), none]) dX6_countCallsInto_1 rfl ?_
  refine g_iconst (v := zI 0) dX6_countCallsInto_2 (by decide) ?_
  refine g_istore_n (L' := [some (.ref (b + 0)), some (.int (zI l1)), some (.int (zI 0)), some (.int (zI 0))]) dX6_countCallsInto_3 rfl ?_
  exact h
def f_X6_countCallsInto_4 (sa : Nat → Nat) (b : Nat) (E : Nat × mH) (d : Nat) (l1 : Int) (l2 : Int) (l3 : Int) (T : gT) (Q : Option Value → gT → Prop) : Prop := (∃ r6 : Nat, (r6 = 2 ∨ r6 = 21) ∧ vI T 0 2 = (r6 : Int) ∧ (-2147483648 ≤ l3 ∧ l3 < 2147483648) ∧ (((vI T r6 0) ≤ l3 → Q (some (.int (zI l2))) T) ∧ (¬ (vI T r6 0) ≤ l3 → gC (tP sa) lD b E d mX6_isOfKind [.ref (b + 0), .int (zI l3), .int (zI 11)] T (fun r T20 => pI r (fun v20 => (-2147483648 ≤ v20 ∧ v20 < 2147483648) ∧ ((v20 = 0 → gW (tP sa) lD b E (d + 1) mX6_countCallsInto 4 [some (.ref (b + 0)), some (.int (zI l1)), some (.int (zI (l2 + 0))), some (.int (zI (l3 + 1)))] [] T20 Q) ∧ (¬ v20 = 0 → gC (tP sa) lD b E d mX6_operatorFlow [.ref (b + 0), .int (zI l3)] T20 (fun r T28 => pJ r (fun v28 => ((¬ (((v28.toUInt64 >>> ((zI l1).toInt64.toUInt64 &&& Int64.toUInt64 63)).toInt64) &&& 1) = 1 → gW (tP sa) lD b E (d + 1) mX6_countCallsInto 4 [some (.ref (b + 0)), some (.int (zI l1)), some (.int (zI (l2 + 0))), some (.int (zI (l3 + 1)))] [] T28 Q) ∧ ((((v28.toUInt64 >>> ((zI l1).toInt64.toUInt64 &&& Int64.toUInt64 63)).toInt64) &&& 1) = 1 → gW (tP sa) lD b E (d + 1) mX6_countCallsInto 4 [some (.ref (b + 0)), some (.int (zI l1)), some (.int (zI (l2 + 1))), some (.int (zI (l3 + 1)))] [] T28 Q)))))))))))
set_option maxRecDepth 4000 in
theorem w_X6_countCallsInto_4 {sa : Nat → Nat} {b : Nat} {E : Nat × mH} {d : Nat} {l1 : Int} {l2 : Int} {l3 : Int} {T : gT} {Q : Option Value → gT → Prop} (h : f_X6_countCallsInto_4 sa b E d l1 l2 l3 T Q) : gW (tP sa) lD b E (d + 1) mX6_countCallsInto 4 [some (.ref (b + 0)), some (.int (zI l1)), some (.int (zI l2)), some (.int (zI l3))] [] T Q := by
  unfold f_X6_countCallsInto_4 at h
  refine g_iload_n dX6_countCallsInto_4 rfl ?_
  refine g_aload_n dX6_countCallsInto_5 rfl ?_
  obtain ⟨r6, hq_r6, e_r6, h⟩ := h
  refine g_getVZ (o := r6) dX6_countCallsInto_6 tF_6_16 lD_0 rfl e_r6 (q_lt hq_r6) ?_
  refine g_getZ (v := vI T r6 0) dX6_countCallsInto_9 tF_6_74 (lP_0 hq_r6) rfl (zI_v _ _ _) ?_
  obtain ⟨a1, h⟩ := h
  refine g_icmp_geZ dX6_countCallsInto_12 rfl a1 ⟨vI_lo _ _ _, vI_hi _ _ _⟩ (fun c12 => ?_) (fun c12 => ?_)
  · replace h := h.1 c12
    refine g_iload_n dX6_countCallsInto_53 rfl ?_
    exact g_iret dX6_countCallsInto_54 rfl rfl h
  · replace h := h.2 c12
    refine g_iload_n dX6_countCallsInto_15 rfl ?_
    refine g_aload_n dX6_countCallsInto_16 rfl ?_
    refine g_iload_n dX6_countCallsInto_17 rfl ?_
    refine g_bipush (v := zI 11) dX6_countCallsInto_18 (by decide) ?_
    refine g_callV [.ref (b + 0), .int (zI l3), .int (zI 11)] [.int (zI l2)] dX6_countCallsInto_20 tG_6_143 tM_100 lD_0 rfl rfl rfl rfl (by decide) rfl ?_
    refine gC.mono h (Nat.le_refl _) ?_
    rintro _ T20 ⟨v20, rfl, h⟩
    obtain ⟨a2, h⟩ := h
    refine g_if_eqZ dX6_countCallsInto_23 rfl a2  (fun c23 => ?_) (fun c23 => ?_)
    · replace h := h.1 c23
      refine g_iconst (v := zI 0) dX6_countCallsInto_44 (by decide) ?_
      refine g_iaddZ dX6_countCallsInto_45 ?_
      refine g_istore_n (L' := [some (.ref (b + 0)), some (.int (zI l1)), some (.int (zI (l2 + 0))), some (.int (zI l3))]) dX6_countCallsInto_46 rfl ?_
      refine g_iinc (x := zI l3) (v := zI (l3 + 1)) (L' := [some (.ref (b + 0)), some (.int (zI l1)), some (.int (zI (l2 + 0))), some (.int (zI (l3 + 1)))]) dX6_countCallsInto_47 rfl (zI_add _ _) rfl ?_
      refine g_goto dX6_countCallsInto_50 rfl ?_
      exact h
    · replace h := h.2 c23
      refine g_aload_n dX6_countCallsInto_26 rfl ?_
      refine g_iload_n dX6_countCallsInto_27 rfl ?_
      refine g_callV [.ref (b + 0), .int (zI l3)] [.int (zI l2)] dX6_countCallsInto_28 tG_6_214 tM_102 lD_0 rfl rfl rfl rfl (by decide) rfl ?_
      refine gC.mono h (Nat.le_refl _) ?_
      rintro _ T28 ⟨v28, rfl, h⟩
      refine g_iload_n dX6_countCallsInto_31 rfl ?_
      refine g_lushr dX6_countCallsInto_32 ?_
      refine g_lconst (v := 1) dX6_countCallsInto_33 (by decide) ?_
      refine g_land dX6_countCallsInto_34 ?_
      refine g_lconst (v := 1) dX6_countCallsInto_35 (by decide) ?_
      refine g_lcmp dX6_countCallsInto_36 ?_
      refine g_if_neL dX6_countCallsInto_37 rfl (fun c37 => ?_) (fun c37 => ?_)
      · replace h := h.1 c37
        refine g_iconst (v := zI 0) dX6_countCallsInto_44 (by decide) ?_
        refine g_iaddZ dX6_countCallsInto_45 ?_
        refine g_istore_n (L' := [some (.ref (b + 0)), some (.int (zI l1)), some (.int (zI (l2 + 0))), some (.int (zI l3))]) dX6_countCallsInto_46 rfl ?_
        refine g_iinc (x := zI l3) (v := zI (l3 + 1)) (L' := [some (.ref (b + 0)), some (.int (zI l1)), some (.int (zI (l2 + 0))), some (.int (zI (l3 + 1)))]) dX6_countCallsInto_47 rfl (zI_add _ _) rfl ?_
        refine g_goto dX6_countCallsInto_50 rfl ?_
        exact h
      · replace h := h.2 c37
        refine g_iconst (v := zI 1) dX6_countCallsInto_40 (by decide) ?_
        refine g_goto dX6_countCallsInto_41 rfl ?_
        refine g_iaddZ dX6_countCallsInto_45 ?_
        refine g_istore_n (L' := [some (.ref (b + 0)), some (.int (zI l1)), some (.int (zI (l2 + 1))), some (.int (zI l3))]) dX6_countCallsInto_46 rfl ?_
        refine g_iinc (x := zI l3) (v := zI (l3 + 1)) (L' := [some (.ref (b + 0)), some (.int (zI l1)), some (.int (zI (l2 + 1))), some (.int (zI (l3 + 1)))]) dX6_countCallsInto_47 rfl (zI_add _ _) rfl ?_
        refine g_goto dX6_countCallsInto_50 rfl ?_
        exact h
