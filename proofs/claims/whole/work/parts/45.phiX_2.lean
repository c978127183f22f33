/-! THE CLASS: its blocks, 2 (printed by wip/whole/phi6.py) -/
def f_X0_find (sa : Nat → Nat) (b : Nat) (E : Nat × mH) (d : Nat) (l1 : Int) (l2 : Int) (T : gT) (Q : Option Value → gT → Prop) : Prop := gW (tP sa) lD b E d mX0_find 5 [some (.ref (b + 53)), some (.int (zI l1)), some (.int (zI l2)), some (.int (zI l2)), some (.int (zI 0))] [] T Q
set_option maxRecDepth 4000 in
theorem w_X0_find {sa : Nat → Nat} {b : Nat} {E : Nat × mH} {d : Nat} {l1 : Int} {l2 : Int} {T : gT} {Q : Option Value → gT → Prop} (h : f_X0_find sa b E d l1 l2 T Q) : gC (tP sa) lD b E d mX0_find [.ref (b + 53), .int (zI l1), .int (zI l2)] T Q := by
  unfold f_X0_find at h
  refine ⟨Nat.le_of_ble_eq_true rfl, ?_⟩
  show gW (tP sa) lD b E d mX0_find 0 [some (.ref (b + 53)), some (.int (zI l1)), some (.int (zI l2)), none, none] [] T Q
  refine g_iload_n dX0_find_0 rfl ?_
  refine g_istore_n (L' := [some (.ref (b + 53)), some (.int (zI l1)), some (.int (zI l2)), some (.int (zI l2)), none]) dX0_find_1 rfl ?_
  refine g_iconst (v := zI 0) dX0_find_2 (by decide) ?_
  refine g_istore (L' := [some (.ref (b + 53)), some (.int (zI l1)), some (.int (zI l2)), some (.int (zI l2)), some (.int (zI 0))]) dX0_find_3 rfl ?_
  exact h
def f_X0_find_5 (sa : Nat → Nat) (b : Nat) (E : Nat × mH) (d : Nat) (l1 : Int) (l2 : Int) (l3 : Int) (l4 : Int) (T : gT) (Q : Option Value → gT → Prop) : Prop := (-2147483648 ≤ l4 ∧ l4 < 2147483648) ∧ ((1000 ≤ l4 → Q (some (.int (zI (-1)))) T) ∧ (¬ 1000 ≤ l4 → (-2147483648 ≤ l3 ∧ l3 < 2147483648) ∧ ((l3 < 0 → Q (some (.int (zI (-1)))) T) ∧ (¬ l3 < 0 → (((vI T 53 4) ≤ l3 → Q (some (.int (zI (-1)))) T) ∧ (¬ (vI T 53 4) ≤ l3 → 0 ≤ l3 ∧ l3 < 1000 ∧ (-2147483648 ≤ l1 ∧ l1 < 2147483648) ∧ ((¬ (vI T 54 l3.toNat) = l1 → gW (tP sa) lD b E d mX0_find 5 [some (.ref (b + 53)), some (.int (zI l1)), some (.int (zI l2)), some (.int (zI (vI T 57 l3.toNat))), some (.int (zI (l4 + 1)))] [] T Q) ∧ ((vI T 54 l3.toNat) = l1 → Q (some (.int (zI l3))) T))))))))
set_option maxRecDepth 4000 in
theorem w_X0_find_5 {sa : Nat → Nat} {b : Nat} {E : Nat × mH} {d : Nat} {l1 : Int} {l2 : Int} {l3 : Int} {l4 : Int} {T : gT} {Q : Option Value → gT → Prop} (h : f_X0_find_5 sa b E d l1 l2 l3 l4 T Q) : gW (tP sa) lD b E d mX0_find 5 [some (.ref (b + 53)), some (.int (zI l1)), some (.int (zI l2)), some (.int (zI l3)), some (.int (zI l4))] [] T Q := by
  unfold f_X0_find_5 at h
  refine g_iload dX0_find_5 rfl ?_
  refine g_sipush (v := zI 1000) dX0_find_7 (by decide) ?_
  obtain ⟨a1, h⟩ := h
  refine g_icmp_geZ dX0_find_10 rfl a1 (by decide) (fun c10 => ?_) (fun c10 => ?_)
  · replace h := h.1 c10
    refine g_iconst (v := zI (-1)) dX0_find_50 (by decide) ?_
    exact g_iret dX0_find_51 rfl rfl h
  · replace h := h.2 c10
    refine g_iload_n dX0_find_13 rfl ?_
    obtain ⟨a2, h⟩ := h
    refine g_if_ltZ dX0_find_14 rfl a2  (fun c14 => ?_) (fun c14 => ?_)
    · replace h := h.1 c14
      refine g_iconst (v := zI (-1)) dX0_find_50 (by decide) ?_
      exact g_iret dX0_find_51 rfl rfl h
    · replace h := h.2 c14
      refine g_iload_n dX0_find_17 rfl ?_
      refine g_aload_n dX0_find_18 rfl ?_
      refine g_getZ (v := vI T 53 4) dX0_find_19 tF_0_25 lD_53 rfl (zI_v T 53 4) ?_
      refine g_icmp_geZ dX0_find_22 rfl a2 ⟨vI_lo _ _ _, vI_hi _ _ _⟩ (fun c22 => ?_) (fun c22 => ?_)
      · replace h := h.1 c22
        refine g_iconst (v := zI (-1)) dX0_find_50 (by decide) ?_
        exact g_iret dX0_find_51 rfl rfl h
      · replace h := h.2 c22
        refine g_aload_n dX0_find_25 rfl ?_
        refine g_getR dX0_find_26 tF_0_11 lD_53 rfl ?_
        refine g_iload_n dX0_find_29 rfl ?_
        obtain ⟨a3, h⟩ := h
        obtain ⟨a4, h⟩ := h
        refine g_ialdZ (v := vI T 54 l3.toNat) dX0_find_30 lD_54 a3 a4 (by decide) (zI_v T 54 l3.toNat) ?_
        refine g_iload_n dX0_find_31 rfl ?_
        obtain ⟨a5, h⟩ := h
        refine g_icmp_neZ dX0_find_32 rfl ⟨vI_lo _ _ _, vI_hi _ _ _⟩ a5 (fun c32 => ?_) (fun c32 => ?_)
        · replace h := h.1 c32
          refine g_aload_n dX0_find_37 rfl ?_
          refine g_getR dX0_find_38 tF_0_22 lD_53 rfl ?_
          refine g_iload_n dX0_find_41 rfl ?_
          refine g_ialdZ (v := vI T 57 l3.toNat) dX0_find_42 lD_57 a3 a4 (by decide) (zI_v T 57 l3.toNat) ?_
          refine g_istore_n (L' := [some (.ref (b + 53)), some (.int (zI l1)), some (.int (zI l2)), some (.int (zI (vI T 57 l3.toNat))), some (.int (zI l4))]) dX0_find_43 rfl ?_
          refine g_iinc (x := zI l4) (v := zI (l4 + 1)) (L' := [some (.ref (b + 53)), some (.int (zI l1)), some (.int (zI l2)), some (.int (zI (vI T 57 l3.toNat))), some (.int (zI (l4 + 1)))]) dX0_find_44 rfl (zI_add _ _) rfl ?_
          refine g_goto dX0_find_47 rfl ?_
          exact h
        · replace h := h.2 c32
          refine g_iload_n dX0_find_35 rfl ?_
          exact g_iret dX0_find_36 rfl rfl h
def f_X1_ofPart (sa : Nat → Nat) (b : Nat) (E : Nat × mH) (d : Nat) (l1 : Nat) (l2 : Int) (l3 : Int) (T : gT) (Q : Option Value → gT → Prop) : Prop := (-2147483648 ≤ l2 ∧ l2 < 2147483648) ∧ (-2147483648 ≤ l3 ∧ l3 < 2147483648) ∧ Q (some (.long (aJ T 48 200 (aP T l1 l2 l3)))) T
set_option maxRecDepth 4000 in
theorem w_X1_ofPart {sa : Nat → Nat} {b : Nat} {E : Nat × mH} {d : Nat} {l1 : Nat} {l2 : Int} {l3 : Int} {T : gT} {Q : Option Value → gT → Prop} (hq_l1 : l1 = 2 ∨ l1 = 21) (h : f_X1_ofPart sa b E d l1 l2 l3 T Q) : gC (tP sa) lD b E (d + 1) mX1_ofPart [.ref (b + 47), .ref (b + l1), .int (zI l2), .int (zI l3)] T Q := by
  unfold f_X1_ofPart at h
  refine ⟨Nat.le_of_ble_eq_true rfl, ?_⟩
  show gW (tP sa) lD b E (d + 1) mX1_ofPart 0 [some (.ref (b + 47)), some (.ref (b + l1)), some (.int (zI l2)), some (.int (zI l3))] [] T Q
  refine g_aload_n dX1_ofPart_0 rfl ?_
  refine g_getR dX1_ofPart_1 tF_1_9 lD_47 rfl ?_
  refine g_aload_n dX1_ofPart_4 rfl ?_
  refine g_iload_n dX1_ofPart_5 rfl ?_
  refine g_iload_n dX1_ofPart_6 rfl ?_
  obtain ⟨a1, h⟩ := h
  obtain ⟨a2, h⟩ := h
  refine g_callV [.ref (b + l1), .int (zI l2), .int (zI l3)] [.ref (b + 48)] dX1_ofPart_7 tG_1_80 tM_39 (lP_0 hq_l1) rfl rfl rfl rfl (by decide) rfl ?_
  refine gC.mono (c_part sa b E _ _ hq_l1 a1 a2) (Nat.le_refl _) ?_
  rintro _ _ ⟨rfl, h9⟩
  obtain rfl := h9.symm
  refine g_callS [.ref (b + 48), .int (zI (aP T l1 l2 l3))] [] dX1_ofPart_10 tG_1_39 tM_97 rfl rfl rfl rfl (by decide) ?_
  refine gC.mono (c_aJ sa b E _ _ lD_48 (by decide) (aP_rg _ _ _ _)) (Nat.le_refl _) ?_
  rintro _ _ ⟨rfl, h9⟩
  obtain rfl := h9.symm
  exact g_lret dX1_ofPart_13 rfl h
def f_X1_intoExpr (sa : Nat → Nat) (b : Nat) (E : Nat × mH) (d : Nat) (l1 : Int) (l2 : Int64) (T : gT) (Q : Option Value → gT → Prop) : Prop := (-2147483648 ≤ l1 ∧ l1 < 2147483648) ∧ ((l1 < 0 → Q none T) ∧ (¬ l1 < 0 → ((200 ≤ l1 → Q none T) ∧ (¬ 200 ≤ l1 → 0 ≤ l1 ∧ l1 < 200 ∧ (((l2 &&& ((T.2.1 48 l1.toNat) ^^^ (-1))) = 0 → Q none T) ∧ (¬ (l2 &&& ((T.2.1 48 l1.toNat) ^^^ (-1))) = 0 → Q none (gI (gJ T 48 l1.toNat ((T.2.1 48 l1.toNat) ||| l2)) 47 3 (zI 1))))))))
set_option maxRecDepth 4000 in
theorem w_X1_intoExpr {sa : Nat → Nat} {b : Nat} {E : Nat × mH} {d : Nat} {l1 : Int} {l2 : Int64} {T : gT} {Q : Option Value → gT → Prop} (h : f_X1_intoExpr sa b E d l1 l2 T Q) : gC (tP sa) lD b E d mX1_intoExpr [.ref (b + 47), .int (zI l1), .long l2] T Q := by
  unfold f_X1_intoExpr at h
  refine ⟨Nat.le_of_ble_eq_true rfl, ?_⟩
  show gW (tP sa) lD b E d mX1_intoExpr 0 [some (.ref (b + 47)), some (.int (zI l1)), some (.long l2), none] [] T Q
  refine g_iload_n dX1_intoExpr_0 rfl ?_
  obtain ⟨a1, h⟩ := h
  refine g_if_ltZ dX1_intoExpr_1 rfl a1  (fun c1 => ?_) (fun c1 => ?_)
  · replace h := h.1 c1
    exact g_vret dX1_intoExpr_43 rfl h
  · replace h := h.2 c1
    refine g_iload_n dX1_intoExpr_4 rfl ?_
    refine g_sipush (v := zI 200) dX1_intoExpr_5 (by decide) ?_
    refine g_icmp_geZ dX1_intoExpr_8 rfl a1 (by decide) (fun c8 => ?_) (fun c8 => ?_)
    · replace h := h.1 c8
      exact g_vret dX1_intoExpr_43 rfl h
    · replace h := h.2 c8
      refine g_lload_n dX1_intoExpr_11 rfl ?_
      refine g_aload_n dX1_intoExpr_12 rfl ?_
      refine g_getR dX1_intoExpr_13 tF_1_9 lD_47 rfl ?_
      refine g_iload_n dX1_intoExpr_16 rfl ?_
      obtain ⟨a2, h⟩ := h
      obtain ⟨a3, h⟩ := h
      refine g_laldZ (v := T.2.1 48 l1.toNat) dX1_intoExpr_17 lD_48 a2 a3 (by decide) rfl ?_
      refine g_ldc2_w dX1_intoExpr_18 (tK_1_84 sa) ?_
      refine g_lxor dX1_intoExpr_21 ?_
      refine g_land dX1_intoExpr_22 ?_
      refine g_lconst (v := 0) dX1_intoExpr_23 (by decide) ?_
      refine g_lcmp dX1_intoExpr_24 ?_
      refine g_if_eqL dX1_intoExpr_25 rfl (fun c25 => ?_) (fun c25 => ?_)
      · replace h := h.1 c25
        exact g_vret dX1_intoExpr_43 rfl h
      · replace h := h.2 c25
        refine g_aload_n dX1_intoExpr_28 rfl ?_
        refine g_getR dX1_intoExpr_29 tF_1_9 lD_47 rfl ?_
        refine g_iload_n dX1_intoExpr_32 rfl ?_
        refine g_dup2 dX1_intoExpr_33 rfl rfl ?_
        refine g_laldZ (v := T.2.1 48 l1.toNat) dX1_intoExpr_34 lD_48 a2 a3 (by decide) rfl ?_
        refine g_lload_n dX1_intoExpr_35 rfl ?_
        refine g_lor dX1_intoExpr_36 ?_
        refine g_lastZ dX1_intoExpr_37 lD_48 a2 a3 (by decide) ?_
        refine g_aload_n dX1_intoExpr_38 rfl ?_
        refine g_iconst (v := zI 1) dX1_intoExpr_39 (by decide) ?_
        refine g_putI dX1_intoExpr_40 tF_1_21 lD_47 rfl rfl ⟨rfl, rfl⟩ rfl ?_
        exact g_vret dX1_intoExpr_43 rfl h
def f_X1_intoVariable (sa : Nat → Nat) (b : Nat) (E : Nat × mH) (d : Nat) (l1 : Int) (l2 : Int64) (T : gT) (Q : Option Value → gT → Prop) : Prop := (-2147483648 ≤ l1 ∧ l1 < 2147483648) ∧ ((l1 < 0 → Q none T) ∧ (¬ l1 < 0 → ((100 ≤ l1 → Q none T) ∧ (¬ 100 ≤ l1 → 0 ≤ l1 ∧ l1 < 100 ∧ (((l2 &&& ((T.2.1 49 l1.toNat) ^^^ (-1))) = 0 → Q none T) ∧ (¬ (l2 &&& ((T.2.1 49 l1.toNat) ^^^ (-1))) = 0 → Q none (gI (gJ T 49 l1.toNat ((T.2.1 49 l1.toNat) ||| l2)) 47 3 (zI 1))))))))
set_option maxRecDepth 4000 in
theorem w_X1_intoVariable {sa : Nat → Nat} {b : Nat} {E : Nat × mH} {d : Nat} {l1 : Int} {l2 : Int64} {T : gT} {Q : Option Value → gT → Prop} (h : f_X1_intoVariable sa b E d l1 l2 T Q) : gC (tP sa) lD b E d mX1_intoVariable [.ref (b + 47), .int (zI l1), .long l2] T Q := by
  unfold f_X1_intoVariable at h
  refine ⟨Nat.le_of_ble_eq_true rfl, ?_⟩
  show gW (tP sa) lD b E d mX1_intoVariable 0 [some (.ref (b + 47)), some (.int (zI l1)), some (.long l2), none] [] T Q
  refine g_iload_n dX1_intoVariable_0 rfl ?_
  obtain ⟨a1, h⟩ := h
  refine g_if_ltZ dX1_intoVariable_1 rfl a1  (fun c1 => ?_) (fun c1 => ?_)
  · replace h := h.1 c1
    exact g_vret dX1_intoVariable_42 rfl h
  · replace h := h.2 c1
    refine g_iload_n dX1_intoVariable_4 rfl ?_
    refine g_bipush (v := zI 100) dX1_intoVariable_5 (by decide) ?_
    refine g_icmp_geZ dX1_intoVariable_7 rfl a1 (by decide) (fun c7 => ?_) (fun c7 => ?_)
    · replace h := h.1 c7
      exact g_vret dX1_intoVariable_42 rfl h
    · replace h := h.2 c7
      refine g_lload_n dX1_intoVariable_10 rfl ?_
      refine g_aload_n dX1_intoVariable_11 rfl ?_
      refine g_getR dX1_intoVariable_12 tF_1_15 lD_47 rfl ?_
      refine g_iload_n dX1_intoVariable_15 rfl ?_
      obtain ⟨a2, h⟩ := h
      obtain ⟨a3, h⟩ := h
      refine g_laldZ (v := T.2.1 49 l1.toNat) dX1_intoVariable_16 lD_49 a2 a3 (by decide) rfl ?_
      refine g_ldc2_w dX1_intoVariable_17 (tK_1_84 sa) ?_
      refine g_lxor dX1_intoVariable_20 ?_
      refine g_land dX1_intoVariable_21 ?_
      refine g_lconst (v := 0) dX1_intoVariable_22 (by decide) ?_
      refine g_lcmp dX1_intoVariable_23 ?_
      refine g_if_eqL dX1_intoVariable_24 rfl (fun c24 => ?_) (fun c24 => ?_)
      · replace h := h.1 c24
        exact g_vret dX1_intoVariable_42 rfl h
      · replace h := h.2 c24
        refine g_aload_n dX1_intoVariable_27 rfl ?_
        refine g_getR dX1_intoVariable_28 tF_1_15 lD_47 rfl ?_
        refine g_iload_n dX1_intoVariable_31 rfl ?_
        refine g_dup2 dX1_intoVariable_32 rfl rfl ?_
        refine g_laldZ (v := T.2.1 49 l1.toNat) dX1_intoVariable_33 lD_49 a2 a3 (by decide) rfl ?_
        refine g_lload_n dX1_intoVariable_34 rfl ?_
        refine g_lor dX1_intoVariable_35 ?_
        refine g_lastZ dX1_intoVariable_36 lD_49 a2 a3 (by decide) ?_
        refine g_aload_n dX1_intoVariable_37 rfl ?_
        refine g_iconst (v := zI 1) dX1_intoVariable_38 (by decide) ?_
        refine g_putI dX1_intoVariable_39 tF_1_21 lD_47 rfl rfl ⟨rfl, rfl⟩ rfl ?_
        exact g_vret dX1_intoVariable_42 rfl h
def f_X1_findReached (sa : Nat → Nat) (b : Nat) (E : Nat × mH) (d : Nat) (l1 : Nat) (T : gT) (Q : Option Value → gT → Prop) : Prop := gW (tP sa) lD b E (d + 1) mX1_findReached 2 [some (.ref (b + 47)), some (.ref (b + l1)), some (.int (zI 0)), none] [] T Q
set_option maxRecDepth 4000 in
theorem w_X1_findReached {sa : Nat → Nat} {b : Nat} {E : Nat × mH} {d : Nat} {l1 : Nat} {T : gT} {Q : Option Value → gT → Prop} (hq_l1 : l1 = 2 ∨ l1 = 21) (h : f_X1_findReached sa b E d l1 T Q) : gC (tP sa) lD b E (d + 1) mX1_findReached [.ref (b + 47), .ref (b + l1)] T Q := by
  unfold f_X1_findReached at h
  refine ⟨Nat.le_of_ble_eq_true rfl, ?_⟩
  show gW (tP sa) lD b E (d + 1) mX1_findReached 0 [some (.ref (b + 47)), some (.ref (b + l1)), none, none] [] T Q
  refine g_iconst (v := zI 0) dX1_findReached_0 (by decide) ?_
  refine g_istore_n (L' := [some (.ref (b + 47)), some (.ref (b + l1)), some (.int (zI 0)), none]) dX1_findReached_1 rfl ?_
  exact h
def f_X1_findReached_2 (sa : Nat → Nat) (b : Nat) (E : Nat × mH) (d : Nat) (l1 : Nat) (l2 : Int) (T : gT) (Q : Option Value → gT → Prop) : Prop := (-2147483648 ≤ l2 ∧ l2 < 2147483648) ∧ ((50 ≤ l2 → gW (tP sa) lD b E (d + 1) mX1_findReached 23 [some (.ref (b + 47)), some (.ref (b + l1)), some (.int (zI 0)), none] [] T Q) ∧ (¬ 50 ≤ l2 → 0 ≤ l2 ∧ l2 < 50 ∧ gW (tP sa) lD b E (d + 1) mX1_findReached 2 [some (.ref (b + 47)), some (.ref (b + l1)), some (.int (zI (l2 + 1))), none] [] (gJ T 50 l2.toNat 0) Q))
set_option maxRecDepth 4000 in
theorem w_X1_findReached_2 {sa : Nat → Nat} {b : Nat} {E : Nat × mH} {d : Nat} {l1 : Nat} {l2 : Int} {T : gT} {Q : Option Value → gT → Prop} (hq_l1 : l1 = 2 ∨ l1 = 21) (h : f_X1_findReached_2 sa b E d l1 l2 T Q) : gW (tP sa) lD b E (d + 1) mX1_findReached 2 [some (.ref (b + 47)), some (.ref (b + l1)), some (.int (zI l2)), none] [] T Q := by
  unfold f_X1_findReached_2 at h
  refine g_iload_n dX1_findReached_2 rfl ?_
  refine g_bipush (v := zI 50) dX1_findReached_3 (by decide) ?_
  obtain ⟨a1, h⟩ := h
  refine g_icmp_geZ dX1_findReached_5 rfl a1 (by decide) (fun c5 => ?_) (fun c5 => ?_)
  · replace h := h.1 c5
    refine g_iconst (v := zI 0) dX1_findReached_21 (by decide) ?_
    refine g_istore_n (L' := [some (.ref (b + 47)), some (.ref (b + l1)), some (.int (zI 0)), none]) dX1_findReached_22 rfl ?_
    exact h
  · replace h := h.2 c5
    refine g_aload_n dX1_findReached_8 rfl ?_
    refine g_getR dX1_findReached_9 tF_1_18 lD_47 rfl ?_
    refine g_iload_n dX1_findReached_12 rfl ?_
    refine g_lconst (v := 0) dX1_findReached_13 (by decide) ?_
    obtain ⟨a2, h⟩ := h
    obtain ⟨a3, h⟩ := h
    refine g_lastZ dX1_findReached_14 lD_50 a2 a3 (by decide) ?_
    refine g_iinc (x := zI l2) (v := zI (l2 + 1)) (L' := [some (.ref (b + 47)), some (.ref (b + l1)), some (.int (zI (l2 + 1))), none]) dX1_findReached_15 rfl (zI_add _ _) rfl ?_
    refine g_goto dX1_findReached_18 rfl ?_
    exact h
def f_X1_findReached_23 (sa : Nat → Nat) (b : Nat) (E : Nat × mH) (d : Nat) (l1 : Nat) (l2 : Int) (T : gT) (Q : Option Value → gT → Prop) : Prop := (-2147483648 ≤ l2 ∧ l2 < 2147483648) ∧ (((vI T l1 0) ≤ l2 → gW (tP sa) lD b E (d + 1) mX1_findReached 87 [some (.ref (b + 47)), some (.ref (b + l1)), some (.int (zI 0)), none] [] T Q) ∧ (¬ (vI T l1 0) ≤ l2 → ((¬ (aI T (l1 + 1) 200 l2) = 11 → gW (tP sa) lD b E (d + 1) mX1_findReached 23 [some (.ref (b + 47)), some (.ref (b + l1)), some (.int (zI (l2 + 1))), some (.int (zI (aI T (l1 + 6) 200 l2)))] [] T Q) ∧ ((aI T (l1 + 1) 200 l2) = 11 → (((aI T (l1 + 6) 200 l2) < 0 → gW (tP sa) lD b E (d + 1) mX1_findReached 23 [some (.ref (b + 47)), some (.ref (b + l1)), some (.int (zI (l2 + 1))), some (.int (zI (aI T (l1 + 6) 200 l2)))] [] T Q) ∧ (¬ (aI T (l1 + 6) 200 l2) < 0 → ((50 ≤ (aI T (l1 + 6) 200 l2) → gW (tP sa) lD b E (d + 1) mX1_findReached 23 [some (.ref (b + 47)), some (.ref (b + l1)), some (.int (zI (l2 + 1))), some (.int (zI (aI T (l1 + 6) 200 l2)))] [] T Q) ∧ (¬ 50 ≤ (aI T (l1 + 6) 200 l2) → 0 ≤ aI T (l1 + 6) 200 l2 ∧ aI T (l1 + 6) 200 l2 < 50 ∧ gC (tP sa) lD b E d mX1_ofPart [.ref (b + 47), .ref (b + l1), .int (zI l2), .int (zI 0)] T (fun r T74 => pJ r (fun v74 => gW (tP sa) lD b E (d + 1) mX1_findReached 23 [some (.ref (b + 47)), some (.ref (b + l1)), some (.int (zI (l2 + 1))), some (.int (zI (aI T (l1 + 6) 200 l2)))] [] (gJ T74 50 (aI T (l1 + 6) 200 l2).toNat ((T.2.1 50 (aI T (l1 + 6) 200 l2).toNat) ||| v74)) Q))))))))))
set_option maxRecDepth 4000 in
theorem w_X1_findReached_23 {sa : Nat → Nat} {b : Nat} {E : Nat × mH} {d : Nat} {l1 : Nat} {l2 : Int} {T : gT} {Q : Option Value → gT → Prop} (hq_l1 : l1 = 2 ∨ l1 = 21) (h : f_X1_findReached_23 sa b E d l1 l2 T Q) : gW (tP sa) lD b E (d + 1) mX1_findReached 23 [some (.ref (b + 47)), some (.ref (b + l1)), some (.int (zI l2)), none] [] T Q := by
  unfold f_X1_findReached_23 at h
  refine g_iload_n dX1_findReached_23 rfl ?_
  refine g_aload_n dX1_findReached_24 rfl ?_
  refine g_getZ (v := vI T l1 0) dX1_findReached_25 tF_1_25 (lP_0 hq_l1) rfl (zI_v _ _ _) ?_
  obtain ⟨a1, h⟩ := h
  refine g_icmp_geZ dX1_findReached_28 rfl a1 ⟨vI_lo _ _ _, vI_hi _ _ _⟩ (fun c28 => ?_) (fun c28 => ?_)
  · replace h := h.1 c28
    refine g_iconst (v := zI 0) dX1_findReached_85 (by decide) ?_
    refine g_istore_n (L' := [some (.ref (b + 47)), some (.ref (b + l1)), some (.int (zI 0)), none]) dX1_findReached_86 rfl ?_
    exact h
  · replace h := h.2 c28
    refine g_aload_n dX1_findReached_31 rfl ?_
    refine g_getR dX1_findReached_32 tF_1_86 (lP_0 hq_l1) rfl ?_
    refine g_iload_n dX1_findReached_35 rfl ?_
    refine g_callS [.ref (b + (l1 + 6)), .int (zI l2)] [] dX1_findReached_36 tG_1_47 tM_96 rfl rfl rfl rfl (by decide) ?_
    refine gC.mono (c_aI sa b E _ _ (lP_6 hq_l1) (by decide) a1) (Nat.le_refl _) ?_
    rintro _ _ ⟨rfl, h9⟩
    obtain rfl := h9.symm
    refine g_istore_n (L' := [some (.ref (b + 47)), some (.ref (b + l1)), some (.int (zI l2)), some (.int (zI (aI T (l1 + 6) 200 l2)))]) dX1_findReached_39 rfl ?_
    refine g_aload_n dX1_findReached_40 rfl ?_
    refine g_getR dX1_findReached_41 tF_1_51 (lP_0 hq_l1) rfl ?_
    refine g_iload_n dX1_findReached_44 rfl ?_
    refine g_callS [.ref (b + (l1 + 1)), .int (zI l2)] [] dX1_findReached_45 tG_1_47 tM_96 rfl rfl rfl rfl (by decide) ?_
    refine gC.mono (c_aI sa b E _ _ (lP_1 hq_l1) (by decide) a1) (Nat.le_refl _) ?_
    rintro _ _ ⟨rfl, h9⟩
    obtain rfl := h9.symm
    refine g_bipush (v := zI 11) dX1_findReached_48 (by decide) ?_
    refine g_icmp_neZ dX1_findReached_50 rfl (aI_rg _ _ _ _) (by decide) (fun c50 => ?_) (fun c50 => ?_)
    · replace h := h.1 c50
      refine g_iinc (x := zI l2) (v := zI (l2 + 1)) (L' := [some (.ref (b + 47)), some (.ref (b + l1)), some (.int (zI (l2 + 1))), some (.int (zI (aI T (l1 + 6) 200 l2)))]) dX1_findReached_79 rfl (zI_add _ _) rfl ?_
      refine g_goto dX1_findReached_82 rfl ?_
      exact h
    · replace h := h.2 c50
      refine g_iload_n dX1_findReached_53 rfl ?_
      refine g_if_ltZ dX1_findReached_54 rfl (aI_rg _ _ _ _)  (fun c54 => ?_) (fun c54 => ?_)
      · replace h := h.1 c54
        refine g_iinc (x := zI l2) (v := zI (l2 + 1)) (L' := [some (.ref (b + 47)), some (.ref (b + l1)), some (.int (zI (l2 + 1))), some (.int (zI (aI T (l1 + 6) 200 l2)))]) dX1_findReached_79 rfl (zI_add _ _) rfl ?_
        refine g_goto dX1_findReached_82 rfl ?_
        exact h
      · replace h := h.2 c54
        refine g_iload_n dX1_findReached_57 rfl ?_
        refine g_bipush (v := zI 50) dX1_findReached_58 (by decide) ?_
        refine g_icmp_geZ dX1_findReached_60 rfl (aI_rg _ _ _ _) (by decide) (fun c60 => ?_) (fun c60 => ?_)
        · replace h := h.1 c60
          refine g_iinc (x := zI l2) (v := zI (l2 + 1)) (L' := [some (.ref (b + 47)), some (.ref (b + l1)), some (.int (zI (l2 + 1))), some (.int (zI (aI T (l1 + 6) 200 l2)))]) dX1_findReached_79 rfl (zI_add _ _) rfl ?_
          refine g_goto dX1_findReached_82 rfl ?_
          exact h
        · replace h := h.2 c60
          refine g_aload_n dX1_findReached_63 rfl ?_
          refine g_getR dX1_findReached_64 tF_1_18 lD_47 rfl ?_
          refine g_iload_n dX1_findReached_67 rfl ?_
          refine g_dup2 dX1_findReached_68 rfl rfl ?_
          obtain ⟨a2, h⟩ := h
          obtain ⟨a3, h⟩ := h
          refine g_laldZ (v := T.2.1 50 (aI T (l1 + 6) 200 l2).toNat) dX1_findReached_69 lD_50 a2 a3 (by decide) rfl ?_
          refine g_aload_n dX1_findReached_70 rfl ?_
          refine g_aload_n dX1_findReached_71 rfl ?_
          refine g_iload_n dX1_findReached_72 rfl ?_
          refine g_iconst (v := zI 0) dX1_findReached_73 (by decide) ?_
          refine g_callV [.ref (b + 47), .ref (b + l1), .int (zI l2), .int (zI 0)] [.long (T.2.1 50 (aI T (l1 + 6) 200 l2).toNat), .int (zI (aI T (l1 + 6) 200 l2)), .ref (b + 50)] dX1_findReached_74 tG_1_67 tM_12 lD_47 rfl rfl rfl rfl (by decide) rfl ?_
          refine gC.mono h (Nat.le_refl _) ?_
          rintro _ T74 ⟨v74, rfl, h⟩
          refine g_lor dX1_findReached_77 ?_
          refine g_lastZ dX1_findReached_78 lD_50 a2 a3 (by decide) ?_
          refine g_iinc (x := zI l2) (v := zI (l2 + 1)) (L' := [some (.ref (b + 47)), some (.ref (b + l1)), some (.int (zI (l2 + 1))), some (.int (zI (aI T (l1 + 6) 200 l2)))]) dX1_findReached_79 rfl (zI_add _ _) rfl ?_
          refine g_goto dX1_findReached_82 rfl ?_
          exact h
def f_X1_findReached_87 (sa : Nat → Nat) (b : Nat) (E : Nat × mH) (d : Nat) (l1 : Nat) (l2 : Int) (T : gT) (Q : Option Value → gT → Prop) : Prop := (-2147483648 ≤ l2 ∧ l2 < 2147483648) ∧ (((vI T l1 1) ≤ l2 → Q none T) ∧ (¬ (vI T l1 1) ≤ l2 → gW (tP sa) lD b E (d + 1) mX1_findReached 97 [some (.ref (b + 47)), some (.ref (b + l1)), some (.int (zI l2)), some (.int (zI 0))] [] T Q))
set_option maxRecDepth 4000 in
theorem w_X1_findReached_87 {sa : Nat → Nat} {b : Nat} {E : Nat × mH} {d : Nat} {l1 : Nat} {l2 : Int} {T : gT} {Q : Option Value → gT → Prop} (hq_l1 : l1 = 2 ∨ l1 = 21) (h : f_X1_findReached_87 sa b E d l1 l2 T Q) : gW (tP sa) lD b E (d + 1) mX1_findReached 87 [some (.ref (b + 47)), some (.ref (b + l1)), some (.int (zI l2)), none] [] T Q := by
  unfold f_X1_findReached_87 at h
  refine g_iload_n dX1_findReached_87 rfl ?_
  refine g_aload_n dX1_findReached_88 rfl ?_
  refine g_getZ (v := vI T l1 1) dX1_findReached_89 tF_1_74 (lP_0 hq_l1) rfl (zI_v _ _ _) ?_
  obtain ⟨a1, h⟩ := h
  refine g_icmp_geZ dX1_findReached_92 rfl a1 ⟨vI_lo _ _ _, vI_hi _ _ _⟩ (fun c92 => ?_) (fun c92 => ?_)
  · replace h := h.1 c92
    exact g_vret dX1_findReached_144 rfl h
  · replace h := h.2 c92
    refine g_iconst (v := zI 0) dX1_findReached_95 (by decide) ?_
    refine g_istore_n (L' := [some (.ref (b + 47)), some (.ref (b + l1)), some (.int (zI l2)), some (.int (zI 0))]) dX1_findReached_96 rfl ?_
    exact h
def f_X1_findReached_23b (sa : Nat → Nat) (b : Nat) (E : Nat × mH) (d : Nat) (l1 : Nat) (l2 : Int) (l3 : Int) (T : gT) (Q : Option Value → gT → Prop) : Prop := (-2147483648 ≤ l2 ∧ l2 < 2147483648) ∧ (((vI T l1 0) ≤ l2 → gW (tP sa) lD b E (d + 1) mX1_findReached 87 [some (.ref (b + 47)), some (.ref (b + l1)), some (.int (zI 0)), some (.int (zI l3))] [] T Q) ∧ (¬ (vI T l1 0) ≤ l2 → ((¬ (aI T (l1 + 1) 200 l2) = 11 → gW (tP sa) lD b E (d + 1) mX1_findReached 23 [some (.ref (b + 47)), some (.ref (b + l1)), some (.int (zI (l2 + 1))), some (.int (zI (aI T (l1 + 6) 200 l2)))] [] T Q) ∧ ((aI T (l1 + 1) 200 l2) = 11 → (((aI T (l1 + 6) 200 l2) < 0 → gW (tP sa) lD b E (d + 1) mX1_findReached 23 [some (.ref (b + 47)), some (.ref (b + l1)), some (.int (zI (l2 + 1))), some (.int (zI (aI T (l1 + 6) 200 l2)))] [] T Q) ∧ (¬ (aI T (l1 + 6) 200 l2) < 0 → ((50 ≤ (aI T (l1 + 6) 200 l2) → gW (tP sa) lD b E (d + 1) mX1_findReached 23 [some (.ref (b + 47)), some (.ref (b + l1)), some (.int (zI (l2 + 1))), some (.int (zI (aI T (l1 + 6) 200 l2)))] [] T Q) ∧ (¬ 50 ≤ (aI T (l1 + 6) 200 l2) → 0 ≤ aI T (l1 + 6) 200 l2 ∧ aI T (l1 + 6) 200 l2 < 50 ∧ gC (tP sa) lD b E d mX1_ofPart [.ref (b + 47), .ref (b + l1), .int (zI l2), .int (zI 0)] T (fun r T74 => pJ r (fun v74 => gW (tP sa) lD b E (d + 1) mX1_findReached 23 [some (.ref (b + 47)), some (.ref (b + l1)), some (.int (zI (l2 + 1))), some (.int (zI (aI T (l1 + 6) 200 l2)))] [] (gJ T74 50 (aI T (l1 + 6) 200 l2).toNat ((T.2.1 50 (aI T (l1 + 6) 200 l2).toNat) ||| v74)) Q))))))))))
set_option maxRecDepth 4000 in
theorem w_X1_findReached_23b {sa : Nat → Nat} {b : Nat} {E : Nat × mH} {d : Nat} {l1 : Nat} {l2 : Int} {l3 : Int} {T : gT} {Q : Option Value → gT → Prop} (hq_l1 : l1 = 2 ∨ l1 = 21) (h : f_X1_findReached_23b sa b E d l1 l2 l3 T Q) : gW (tP sa) lD b E (d + 1) mX1_findReached 23 [some (.ref (b + 47)), some (.ref (b + l1)), some (.int (zI l2)), some (.int (zI l3))] [] T Q := by
  unfold f_X1_findReached_23b at h
  refine g_iload_n dX1_findReached_23 rfl ?_
  refine g_aload_n dX1_findReached_24 rfl ?_
  refine g_getZ (v := vI T l1 0) dX1_findReached_25 tF_1_25 (lP_0 hq_l1) rfl (zI_v _ _ _) ?_
  obtain ⟨a1, h⟩ := h
  refine g_icmp_geZ dX1_findReached_28 rfl a1 ⟨vI_lo _ _ _, vI_hi _ _ _⟩ (fun c28 => ?_) (fun c28 => ?_)
  · replace h := h.1 c28
    refine g_iconst (v := zI 0) dX1_findReached_85 (by decide) ?_
    refine g_istore_n (L' := [some (.ref (b + 47)), some (.ref (b + l1)), some (.int (zI 0)), some (.int (zI l3))]) dX1_findReached_86 rfl ?_
    exact h
  · replace h := h.2 c28
    refine g_aload_n dX1_findReached_31 rfl ?_
    refine g_getR dX1_findReached_32 tF_1_86 (lP_0 hq_l1) rfl ?_
    refine g_iload_n dX1_findReached_35 rfl ?_
    refine g_callS [.ref (b + (l1 + 6)), .int (zI l2)] [] dX1_findReached_36 tG_1_47 tM_96 rfl rfl rfl rfl (by decide) ?_
    refine gC.mono (c_aI sa b E _ _ (lP_6 hq_l1) (by decide) a1) (Nat.le_refl _) ?_
    rintro _ _ ⟨rfl, h9⟩
    obtain rfl := h9.symm
    refine g_istore_n (L' := [some (.ref (b + 47)), some (.ref (b + l1)), some (.int (zI l2)), some (.int (zI (aI T (l1 + 6) 200 l2)))]) dX1_findReached_39 rfl ?_
    refine g_aload_n dX1_findReached_40 rfl ?_
    refine g_getR dX1_findReached_41 tF_1_51 (lP_0 hq_l1) rfl ?_
    refine g_iload_n dX1_findReached_44 rfl ?_
    refine g_callS [.ref (b + (l1 + 1)), .int (zI l2)] [] dX1_findReached_45 tG_1_47 tM_96 rfl rfl rfl rfl (by decide) ?_
    refine gC.mono (c_aI sa b E _ _ (lP_1 hq_l1) (by decide) a1) (Nat.le_refl _) ?_
    rintro _ _ ⟨rfl, h9⟩
    obtain rfl := h9.symm
    refine g_bipush (v := zI 11) dX1_findReached_48 (by decide) ?_
    refine g_icmp_neZ dX1_findReached_50 rfl (aI_rg _ _ _ _) (by decide) (fun c50 => ?_) (fun c50 => ?_)
    · replace h := h.1 c50
      refine g_iinc (x := zI l2) (v := zI (l2 + 1)) (L' := [some (.ref (b + 47)), some (.ref (b + l1)), some (.int (zI (l2 + 1))), some (.int (zI (aI T (l1 + 6) 200 l2)))]) dX1_findReached_79 rfl (zI_add _ _) rfl ?_
      refine g_goto dX1_findReached_82 rfl ?_
      exact h
    · replace h := h.2 c50
      refine g_iload_n dX1_findReached_53 rfl ?_
      refine g_if_ltZ dX1_findReached_54 rfl (aI_rg _ _ _ _)  (fun c54 => ?_) (fun c54 => ?_)
      · replace h := h.1 c54
        refine g_iinc (x := zI l2) (v := zI (l2 + 1)) (L' := [some (.ref (b + 47)), some (.ref (b + l1)), some (.int (zI (l2 + 1))), some (.int (zI (aI T (l1 + 6) 200 l2)))]) dX1_findReached_79 rfl (zI_add _ _) rfl ?_
        refine g_goto dX1_findReached_82 rfl ?_
        exact h
      · replace h := h.2 c54
        refine g_iload_n dX1_findReached_57 rfl ?_
        refine g_bipush (v := zI 50) dX1_findReached_58 (by decide) ?_
        refine g_icmp_geZ dX1_findReached_60 rfl (aI_rg _ _ _ _) (by decide) (fun c60 => ?_) (fun c60 => ?_)
        · replace h := h.1 c60
          refine g_iinc (x := zI l2) (v := zI (l2 + 1)) (L' := [some (.ref (b + 47)), some (.ref (b + l1)), some (.int (zI (l2 + 1))), some (.int (zI (aI T (l1 + 6) 200 l2)))]) dX1_findReached_79 rfl (zI_add _ _) rfl ?_
          refine g_goto dX1_findReached_82 rfl ?_
          exact h
        · replace h := h.2 c60
          refine g_aload_n dX1_findReached_63 rfl ?_
          refine g_getR dX1_findReached_64 tF_1_18 lD_47 rfl ?_
          refine g_iload_n dX1_findReached_67 rfl ?_
          refine g_dup2 dX1_findReached_68 rfl rfl ?_
          obtain ⟨a2, h⟩ := h
          obtain ⟨a3, h⟩ := h
          refine g_laldZ (v := T.2.1 50 (aI T (l1 + 6) 200 l2).toNat) dX1_findReached_69 lD_50 a2 a3 (by decide) rfl ?_
          refine g_aload_n dX1_findReached_70 rfl ?_
          refine g_aload_n dX1_findReached_71 rfl ?_
          refine g_iload_n dX1_findReached_72 rfl ?_
          refine g_iconst (v := zI 0) dX1_findReached_73 (by decide) ?_
          refine g_callV [.ref (b + 47), .ref (b + l1), .int (zI l2), .int (zI 0)] [.long (T.2.1 50 (aI T (l1 + 6) 200 l2).toNat), .int (zI (aI T (l1 + 6) 200 l2)), .ref (b + 50)] dX1_findReached_74 tG_1_67 tM_12 lD_47 rfl rfl rfl rfl (by decide) rfl ?_
          refine gC.mono h (Nat.le_refl _) ?_
          rintro _ T74 ⟨v74, rfl, h⟩
          refine g_lor dX1_findReached_77 ?_
          refine g_lastZ dX1_findReached_78 lD_50 a2 a3 (by decide) ?_
          refine g_iinc (x := zI l2) (v := zI (l2 + 1)) (L' := [some (.ref (b + 47)), some (.ref (b + l1)), some (.int (zI (l2 + 1))), some (.int (zI (aI T (l1 + 6) 200 l2)))]) dX1_findReached_79 rfl (zI_add _ _) rfl ?_
          refine g_goto dX1_findReached_82 rfl ?_
          exact h
def f_X1_findReached_97 (sa : Nat → Nat) (b : Nat) (E : Nat × mH) (d : Nat) (l1 : Nat) (l2 : Int) (l3 : Int) (T : gT) (Q : Option Value → gT → Prop) : Prop := (-2147483648 ≤ l3 ∧ l3 < 2147483648) ∧ (((vI T l1 1) ≤ l3 → gW (tP sa) lD b E (d + 1) mX1_findReached 87 [some (.ref (b + 47)), some (.ref (b + l1)), some (.int (zI (l2 + 1))), some (.int (zI l3))] [] T Q) ∧ (¬ (vI T l1 1) ≤ l3 → gC (tP sa) lD b E d mX1_reachesBit [.ref (b + 47), .int (zI l3), .int (zI l2)] T (fun r T108 => pI r (fun v108 => (-2147483648 ≤ v108 ∧ v108 < 2147483648) ∧ ((¬ v108 = 1 → gW (tP sa) lD b E (d + 1) mX1_findReached 97 [some (.ref (b + 47)), some (.ref (b + l1)), some (.int (zI l2)), some (.int (zI (l3 + 1)))] [] T108 Q) ∧ (v108 = 1 → 0 ≤ l3 ∧ l3 < 50 ∧ (-2147483648 ≤ l2 ∧ l2 < 2147483648) ∧ gW (tP sa) lD b E (d + 1) mX1_findReached 97 [some (.ref (b + 47)), some (.ref (b + l1)), some (.int (zI l2)), some (.int (zI (l3 + 1)))] [] (gJ T108 50 l3.toNat ((T108.2.1 50 l3.toNat) ||| (aJ T108 50 50 l2))) Q))))))
set_option maxRecDepth 4000 in
theorem w_X1_findReached_97 {sa : Nat → Nat} {b : Nat} {E : Nat × mH} {d : Nat} {l1 : Nat} {l2 : Int} {l3 : Int} {T : gT} {Q : Option Value → gT → Prop} (hq_l1 : l1 = 2 ∨ l1 = 21) (h : f_X1_findReached_97 sa b E d l1 l2 l3 T Q) : gW (tP sa) lD b E (d + 1) mX1_findReached 97 [some (.ref (b + 47)), some (.ref (b + l1)), some (.int (zI l2)), some (.int (zI l3))] [] T Q := by
  unfold f_X1_findReached_97 at h
  refine g_iload_n dX1_findReached_97 rfl ?_
  refine g_aload_n dX1_findReached_98 rfl ?_
  refine g_getZ (v := vI T l1 1) dX1_findReached_99 tF_1_74 (lP_0 hq_l1) rfl (zI_v _ _ _) ?_
  obtain ⟨a1, h⟩ := h
  refine g_icmp_geZ dX1_findReached_102 rfl a1 ⟨vI_lo _ _ _, vI_hi _ _ _⟩ (fun c102 => ?_) (fun c102 => ?_)
  · replace h := h.1 c102
    refine g_iinc (x := zI l2) (v := zI (l2 + 1)) (L' := [some (.ref (b + 47)), some (.ref (b + l1)), some (.int (zI (l2 + 1))), some (.int (zI l3))]) dX1_findReached_138 rfl (zI_add _ _) rfl ?_
    refine g_goto dX1_findReached_141 rfl ?_
    exact h
  · replace h := h.2 c102
    refine g_aload_n dX1_findReached_105 rfl ?_
    refine g_iload_n dX1_findReached_106 rfl ?_
    refine g_iload_n dX1_findReached_107 rfl ?_
    refine g_callV [.ref (b + 47), .int (zI l3), .int (zI l2)] [] dX1_findReached_108 tG_1_89 tM_9 lD_47 rfl rfl rfl rfl (by decide) rfl ?_
    refine gC.mono h (Nat.le_refl _) ?_
    rintro _ T108 ⟨v108, rfl, h⟩
    refine g_iconst (v := zI 1) dX1_findReached_111 (by decide) ?_
    obtain ⟨a2, h⟩ := h
    refine g_icmp_neZ dX1_findReached_112 rfl a2 (by decide) (fun c112 => ?_) (fun c112 => ?_)
    · replace h := h.1 c112
      refine g_iinc (x := zI l3) (v := zI (l3 + 1)) (L' := [some (.ref (b + 47)), some (.ref (b + l1)), some (.int (zI l2)), some (.int (zI (l3 + 1)))]) dX1_findReached_132 rfl (zI_add _ _) rfl ?_
      refine g_goto dX1_findReached_135 rfl ?_
      exact h
    · replace h := h.2 c112
      refine g_aload_n dX1_findReached_115 rfl ?_
      refine g_getR dX1_findReached_116 tF_1_18 lD_47 rfl ?_
      refine g_iload_n dX1_findReached_119 rfl ?_
      refine g_dup2 dX1_findReached_120 rfl rfl ?_
      obtain ⟨a3, h⟩ := h
      obtain ⟨a4, h⟩ := h
      refine g_laldZ (v := T108.2.1 50 l3.toNat) dX1_findReached_121 lD_50 a3 a4 (by decide) rfl ?_
      refine g_aload_n dX1_findReached_122 rfl ?_
      refine g_getR dX1_findReached_123 tF_1_18 lD_47 rfl ?_
      refine g_iload_n dX1_findReached_126 rfl ?_
      obtain ⟨a5, h⟩ := h
      refine g_callS [.ref (b + 50), .int (zI l2)] [.long (T108.2.1 50 l3.toNat), .int (zI l3), .ref (b + 50)] dX1_findReached_127 tG_1_39 tM_97 rfl rfl rfl rfl (by decide) ?_
      refine gC.mono (c_aJ sa b E _ _ lD_50 (by decide) a5) (Nat.le_refl _) ?_
      rintro _ _ ⟨rfl, h9⟩
      obtain rfl := h9.symm
      refine g_lor dX1_findReached_130 ?_
      refine g_lastZ dX1_findReached_131 lD_50 a3 a4 (by decide) ?_
      refine g_iinc (x := zI l3) (v := zI (l3 + 1)) (L' := [some (.ref (b + 47)), some (.ref (b + l1)), some (.int (zI l2)), some (.int (zI (l3 + 1)))]) dX1_findReached_132 rfl (zI_add _ _) rfl ?_
      refine g_goto dX1_findReached_135 rfl ?_
      exact h
def f_X1_findReached_87b (sa : Nat → Nat) (b : Nat) (E : Nat × mH) (d : Nat) (l1 : Nat) (l2 : Int) (l3 : Int) (T : gT) (Q : Option Value → gT → Prop) : Prop := (-2147483648 ≤ l2 ∧ l2 < 2147483648) ∧ (((vI T l1 1) ≤ l2 → Q none T) ∧ (¬ (vI T l1 1) ≤ l2 → gW (tP sa) lD b E (d + 1) mX1_findReached 97 [some (.ref (b + 47)), some (.ref (b + l1)), some (.int (zI l2)), some (.int (zI 0))] [] T Q))
set_option maxRecDepth 4000 in
theorem w_X1_findReached_87b {sa : Nat → Nat} {b : Nat} {E : Nat × mH} {d : Nat} {l1 : Nat} {l2 : Int} {l3 : Int} {T : gT} {Q : Option Value → gT → Prop} (hq_l1 : l1 = 2 ∨ l1 = 21) (h : f_X1_findReached_87b sa b E d l1 l2 l3 T Q) : gW (tP sa) lD b E (d + 1) mX1_findReached 87 [some (.ref (b + 47)), some (.ref (b + l1)), some (.int (zI l2)), some (.int (zI l3))] [] T Q := by
  unfold f_X1_findReached_87b at h
  refine g_iload_n dX1_findReached_87 rfl ?_
  refine g_aload_n dX1_findReached_88 rfl ?_
  refine g_getZ (v := vI T l1 1) dX1_findReached_89 tF_1_74 (lP_0 hq_l1) rfl (zI_v _ _ _) ?_
  obtain ⟨a1, h⟩ := h
  refine g_icmp_geZ dX1_findReached_92 rfl a1 ⟨vI_lo _ _ _, vI_hi _ _ _⟩ (fun c92 => ?_) (fun c92 => ?_)
  · replace h := h.1 c92
    exact g_vret dX1_findReached_144 rfl h
  · replace h := h.2 c92
    refine g_iconst (v := zI 0) dX1_findReached_95 (by decide) ?_
    refine g_istore_n (L' := [some (.ref (b + 47)), some (.ref (b + l1)), some (.int (zI l2)), some (.int (zI 0))]) dX1_findReached_96 rfl ?_
    exact h
def f_X3_add (sa : Nat → Nat) (b : Nat) (E : Nat × mH) (d : Nat) (l0 : Nat) (l1 : Int) (l2 : Int) (l3 : Int) (T : gT) (Q : Option Value → gT → Prop) : Prop := (((vI T l0 0) < 200 → 0 ≤ vI T l0 0 ∧ vI T l0 0 < 200 ∧ 0 ≤ vI (gI T (l0 + 1) (vI T l0 0).toNat (zI l1)) l0 0 ∧ vI (gI T (l0 + 1) (vI T l0 0).toNat (zI l1)) l0 0 < 200 ∧ 0 ≤ vI (gI (gI T (l0 + 1) (vI T l0 0).toNat (zI l1)) (l0 + 2) (vI (gI T (l0 + 1) (vI T l0 0).toNat (zI l1)) l0 0).toNat (zI l2)) l0 0 ∧ vI (gI (gI T (l0 + 1) (vI T l0 0).toNat (zI l1)) (l0 + 2) (vI (gI T (l0 + 1) (vI T l0 0).toNat (zI l1)) l0 0).toNat (zI l2)) l0 0 < 200 ∧ Q (some (.int (zI ((vI (gI (gI (gI (gI T (l0 + 1) (vI T l0 0).toNat (zI l1)) (l0 + 2) (vI (gI T (l0 + 1) (vI T l0 0).toNat (zI l1)) l0 0).toNat (zI l2)) (l0 + 3) (vI (gI (gI T (l0 + 1) (vI T l0 0).toNat (zI l1)) (l0 + 2) (vI (gI T (l0 + 1) (vI T l0 0).toNat (zI l1)) l0 0).toNat (zI l2)) l0 0).toNat (zI l3)) l0 0 (zI ((vI (gI (gI (gI T (l0 + 1) (vI T l0 0).toNat (zI l1)) (l0 + 2) (vI (gI T (l0 + 1) (vI T l0 0).toNat (zI l1)) l0 0).toNat (zI l2)) (l0 + 3) (vI (gI (gI T (l0 + 1) (vI T l0 0).toNat (zI l1)) (l0 + 2) (vI (gI T (l0 + 1) (vI T l0 0).toNat (zI l1)) l0 0).toNat (zI l2)) l0 0).toNat (zI l3)) l0 0) + 1))) l0 0) - 1)))) (gI (gI (gI (gI T (l0 + 1) (vI T l0 0).toNat (zI l1)) (l0 + 2) (vI (gI T (l0 + 1) (vI T l0 0).toNat (zI l1)) l0 0).toNat (zI l2)) (l0 + 3) (vI (gI (gI T (l0 + 1) (vI T l0 0).toNat (zI l1)) (l0 + 2) (vI (gI T (l0 + 1) (vI T l0 0).toNat (zI l1)) l0 0).toNat (zI l2)) l0 0).toNat (zI l3)) l0 0 (zI ((vI (gI (gI (gI T (l0 + 1) (vI T l0 0).toNat (zI l1)) (l0 + 2) (vI (gI T (l0 + 1) (vI T l0 0).toNat (zI l1)) l0 0).toNat (zI l2)) (l0 + 3) (vI (gI (gI T (l0 + 1) (vI T l0 0).toNat (zI l1)) (l0 + 2) (vI (gI T (l0 + 1) (vI T l0 0).toNat (zI l1)) l0 0).toNat (zI l2)) l0 0).toNat (zI l3)) l0 0) + 1)))) ∧ (¬ (vI T l0 0) < 200 → Q (some (.int (zI (-1)))) T))
set_option maxRecDepth 4000 in
theorem w_X3_add {sa : Nat → Nat} {b : Nat} {E : Nat × mH} {d : Nat} {l0 : Nat} {l1 : Int} {l2 : Int} {l3 : Int} {T : gT} {Q : Option Value → gT → Prop} (hq_l0 : l0 = 2 ∨ l0 = 21) (h : f_X3_add sa b E d l0 l1 l2 l3 T Q) : gC (tP sa) lD b E d mX3_add [.ref (b + l0), .int (zI l1), .int (zI l2), .int (zI l3)] T Q := by
  unfold f_X3_add at h
  refine ⟨Nat.le_of_ble_eq_true rfl, ?_⟩
  show gW (tP sa) lD b E d mX3_add 0 [some (.ref (b + l0)), some (.int (zI l1)), some (.int (zI l2)), some (.int (zI l3))] [] T Q
  refine g_aload_n dX3_add_0 rfl ?_
  refine g_getZ (v := vI T l0 0) dX3_add_1 tF_3_59 (lP_0 hq_l0) rfl (zI_v _ _ _) ?_
  refine g_sipush (v := zI 200) dX3_add_4 (by decide) ?_
  refine g_icmp_ltZ dX3_add_7 rfl ⟨vI_lo _ _ _, vI_hi _ _ _⟩ (by decide) (fun c7 => ?_) (fun c7 => ?_)
  · replace h := h.1 c7
    refine g_aload_n dX3_add_12 rfl ?_
    refine g_getR dX3_add_13 tF_3_9 (lP_0 hq_l0) rfl ?_
    refine g_aload_n dX3_add_16 rfl ?_
    refine g_getZ (v := vI T l0 0) dX3_add_17 tF_3_59 (lP_0 hq_l0) rfl (zI_v _ _ _) ?_
    refine g_iload_n dX3_add_20 rfl ?_
    obtain ⟨a1, h⟩ := h
    obtain ⟨a2, h⟩ := h
    refine g_iastZ dX3_add_21 (lP_1 hq_l0) a1 a2 (by decide) ?_
    refine g_aload_n dX3_add_22 rfl ?_
    refine g_getR dX3_add_23 tF_3_15 (lP_0 hq_l0) rfl ?_
    refine g_aload_n dX3_add_26 rfl ?_
    refine g_getZ (v := vI (gI T (l0 + 1) (vI T l0 0).toNat (zI l1)) l0 0) dX3_add_27 tF_3_59 (lP_0 hq_l0) rfl (zI_v _ _ _) ?_
    refine g_iload_n dX3_add_30 rfl ?_
    obtain ⟨a3, h⟩ := h
    obtain ⟨a4, h⟩ := h
    refine g_iastZ dX3_add_31 (lP_2 hq_l0) a3 a4 (by decide) ?_
    refine g_aload_n dX3_add_32 rfl ?_
    refine g_getR dX3_add_33 tF_3_18 (lP_0 hq_l0) rfl ?_
    refine g_aload_n dX3_add_36 rfl ?_
    refine g_getZ (v := vI (gI (gI T (l0 + 1) (vI T l0 0).toNat (zI l1)) (l0 + 2) (vI (gI T (l0 + 1) (vI T l0 0).toNat (zI l1)) l0 0).toNat (zI l2)) l0 0) dX3_add_37 tF_3_59 (lP_0 hq_l0) rfl (zI_v _ _ _) ?_
    refine g_iload_n dX3_add_40 rfl ?_
    obtain ⟨a5, h⟩ := h
    obtain ⟨a6, h⟩ := h
    refine g_iastZ dX3_add_41 (lP_3 hq_l0) a5 a6 (by decide) ?_
    refine g_aload_n dX3_add_42 rfl ?_
    refine g_dup dX3_add_43 rfl ?_
    refine g_getZ (v := vI (gI (gI (gI T (l0 + 1) (vI T l0 0).toNat (zI l1)) (l0 + 2) (vI (gI T (l0 + 1) (vI T l0 0).toNat (zI l1)) l0 0).toNat (zI l2)) (l0 + 3) (vI (gI (gI T (l0 + 1) (vI T l0 0).toNat (zI l1)) (l0 + 2) (vI (gI T (l0 + 1) (vI T l0 0).toNat (zI l1)) l0 0).toNat (zI l2)) l0 0).toNat (zI l3)) l0 0) dX3_add_44 tF_3_59 (lP_0 hq_l0) rfl (zI_v _ _ _) ?_
    refine g_iconst (v := zI 1) dX3_add_47 (by decide) ?_
    refine g_iaddZ dX3_add_48 ?_
    refine g_putI dX3_add_49 tF_3_59 (lP_0 hq_l0) rfl rfl ⟨rfl, rfl⟩ rfl ?_
    refine g_aload_n dX3_add_52 rfl ?_
    refine g_getZ (v := vI (gI (gI (gI (gI T (l0 + 1) (vI T l0 0).toNat (zI l1)) (l0 + 2) (vI (gI T (l0 + 1) (vI T l0 0).toNat (zI l1)) l0 0).toNat (zI l2)) (l0 + 3) (vI (gI (gI T (l0 + 1) (vI T l0 0).toNat (zI l1)) (l0 + 2) (vI (gI T (l0 + 1) (vI T l0 0).toNat (zI l1)) l0 0).toNat (zI l2)) l0 0).toNat (zI l3)) l0 0 (zI ((vI (gI (gI (gI T (l0 + 1) (vI T l0 0).toNat (zI l1)) (l0 + 2) (vI (gI T (l0 + 1) (vI T l0 0).toNat (zI l1)) l0 0).toNat (zI l2)) (l0 + 3) (vI (gI (gI T (l0 + 1) (vI T l0 0).toNat (zI l1)) (l0 + 2) (vI (gI T (l0 + 1) (vI T l0 0).toNat (zI l1)) l0 0).toNat (zI l2)) l0 0).toNat (zI l3)) l0 0) + 1))) l0 0) dX3_add_53 tF_3_59 (lP_0 hq_l0) rfl (zI_v _ _ _) ?_
    refine g_iconst (v := zI 1) dX3_add_56 (by decide) ?_
    refine g_isubZ dX3_add_57 ?_
    exact g_iret dX3_add_58 rfl rfl h
  · replace h := h.2 c7
    refine g_iconst (v := zI (-1)) dX3_add_10 (by decide) ?_
    exact g_iret dX3_add_11 rfl rfl h
def f_X3_numberVariables (sa : Nat → Nat) (b : Nat) (E : Nat × mH) (d : Nat) (l0 : Nat) (l1 : Int) (T : gT) (Q : Option Value → gT → Prop) : Prop := 0 ≤ l1 ∧ l1 < 200 ∧ (((vI T (l0 + 1) l1.toNat) = 0 → gC (tP sa) lD b E d mX3_countMeeting [.ref (b + l0), .int (zI (vI (gI T (l0 + 2) l1.toNat (zI (aI T (l0 + 18) 200 (vI T (l0 + 2) l1.toNat)))) (l0 + 2) l1.toNat))] (gI T (l0 + 2) l1.toNat (zI (aI T (l0 + 18) 200 (vI T (l0 + 2) l1.toNat)))) (fun r T70 => pV r (Q none T70))) ∧ (((vI T (l0 + 1) l1.toNat) = 2 ∨ (vI T (l0 + 1) l1.toNat) = 5) → gC (tP sa) lD b E d mX3_newVariable [.ref (b + l0), .int (zI (vI T (l0 + 2) l1.toNat)), .int (zI l1)] T (fun r T126 => pI r (fun v126 => Q none (gI T126 (l0 + 2) l1.toNat (zI v126))))) ∧ ((vI T (l0 + 1) l1.toNat) = 3 → gC (tP sa) lD b E d mX3_newVariable [.ref (b + l0), .int (zI (vI T (l0 + 3) l1.toNat)), .int (zI l1)] T (fun r T89 => pI r (fun v89 => gC (tP sa) lD b E d mX3_newVariable [.ref (b + l0), .int (zI (vI (gI T89 (l0 + 3) l1.toNat (zI v89)) (l0 + 2) l1.toNat)), .int (zI l1)] (gI T89 (l0 + 3) l1.toNat (zI v89)) (fun r T106 => pI r (fun v106 => Q none (gI T106 (l0 + 2) l1.toNat (zI v106))))))) ∧ ((¬ (vI T (l0 + 1) l1.toNat) = 0 ∧ ¬ (vI T (l0 + 1) l1.toNat) = 2 ∧ ¬ (vI T (l0 + 1) l1.toNat) = 3 ∧ ¬ (vI T (l0 + 1) l1.toNat) = 5) → Q none T))
set_option maxRecDepth 4000 in
theorem w_X3_numberVariables {sa : Nat → Nat} {b : Nat} {E : Nat × mH} {d : Nat} {l0 : Nat} {l1 : Int} {T : gT} {Q : Option Value → gT → Prop} (hq_l0 : l0 = 2 ∨ l0 = 21) (h : f_X3_numberVariables sa b E d l0 l1 T Q) : gC (tP sa) lD b E (d + 1) mX3_numberVariables [.ref (b + l0), .int (zI l1)] T Q := by
  unfold f_X3_numberVariables at h
  refine ⟨Nat.le_of_ble_eq_true rfl, ?_⟩
  show gW (tP sa) lD b E (d + 1) mX3_numberVariables 0 [some (.ref (b + l0)), some (.int (zI l1))] [] T Q
  refine g_aload_n dX3_numberVariables_0 rfl ?_
  refine g_getR dX3_numberVariables_1 tF_3_9 (lP_0 hq_l0) rfl ?_
  refine g_iload_n dX3_numberVariables_4 rfl ?_
  obtain ⟨a1, h⟩ := h
  obtain ⟨a2, h⟩ := h
  refine g_ialdZ (v := vI T (l0 + 1) l1.toNat) dX3_numberVariables_5 (lP_1 hq_l0) a1 a2 (by decide) (zI_v T (l0 + 1) l1.toNat) ?_
  by_cases c9 : (vI T (l0 + 1) l1.toNat) = 0
  · replace h := h.1 c9
    refine g_tabC (c := 0) (off := 38) dX3_numberVariables_6 ⟨vI_lo _ _ _, vI_hi _ _ _⟩ c9 (by decide) rfl rfl ?_
    refine g_aload_n dX3_numberVariables_44 rfl ?_
    refine g_getR dX3_numberVariables_45 tF_3_15 (lP_0 hq_l0) rfl ?_
    refine g_iload_n dX3_numberVariables_48 rfl ?_
    refine g_aload_n dX3_numberVariables_49 rfl ?_
    refine g_getR dX3_numberVariables_50 tF_3_56 (lP_0 hq_l0) rfl ?_
    refine g_aload_n dX3_numberVariables_53 rfl ?_
    refine g_getR dX3_numberVariables_54 tF_3_15 (lP_0 hq_l0) rfl ?_
    refine g_iload_n dX3_numberVariables_57 rfl ?_
    refine g_ialdZ (v := vI T (l0 + 2) l1.toNat) dX3_numberVariables_58 (lP_2 hq_l0) a1 a2 (by decide) (zI_v T (l0 + 2) l1.toNat) ?_
    refine g_callS [.ref (b + (l0 + 18)), .int (zI (vI T (l0 + 2) l1.toNat))] [.int (zI l1), .ref (b + (l0 + 2))] dX3_numberVariables_59 tG_3_100 tM_96 rfl rfl rfl rfl (by decide) ?_
    refine gC.mono (c_aI sa b E _ _ (lP_18 hq_l0) (by decide) ⟨vI_lo _ _ _, vI_hi _ _ _⟩) (Nat.le_refl _) ?_
    rintro _ _ ⟨rfl, h9⟩
    obtain rfl := h9.symm
    refine g_iastZ dX3_numberVariables_62 (lP_2 hq_l0) a1 a2 (by decide) ?_
    refine g_aload_n dX3_numberVariables_63 rfl ?_
    refine g_aload_n dX3_numberVariables_64 rfl ?_
    refine g_getR dX3_numberVariables_65 tF_3_15 (lP_0 hq_l0) rfl ?_
    refine g_iload_n dX3_numberVariables_68 rfl ?_
    refine g_ialdZ (v := vI (gI T (l0 + 2) l1.toNat (zI (aI T (l0 + 18) 200 (vI T (l0 + 2) l1.toNat)))) (l0 + 2) l1.toNat) dX3_numberVariables_69 (lP_2 hq_l0) a1 a2 (by decide) (zI_v (gI T (l0 + 2) l1.toNat (zI (aI T (l0 + 18) 200 (vI T (l0 + 2) l1.toNat)))) (l0 + 2) l1.toNat) ?_
    refine g_callV [.ref (b + l0), .int (zI (vI (gI T (l0 + 2) l1.toNat (zI (aI T (l0 + 18) 200 (vI T (l0 + 2) l1.toNat)))) (l0 + 2) l1.toNat))] [] dX3_numberVariables_70 tG_3_104 tM_34 (lP_0 hq_l0) rfl rfl rfl rfl (by decide) rfl ?_
    refine gC.mono h (Nat.le_refl _) ?_
    rintro _ T70 ⟨rfl, h⟩
    refine g_goto dX3_numberVariables_73 rfl ?_
    exact g_vret dX3_numberVariables_133 rfl h
  have n0_6 := c9
  by_cases c9 : (vI T (l0 + 1) l1.toNat) = 2 ∨ (vI T (l0 + 1) l1.toNat) = 5
  · replace h := h.2.1 c9
    rcases c9 with c9 | c9
    · refine g_tabC (c := 2) (off := 107) dX3_numberVariables_6 ⟨vI_lo _ _ _, vI_hi _ _ _⟩ c9 (by decide) rfl rfl ?_
      refine g_aload_n dX3_numberVariables_113 rfl ?_
      refine g_getR dX3_numberVariables_114 tF_3_15 (lP_0 hq_l0) rfl ?_
      refine g_iload_n dX3_numberVariables_117 rfl ?_
      refine g_aload_n dX3_numberVariables_118 rfl ?_
      refine g_aload_n dX3_numberVariables_119 rfl ?_
      refine g_getR dX3_numberVariables_120 tF_3_15 (lP_0 hq_l0) rfl ?_
      refine g_iload_n dX3_numberVariables_123 rfl ?_
      refine g_ialdZ (v := vI T (l0 + 2) l1.toNat) dX3_numberVariables_124 (lP_2 hq_l0) a1 a2 (by decide) (zI_v T (l0 + 2) l1.toNat) ?_
      refine g_iload_n dX3_numberVariables_125 rfl ?_
      refine g_callV [.ref (b + l0), .int (zI (vI T (l0 + 2) l1.toNat)), .int (zI l1)] [.int (zI l1), .ref (b + (l0 + 2))] dX3_numberVariables_126 tG_3_107 tM_33 (lP_0 hq_l0) rfl rfl rfl rfl (by decide) rfl ?_
      refine gC.mono h (Nat.le_refl _) ?_
      rintro _ T126 ⟨v126, rfl, h⟩
      refine g_iastZ dX3_numberVariables_129 (lP_2 hq_l0) a1 a2 (by decide) ?_
      refine g_goto dX3_numberVariables_130 rfl ?_
      exact g_vret dX3_numberVariables_133 rfl h
    refine g_tabC (c := 5) (off := 107) dX3_numberVariables_6 ⟨vI_lo _ _ _, vI_hi _ _ _⟩ c9 (by decide) rfl rfl ?_
    refine g_aload_n dX3_numberVariables_113 rfl ?_
    refine g_getR dX3_numberVariables_114 tF_3_15 (lP_0 hq_l0) rfl ?_
    refine g_iload_n dX3_numberVariables_117 rfl ?_
    refine g_aload_n dX3_numberVariables_118 rfl ?_
    refine g_aload_n dX3_numberVariables_119 rfl ?_
    refine g_getR dX3_numberVariables_120 tF_3_15 (lP_0 hq_l0) rfl ?_
    refine g_iload_n dX3_numberVariables_123 rfl ?_
    refine g_ialdZ (v := vI T (l0 + 2) l1.toNat) dX3_numberVariables_124 (lP_2 hq_l0) a1 a2 (by decide) (zI_v T (l0 + 2) l1.toNat) ?_
    refine g_iload_n dX3_numberVariables_125 rfl ?_
    refine g_callV [.ref (b + l0), .int (zI (vI T (l0 + 2) l1.toNat)), .int (zI l1)] [.int (zI l1), .ref (b + (l0 + 2))] dX3_numberVariables_126 tG_3_107 tM_33 (lP_0 hq_l0) rfl rfl rfl rfl (by decide) rfl ?_
    refine gC.mono h (Nat.le_refl _) ?_
    rintro _ T126 ⟨v126, rfl, h⟩
    refine g_iastZ dX3_numberVariables_129 (lP_2 hq_l0) a1 a2 (by decide) ?_
    refine g_goto dX3_numberVariables_130 rfl ?_
    exact g_vret dX3_numberVariables_133 rfl h
  have n1_6 := c9
  by_cases c9 : (vI T (l0 + 1) l1.toNat) = 3
  · replace h := h.2.2.1 c9
    refine g_tabC (c := 3) (off := 70) dX3_numberVariables_6 ⟨vI_lo _ _ _, vI_hi _ _ _⟩ c9 (by decide) rfl rfl ?_
    refine g_aload_n dX3_numberVariables_76 rfl ?_
    refine g_getR dX3_numberVariables_77 tF_3_18 (lP_0 hq_l0) rfl ?_
    refine g_iload_n dX3_numberVariables_80 rfl ?_
    refine g_aload_n dX3_numberVariables_81 rfl ?_
    refine g_aload_n dX3_numberVariables_82 rfl ?_
    refine g_getR dX3_numberVariables_83 tF_3_18 (lP_0 hq_l0) rfl ?_
    refine g_iload_n dX3_numberVariables_86 rfl ?_
    refine g_ialdZ (v := vI T (l0 + 3) l1.toNat) dX3_numberVariables_87 (lP_3 hq_l0) a1 a2 (by decide) (zI_v T (l0 + 3) l1.toNat) ?_
    refine g_iload_n dX3_numberVariables_88 rfl ?_
    refine g_callV [.ref (b + l0), .int (zI (vI T (l0 + 3) l1.toNat)), .int (zI l1)] [.int (zI l1), .ref (b + (l0 + 3))] dX3_numberVariables_89 tG_3_107 tM_33 (lP_0 hq_l0) rfl rfl rfl rfl (by decide) rfl ?_
    refine gC.mono h (Nat.le_refl _) ?_
    rintro _ T89 ⟨v89, rfl, h⟩
    refine g_iastZ dX3_numberVariables_92 (lP_3 hq_l0) a1 a2 (by decide) ?_
    refine g_aload_n dX3_numberVariables_93 rfl ?_
    refine g_getR dX3_numberVariables_94 tF_3_15 (lP_0 hq_l0) rfl ?_
    refine g_iload_n dX3_numberVariables_97 rfl ?_
    refine g_aload_n dX3_numberVariables_98 rfl ?_
    refine g_aload_n dX3_numberVariables_99 rfl ?_
    refine g_getR dX3_numberVariables_100 tF_3_15 (lP_0 hq_l0) rfl ?_
    refine g_iload_n dX3_numberVariables_103 rfl ?_
    refine g_ialdZ (v := vI (gI T89 (l0 + 3) l1.toNat (zI v89)) (l0 + 2) l1.toNat) dX3_numberVariables_104 (lP_2 hq_l0) a1 a2 (by decide) (zI_v (gI T89 (l0 + 3) l1.toNat (zI v89)) (l0 + 2) l1.toNat) ?_
    refine g_iload_n dX3_numberVariables_105 rfl ?_
    refine g_callV [.ref (b + l0), .int (zI (vI (gI T89 (l0 + 3) l1.toNat (zI v89)) (l0 + 2) l1.toNat)), .int (zI l1)] [.int (zI l1), .ref (b + (l0 + 2))] dX3_numberVariables_106 tG_3_107 tM_33 (lP_0 hq_l0) rfl rfl rfl rfl (by decide) rfl ?_
    refine gC.mono h (Nat.le_refl _) ?_
    rintro _ T106 ⟨v106, rfl, h⟩
    refine g_iastZ dX3_numberVariables_109 (lP_2 hq_l0) a1 a2 (by decide) ?_
    refine g_goto dX3_numberVariables_110 rfl ?_
    exact g_vret dX3_numberVariables_133 rfl h
  have n2_6 := c9
  replace h := h.2.2.2 ⟨n0_6, (fun e => n1_6 (Or.inl e)), n2_6, (fun e => n1_6 (Or.inr (e)))⟩
  have o7 : ¬ ((vI T (l0 + 1) l1.toNat) < 0 ∨ 5 < (vI T (l0 + 1) l1.toNat)) → (#[38, 127, 107, 70, 127, 107] : Array Int)[((vI T (l0 + 1) l1.toNat) - 0).toNat]? = some 127 := by
    intro o9
    have o8 : (vI T (l0 + 1) l1.toNat) = 1 ∨ (vI T (l0 + 1) l1.toNat) = 4 := by omega
    rcases o8 with o8 | o8 <;> rw [o8] <;> rfl
  refine g_tabD dX3_numberVariables_6 ⟨vI_lo _ _ _, vI_hi _ _ _⟩ o7 rfl ?_
  exact g_vret dX3_numberVariables_133 rfl h
def f_X3_countFree (sa : Nat → Nat) (b : Nat) (E : Nat × mH) (d : Nat) (l0 : Nat) (l1 : Int) (T : gT) (Q : Option Value → gT → Prop) : Prop := (-2147483648 ≤ l1 ∧ l1 < 2147483648) ∧ gW (tP sa) lD b E (d + 1 + 1) mX3_countFree 18 [some (.ref (b + l0)), some (.int (zI l1)), some (.int (zI (aI T (l0 + 7) 50 l1))), some (.int (zI 0)), some (.int (zI (if (aI T (l0 + 7) 50 l1) < 0 then 0 else (aI T (l0 + 7) 50 l1)))), none, none] [] T Q
set_option maxRecDepth 4000 in
theorem w_X3_countFree {sa : Nat → Nat} {b : Nat} {E : Nat × mH} {d : Nat} {l0 : Nat} {l1 : Int} {T : gT} {Q : Option Value → gT → Prop} (hq_l0 : l0 = 2 ∨ l0 = 21) (h : f_X3_countFree sa b E d l0 l1 T Q) : gC (tP sa) lD b E (d + 1 + 1) mX3_countFree [.ref (b + l0), .int (zI l1)] T Q := by
  unfold f_X3_countFree at h
  refine ⟨Nat.le_of_ble_eq_true rfl, ?_⟩
  show gW (tP sa) lD b E (d + 1 + 1) mX3_countFree 0 [some (.ref (b + l0)), some (.int (zI l1)), none, none, none, none, none] [] T Q
  refine g_aload_n dX3_countFree_0 rfl ?_
  refine g_getR dX3_countFree_1 tF_3_30 (lP_0 hq_l0) rfl ?_
  refine g_iload_n dX3_countFree_4 rfl ?_
  obtain ⟨a1, h⟩ := h
  refine g_callS [.ref (b + (l0 + 7)), .int (zI l1)] [] dX3_countFree_5 tG_3_100 tM_96 rfl rfl rfl rfl (by decide) ?_
  refine gC.mono (c_aI sa b E _ _ (lP_7 hq_l0) (by decide) a1) (Nat.le_refl _) ?_
  rintro _ _ ⟨rfl, h9⟩
  obtain rfl := h9.symm
  refine g_istore_n (L' := [some (.ref (b + l0)), some (.int (zI l1)), some (.int (zI (aI T (l0 + 7) 50 l1))), none, none, none, none]) dX3_countFree_8 rfl ?_
  refine g_iconst (v := zI 0) dX3_countFree_9 (by decide) ?_
  refine g_istore_n (L' := [some (.ref (b + l0)), some (.int (zI l1)), some (.int (zI (aI T (l0 + 7) 50 l1))), some (.int (zI 0)), none, none, none]) dX3_countFree_10 rfl ?_
  refine g_iload_n dX3_countFree_11 rfl ?_
  refine g_iconst (v := zI 0) dX3_countFree_12 (by decide) ?_
  refine g_primS (st1 := [.int (zI (if (aI T (l0 + 7) 50 l1) < 0 then 0 else (aI T (l0 + 7) 50 l1)))]) dX3_countFree_13 tG_3_63 rfl (fun S9 => congrArg (fun v9 => some (Value.int v9 :: _, S9)) (zI_max (x := (aI T (l0 + 7) 50 l1)) (y := 0) (aI_rg _ _ _ _) (by decide))) rfl ?_
  refine g_istore (L' := [some (.ref (b + l0)), some (.int (zI l1)), some (.int (zI (aI T (l0 + 7) 50 l1))), some (.int (zI 0)), some (.int (zI (if (aI T (l0 + 7) 50 l1) < 0 then 0 else (aI T (l0 + 7) 50 l1)))), none, none]) dX3_countFree_16 rfl ?_
  exact h
def f_X3_countFree_18 (sa : Nat → Nat) (b : Nat) (E : Nat × mH) (d : Nat) (l0 : Nat) (l1 : Int) (l2 : Int) (l3 : Int) (l4 : Int) (T : gT) (Q : Option Value → gT → Prop) : Prop := (-2147483648 ≤ l2 ∧ l2 < 2147483648) ∧ (-2147483648 ≤ l4 ∧ l4 < 2147483648) ∧ (((aI T (l0 + 17) 200 l2) ≤ l4 → Q (some (.int (zI l3))) T) ∧ (¬ (aI T (l0 + 17) 200 l2) ≤ l4 → (((vI T l0 0) ≤ l4 → Q (some (.int (zI l3))) T) ∧ (¬ (vI T l0 0) ≤ l4 → 0 ≤ l4 ∧ l4 < 200 ∧ ((¬ (vI T (l0 + 1) l4.toNat) = 0 → gW (tP sa) lD b E (d + 1 + 1) mX3_countFree 58 [some (.ref (b + l0)), some (.int (zI l1)), some (.int (zI l2)), some (.int (zI l3)), some (.int (zI l4)), none, none] [.int (zI (-1))] T Q) ∧ ((vI T (l0 + 1) l4.toNat) = 0 → gW (tP sa) lD b E (d + 1 + 1) mX3_countFree 58 [some (.ref (b + l0)), some (.int (zI l1)), some (.int (zI l2)), some (.int (zI l3)), some (.int (zI l4)), none, none] [.int (zI (vI T (l0 + 2) l4.toNat))] T Q))))))
set_option maxRecDepth 4000 in
theorem w_X3_countFree_18 {sa : Nat → Nat} {b : Nat} {E : Nat × mH} {d : Nat} {l0 : Nat} {l1 : Int} {l2 : Int} {l3 : Int} {l4 : Int} {T : gT} {Q : Option Value → gT → Prop} (hq_l0 : l0 = 2 ∨ l0 = 21) (h : f_X3_countFree_18 sa b E d l0 l1 l2 l3 l4 T Q) : gW (tP sa) lD b E (d + 1 + 1) mX3_countFree 18 [some (.ref (b + l0)), some (.int (zI l1)), some (.int (zI l2)), some (.int (zI l3)), some (.int (zI l4)), none, none] [] T Q := by
  unfold f_X3_countFree_18 at h
  refine g_iload dX3_countFree_18 rfl ?_
  refine g_aload_n dX3_countFree_20 rfl ?_
  refine g_iload_n dX3_countFree_21 rfl ?_
  obtain ⟨a1, h⟩ := h
  refine g_callV [.ref (b + l0), .int (zI l2)] [.int (zI l4)] dX3_countFree_22 tG_3_110 tM_40 (lP_0 hq_l0) rfl rfl rfl rfl (by decide) rfl ?_
  refine gC.mono (c_endOf sa b E _ _ hq_l0 a1) (Nat.le_refl _) ?_
  rintro _ _ ⟨rfl, h9⟩
  obtain rfl := h9.symm
  obtain ⟨a2, h⟩ := h
  refine g_icmp_geZ dX3_countFree_25 rfl a2 (aI_rg _ _ _ _) (fun c25 => ?_) (fun c25 => ?_)
  · replace h := h.1 c25
    refine g_iload_n dX3_countFree_125 rfl ?_
    exact g_iret dX3_countFree_126 rfl rfl h
  · replace h := h.2 c25
    refine g_iload dX3_countFree_28 rfl ?_
    refine g_aload_n dX3_countFree_30 rfl ?_
    refine g_getZ (v := vI T l0 0) dX3_countFree_31 tF_3_59 (lP_0 hq_l0) rfl (zI_v _ _ _) ?_
    refine g_icmp_geZ dX3_countFree_34 rfl a2 ⟨vI_lo _ _ _, vI_hi _ _ _⟩ (fun c34 => ?_) (fun c34 => ?_)
    · replace h := h.1 c34
      refine g_iload_n dX3_countFree_125 rfl ?_
      exact g_iret dX3_countFree_126 rfl rfl h
    · replace h := h.2 c34
      refine g_aload_n dX3_countFree_37 rfl ?_
      refine g_getR dX3_countFree_38 tF_3_9 (lP_0 hq_l0) rfl ?_
      refine g_iload dX3_countFree_41 rfl ?_
      obtain ⟨a3, h⟩ := h
      obtain ⟨a4, h⟩ := h
      refine g_ialdZ (v := vI T (l0 + 1) l4.toNat) dX3_countFree_43 (lP_1 hq_l0) a3 a4 (by decide) (zI_v T (l0 + 1) l4.toNat) ?_
      refine g_if_neZ dX3_countFree_44 rfl ⟨vI_lo _ _ _, vI_hi _ _ _⟩  (fun c44 => ?_) (fun c44 => ?_)
      · replace h := h.1 c44
        refine g_iconst (v := zI (-1)) dX3_countFree_57 (by decide) ?_
        exact h
      · replace h := h.2 c44
        refine g_aload_n dX3_countFree_47 rfl ?_
        refine g_getR dX3_countFree_48 tF_3_15 (lP_0 hq_l0) rfl ?_
        refine g_iload dX3_countFree_51 rfl ?_
        refine g_ialdZ (v := vI T (l0 + 2) l4.toNat) dX3_countFree_53 (lP_2 hq_l0) a3 a4 (by decide) (zI_v T (l0 + 2) l4.toNat) ?_
        refine g_goto dX3_countFree_54 rfl ?_
        exact h
def f_X3_countFree_58 (sa : Nat → Nat) (b : Nat) (E : Nat × mH) (d : Nat) (l0 : Nat) (l1 : Int) (l2 : Int) (l3 : Int) (l4 : Int) (s0 : Int) (T : gT) (Q : Option Value → gT → Prop) : Prop := (-2147483648 ≤ s0 ∧ s0 < 2147483648) ∧ ((s0 < 0 → gW (tP sa) lD b E (d + 1 + 1) mX3_countFree 89 [some (.ref (b + l0)), some (.int (zI l1)), some (.int (zI l2)), some (.int (zI l3)), some (.int (zI l4)), some (.int (zI s0)), none] [] T Q) ∧ (¬ s0 < 0 → (((vI T l0 2) ≤ s0 → gW (tP sa) lD b E (d + 1 + 1) mX3_countFree 89 [some (.ref (b + l0)), some (.int (zI l1)), some (.int (zI l2)), some (.int (zI l3)), some (.int (zI l4)), some (.int (zI s0)), none] [] T Q) ∧ (¬ (vI T l0 2) ≤ s0 → 0 ≤ s0 ∧ s0 < 100 ∧ (-2147483648 ≤ l2 ∧ l2 < 2147483648) ∧ ((l2 ≤ (vI T (l0 + 8) s0.toNat) → gW (tP sa) lD b E (d + 1 + 1) mX3_countFree 89 [some (.ref (b + l0)), some (.int (zI l1)), some (.int (zI l2)), some (.int (zI l3)), some (.int (zI l4)), some (.int (zI s0)), none] [] T Q) ∧ (¬ l2 ≤ (vI T (l0 + 8) s0.toNat) → gW (tP sa) lD b E (d + 1 + 1) mX3_countFree 90 [some (.ref (b + l0)), some (.int (zI l1)), some (.int (zI l2)), some (.int (zI l3)), some (.int (zI l4)), some (.int (zI s0)), none] [.int (zI 1)] T Q))))))
set_option maxRecDepth 4000 in
theorem w_X3_countFree_58 {sa : Nat → Nat} {b : Nat} {E : Nat × mH} {d : Nat} {l0 : Nat} {l1 : Int} {l2 : Int} {l3 : Int} {l4 : Int} {s0 : Int} {T : gT} {Q : Option Value → gT → Prop} (hq_l0 : l0 = 2 ∨ l0 = 21) (h : f_X3_countFree_58 sa b E d l0 l1 l2 l3 l4 s0 T Q) : gW (tP sa) lD b E (d + 1 + 1) mX3_countFree 58 [some (.ref (b + l0)), some (.int (zI l1)), some (.int (zI l2)), some (.int (zI l3)), some (.int (zI l4)), none, none] [.int (zI s0)] T Q := by
  unfold f_X3_countFree_58 at h
  refine g_istore (L' := [some (.ref (b + l0)), some (.int (zI l1)), some (.int (zI l2)), some (.int (zI l3)), some (.int (zI l4)), some (.int (zI s0)), none]) dX3_countFree_58 rfl ?_
  refine g_iload dX3_countFree_60 rfl ?_
  obtain ⟨a1, h⟩ := h
  refine g_if_ltZ dX3_countFree_62 rfl a1  (fun c62 => ?_) (fun c62 => ?_)
  · replace h := h.1 c62
    exact h
  · replace h := h.2 c62
    refine g_iload dX3_countFree_65 rfl ?_
    refine g_aload_n dX3_countFree_67 rfl ?_
    refine g_getZ (v := vI T l0 2) dX3_countFree_68 tF_3_80 (lP_0 hq_l0) rfl (zI_v _ _ _) ?_
    refine g_icmp_geZ dX3_countFree_71 rfl a1 ⟨vI_lo _ _ _, vI_hi _ _ _⟩ (fun c71 => ?_) (fun c71 => ?_)
    · replace h := h.1 c71
      exact h
    · replace h := h.2 c71
      refine g_aload_n dX3_countFree_74 rfl ?_
      refine g_getR dX3_countFree_75 tF_3_33 (lP_0 hq_l0) rfl ?_
      refine g_iload dX3_countFree_78 rfl ?_
      obtain ⟨a2, h⟩ := h
      obtain ⟨a3, h⟩ := h
      refine g_ialdZ (v := vI T (l0 + 8) s0.toNat) dX3_countFree_80 (lP_8 hq_l0) a2 a3 (by decide) (zI_v T (l0 + 8) s0.toNat) ?_
      refine g_iload_n dX3_countFree_81 rfl ?_
      obtain ⟨a4, h⟩ := h
      refine g_icmp_geZ dX3_countFree_82 rfl ⟨vI_lo _ _ _, vI_hi _ _ _⟩ a4 (fun c82 => ?_) (fun c82 => ?_)
      · replace h := h.1 c82
        exact h
      · replace h := h.2 c82
        refine g_iconst (v := zI 1) dX3_countFree_85 (by decide) ?_
        refine g_goto dX3_countFree_86 rfl ?_
        exact h
def f_X3_countFree_89 (sa : Nat → Nat) (b : Nat) (E : Nat × mH) (d : Nat) (l0 : Nat) (l1 : Int) (l2 : Int) (l3 : Int) (l4 : Int) (l5 : Int) (T : gT) (Q : Option Value → gT → Prop) : Prop := gW (tP sa) lD b E (d + 1 + 1) mX3_countFree 90 [some (.ref (b + l0)), some (.int (zI l1)), some (.int (zI l2)), some (.int (zI l3)), some (.int (zI l4)), some (.int (zI l5)), none] [.int (zI 0)] T Q
set_option maxRecDepth 4000 in
theorem w_X3_countFree_89 {sa : Nat → Nat} {b : Nat} {E : Nat × mH} {d : Nat} {l0 : Nat} {l1 : Int} {l2 : Int} {l3 : Int} {l4 : Int} {l5 : Int} {T : gT} {Q : Option Value → gT → Prop} (hq_l0 : l0 = 2 ∨ l0 = 21) (h : f_X3_countFree_89 sa b E d l0 l1 l2 l3 l4 l5 T Q) : gW (tP sa) lD b E (d + 1 + 1) mX3_countFree 89 [some (.ref (b + l0)), some (.int (zI l1)), some (.int (zI l2)), some (.int (zI l3)), some (.int (zI l4)), some (.int (zI l5)), none] [] T Q := by
  unfold f_X3_countFree_89 at h
  refine g_iconst (v := zI 0) dX3_countFree_89 (by decide) ?_
  exact h
def f_X3_countFree_90 (sa : Nat → Nat) (b : Nat) (E : Nat × mH) (d : Nat) (l0 : Nat) (l1 : Int) (l2 : Int) (l3 : Int) (l4 : Int) (l5 : Int) (s0 : Int) (T : gT) (Q : Option Value → gT → Prop) : Prop := (-2147483648 ≤ s0 ∧ s0 < 2147483648) ∧ ((s0 = 0 → gW (tP sa) lD b E (d + 1 + 1) mX3_countFree 18 [some (.ref (b + l0)), some (.int (zI l1)), some (.int (zI l2)), some (.int (zI l3)), some (.int (zI (l4 + 1))), some (.int (zI l5)), some (.int (zI s0))] [] T Q) ∧ (¬ s0 = 0 → 0 ≤ l5 ∧ l5 < 100 ∧ (-2147483648 ≤ l1 ∧ l1 < 2147483648) ∧ (((vI T (l0 + 11) l5.toNat) = l1 → gW (tP sa) lD b E (d + 1 + 1) mX3_countFree 18 [some (.ref (b + l0)), some (.int (zI l1)), some (.int (zI l2)), some (.int (zI l3)), some (.int (zI (l4 + 1))), some (.int (zI l5)), some (.int (zI s0))] [] T Q) ∧ (¬ (vI T (l0 + 11) l5.toNat) = l1 → gW (tP sa) lD b E (d + 1 + 1) mX3_countFree 18 [some (.ref (b + l0)), some (.int (zI l1)), some (.int (zI l2)), some (.int (zI (l3 + 1))), some (.int (zI (l4 + 1))), some (.int (zI l5)), some (.int (zI s0))] [] (gI T (l0 + 11) l5.toNat (zI l1)) Q))))
set_option maxRecDepth 4000 in
theorem w_X3_countFree_90 {sa : Nat → Nat} {b : Nat} {E : Nat × mH} {d : Nat} {l0 : Nat} {l1 : Int} {l2 : Int} {l3 : Int} {l4 : Int} {l5 : Int} {s0 : Int} {T : gT} {Q : Option Value → gT → Prop} (hq_l0 : l0 = 2 ∨ l0 = 21) (h : f_X3_countFree_90 sa b E d l0 l1 l2 l3 l4 l5 s0 T Q) : gW (tP sa) lD b E (d + 1 + 1) mX3_countFree 90 [some (.ref (b + l0)), some (.int (zI l1)), some (.int (zI l2)), some (.int (zI l3)), some (.int (zI l4)), some (.int (zI l5)), none] [.int (zI s0)] T Q := by
  unfold f_X3_countFree_90 at h
  refine g_istore (L' := [some (.ref (b + l0)), some (.int (zI l1)), some (.int (zI l2)), some (.int (zI l3)), some (.int (zI l4)), some (.int (zI l5)), some (.int (zI s0))]) dX3_countFree_90 rfl ?_
  refine g_iload dX3_countFree_92 rfl ?_
  obtain ⟨a1, h⟩ := h
  refine g_if_eqZ dX3_countFree_94 rfl a1  (fun c94 => ?_) (fun c94 => ?_)
  · replace h := h.1 c94
    refine g_iinc (x := zI l4) (v := zI (l4 + 1)) (L' := [some (.ref (b + l0)), some (.int (zI l1)), some (.int (zI l2)), some (.int (zI l3)), some (.int (zI (l4 + 1))), some (.int (zI l5)), some (.int (zI s0))]) dX3_countFree_119 rfl (zI_add _ _) rfl ?_
    refine g_goto dX3_countFree_122 rfl ?_
    exact h
  · replace h := h.2 c94
    refine g_aload_n dX3_countFree_97 rfl ?_
    refine g_getR dX3_countFree_98 tF_3_42 (lP_0 hq_l0) rfl ?_
    refine g_iload dX3_countFree_101 rfl ?_
    obtain ⟨a2, h⟩ := h
    obtain ⟨a3, h⟩ := h
    refine g_ialdZ (v := vI T (l0 + 11) l5.toNat) dX3_countFree_103 (lP_11 hq_l0) a2 a3 (by decide) (zI_v T (l0 + 11) l5.toNat) ?_
    refine g_iload_n dX3_countFree_104 rfl ?_
    obtain ⟨a4, h⟩ := h
    refine g_icmp_eqZ dX3_countFree_105 rfl ⟨vI_lo _ _ _, vI_hi _ _ _⟩ a4 (fun c105 => ?_) (fun c105 => ?_)
    · replace h := h.1 c105
      refine g_iinc (x := zI l4) (v := zI (l4 + 1)) (L' := [some (.ref (b + l0)), some (.int (zI l1)), some (.int (zI l2)), some (.int (zI l3)), some (.int (zI (l4 + 1))), some (.int (zI l5)), some (.int (zI s0))]) dX3_countFree_119 rfl (zI_add _ _) rfl ?_
      refine g_goto dX3_countFree_122 rfl ?_
      exact h
    · replace h := h.2 c105
      refine g_aload_n dX3_countFree_108 rfl ?_
      refine g_getR dX3_countFree_109 tF_3_42 (lP_0 hq_l0) rfl ?_
      refine g_iload dX3_countFree_112 rfl ?_
      refine g_iload_n dX3_countFree_114 rfl ?_
      refine g_iastZ dX3_countFree_115 (lP_11 hq_l0) a2 a3 (by decide) ?_
      refine g_iinc (x := zI l3) (v := zI (l3 + 1)) (L' := [some (.ref (b + l0)), some (.int (zI l1)), some (.int (zI l2)), some (.int (zI (l3 + 1))), some (.int (zI l4)), some (.int (zI l5)), some (.int (zI s0))]) dX3_countFree_116 rfl (zI_add _ _) rfl ?_
      refine g_iinc (x := zI l4) (v := zI (l4 + 1)) (L' := [some (.ref (b + l0)), some (.int (zI l1)), some (.int (zI l2)), some (.int (zI (l3 + 1))), some (.int (zI (l4 + 1))), some (.int (zI l5)), some (.int (zI s0))]) dX3_countFree_119 rfl (zI_add _ _) rfl ?_
      refine g_goto dX3_countFree_122 rfl ?_
      exact h
def f_X3_countFree_18b (sa : Nat → Nat) (b : Nat) (E : Nat × mH) (d : Nat) (l0 : Nat) (l1 : Int) (l2 : Int) (l3 : Int) (l4 : Int) (l5 : Int) (l6 : Int) (T : gT) (Q : Option Value → gT → Prop) : Prop := (-2147483648 ≤ l2 ∧ l2 < 2147483648) ∧ (-2147483648 ≤ l4 ∧ l4 < 2147483648) ∧ (((aI T (l0 + 17) 200 l2) ≤ l4 → Q (some (.int (zI l3))) T) ∧ (¬ (aI T (l0 + 17) 200 l2) ≤ l4 → (((vI T l0 0) ≤ l4 → Q (some (.int (zI l3))) T) ∧ (¬ (vI T l0 0) ≤ l4 → 0 ≤ l4 ∧ l4 < 200 ∧ ((¬ (vI T (l0 + 1) l4.toNat) = 0 → gW (tP sa) lD b E (d + 1 + 1) mX3_countFree 58 [some (.ref (b + l0)), some (.int (zI l1)), some (.int (zI l2)), some (.int (zI l3)), some (.int (zI l4)), some (.int (zI l5)), some (.int (zI l6))] [.int (zI (-1))] T Q) ∧ ((vI T (l0 + 1) l4.toNat) = 0 → gW (tP sa) lD b E (d + 1 + 1) mX3_countFree 58 [some (.ref (b + l0)), some (.int (zI l1)), some (.int (zI l2)), some (.int (zI l3)), some (.int (zI l4)), some (.int (zI l5)), some (.int (zI l6))] [.int (zI (vI T (l0 + 2) l4.toNat))] T Q))))))
set_option maxRecDepth 4000 in
theorem w_X3_countFree_18b {sa : Nat → Nat} {b : Nat} {E : Nat × mH} {d : Nat} {l0 : Nat} {l1 : Int} {l2 : Int} {l3 : Int} {l4 : Int} {l5 : Int} {l6 : Int} {T : gT} {Q : Option Value → gT → Prop} (hq_l0 : l0 = 2 ∨ l0 = 21) (h : f_X3_countFree_18b sa b E d l0 l1 l2 l3 l4 l5 l6 T Q) : gW (tP sa) lD b E (d + 1 + 1) mX3_countFree 18 [some (.ref (b + l0)), some (.int (zI l1)), some (.int (zI l2)), some (.int (zI l3)), some (.int (zI l4)), some (.int (zI l5)), some (.int (zI l6))] [] T Q := by
  unfold f_X3_countFree_18b at h
  refine g_iload dX3_countFree_18 rfl ?_
  refine g_aload_n dX3_countFree_20 rfl ?_
  refine g_iload_n dX3_countFree_21 rfl ?_
  obtain ⟨a1, h⟩ := h
  refine g_callV [.ref (b + l0), .int (zI l2)] [.int (zI l4)] dX3_countFree_22 tG_3_110 tM_40 (lP_0 hq_l0) rfl rfl rfl rfl (by decide) rfl ?_
  refine gC.mono (c_endOf sa b E _ _ hq_l0 a1) (Nat.le_refl _) ?_
  rintro _ _ ⟨rfl, h9⟩
  obtain rfl := h9.symm
  obtain ⟨a2, h⟩ := h
  refine g_icmp_geZ dX3_countFree_25 rfl a2 (aI_rg _ _ _ _) (fun c25 => ?_) (fun c25 => ?_)
  · replace h := h.1 c25
    refine g_iload_n dX3_countFree_125 rfl ?_
    exact g_iret dX3_countFree_126 rfl rfl h
  · replace h := h.2 c25
    refine g_iload dX3_countFree_28 rfl ?_
    refine g_aload_n dX3_countFree_30 rfl ?_
    refine g_getZ (v := vI T l0 0) dX3_countFree_31 tF_3_59 (lP_0 hq_l0) rfl (zI_v _ _ _) ?_
    refine g_icmp_geZ dX3_countFree_34 rfl a2 ⟨vI_lo _ _ _, vI_hi _ _ _⟩ (fun c34 => ?_) (fun c34 => ?_)
    · replace h := h.1 c34
      refine g_iload_n dX3_countFree_125 rfl ?_
      exact g_iret dX3_countFree_126 rfl rfl h
    · replace h := h.2 c34
      refine g_aload_n dX3_countFree_37 rfl ?_
      refine g_getR dX3_countFree_38 tF_3_9 (lP_0 hq_l0) rfl ?_
      refine g_iload dX3_countFree_41 rfl ?_
      obtain ⟨a3, h⟩ := h
      obtain ⟨a4, h⟩ := h
      refine g_ialdZ (v := vI T (l0 + 1) l4.toNat) dX3_countFree_43 (lP_1 hq_l0) a3 a4 (by decide) (zI_v T (l0 + 1) l4.toNat) ?_
      refine g_if_neZ dX3_countFree_44 rfl ⟨vI_lo _ _ _, vI_hi _ _ _⟩  (fun c44 => ?_) (fun c44 => ?_)
      · replace h := h.1 c44
        refine g_iconst (v := zI (-1)) dX3_countFree_57 (by decide) ?_
        exact h
      · replace h := h.2 c44
        refine g_aload_n dX3_countFree_47 rfl ?_
        refine g_getR dX3_countFree_48 tF_3_15 (lP_0 hq_l0) rfl ?_
        refine g_iload dX3_countFree_51 rfl ?_
        refine g_ialdZ (v := vI T (l0 + 2) l4.toNat) dX3_countFree_53 (lP_2 hq_l0) a3 a4 (by decide) (zI_v T (l0 + 2) l4.toNat) ?_
        refine g_goto dX3_countFree_54 rfl ?_
        exact h
def f_X3_countFree_58b (sa : Nat → Nat) (b : Nat) (E : Nat × mH) (d : Nat) (l0 : Nat) (l1 : Int) (l2 : Int) (l3 : Int) (l4 : Int) (l5 : Int) (l6 : Int) (s0 : Int) (T : gT) (Q : Option Value → gT → Prop) : Prop := (-2147483648 ≤ s0 ∧ s0 < 2147483648) ∧ ((s0 < 0 → gW (tP sa) lD b E (d + 1 + 1) mX3_countFree 89 [some (.ref (b + l0)), some (.int (zI l1)), some (.int (zI l2)), some (.int (zI l3)), some (.int (zI l4)), some (.int (zI s0)), some (.int (zI l6))] [] T Q) ∧ (¬ s0 < 0 → (((vI T l0 2) ≤ s0 → gW (tP sa) lD b E (d + 1 + 1) mX3_countFree 89 [some (.ref (b + l0)), some (.int (zI l1)), some (.int (zI l2)), some (.int (zI l3)), some (.int (zI l4)), some (.int (zI s0)), some (.int (zI l6))] [] T Q) ∧ (¬ (vI T l0 2) ≤ s0 → 0 ≤ s0 ∧ s0 < 100 ∧ (-2147483648 ≤ l2 ∧ l2 < 2147483648) ∧ ((l2 ≤ (vI T (l0 + 8) s0.toNat) → gW (tP sa) lD b E (d + 1 + 1) mX3_countFree 89 [some (.ref (b + l0)), some (.int (zI l1)), some (.int (zI l2)), some (.int (zI l3)), some (.int (zI l4)), some (.int (zI s0)), some (.int (zI l6))] [] T Q) ∧ (¬ l2 ≤ (vI T (l0 + 8) s0.toNat) → gW (tP sa) lD b E (d + 1 + 1) mX3_countFree 90 [some (.ref (b + l0)), some (.int (zI l1)), some (.int (zI l2)), some (.int (zI l3)), some (.int (zI l4)), some (.int (zI s0)), some (.int (zI l6))] [.int (zI 1)] T Q))))))
set_option maxRecDepth 4000 in
theorem w_X3_countFree_58b {sa : Nat → Nat} {b : Nat} {E : Nat × mH} {d : Nat} {l0 : Nat} {l1 : Int} {l2 : Int} {l3 : Int} {l4 : Int} {l5 : Int} {l6 : Int} {s0 : Int} {T : gT} {Q : Option Value → gT → Prop} (hq_l0 : l0 = 2 ∨ l0 = 21) (h : f_X3_countFree_58b sa b E d l0 l1 l2 l3 l4 l5 l6 s0 T Q) : gW (tP sa) lD b E (d + 1 + 1) mX3_countFree 58 [some (.ref (b + l0)), some (.int (zI l1)), some (.int (zI l2)), some (.int (zI l3)), some (.int (zI l4)), some (.int (zI l5)), some (.int (zI l6))] [.int (zI s0)] T Q := by
  unfold f_X3_countFree_58b at h
  refine g_istore (L' := [some (.ref (b + l0)), some (.int (zI l1)), some (.int (zI l2)), some (.int (zI l3)), some (.int (zI l4)), some (.int (zI s0)), some (.int (zI l6))]) dX3_countFree_58 rfl ?_
  refine g_iload dX3_countFree_60 rfl ?_
  obtain ⟨a1, h⟩ := h
  refine g_if_ltZ dX3_countFree_62 rfl a1  (fun c62 => ?_) (fun c62 => ?_)
  · replace h := h.1 c62
    exact h
  · replace h := h.2 c62
    refine g_iload dX3_countFree_65 rfl ?_
    refine g_aload_n dX3_countFree_67 rfl ?_
    refine g_getZ (v := vI T l0 2) dX3_countFree_68 tF_3_80 (lP_0 hq_l0) rfl (zI_v _ _ _) ?_
    refine g_icmp_geZ dX3_countFree_71 rfl a1 ⟨vI_lo _ _ _, vI_hi _ _ _⟩ (fun c71 => ?_) (fun c71 => ?_)
    · replace h := h.1 c71
      exact h
    · replace h := h.2 c71
      refine g_aload_n dX3_countFree_74 rfl ?_
      refine g_getR dX3_countFree_75 tF_3_33 (lP_0 hq_l0) rfl ?_
      refine g_iload dX3_countFree_78 rfl ?_
      obtain ⟨a2, h⟩ := h
      obtain ⟨a3, h⟩ := h
      refine g_ialdZ (v := vI T (l0 + 8) s0.toNat) dX3_countFree_80 (lP_8 hq_l0) a2 a3 (by decide) (zI_v T (l0 + 8) s0.toNat) ?_
      refine g_iload_n dX3_countFree_81 rfl ?_
      obtain ⟨a4, h⟩ := h
      refine g_icmp_geZ dX3_countFree_82 rfl ⟨vI_lo _ _ _, vI_hi _ _ _⟩ a4 (fun c82 => ?_) (fun c82 => ?_)
      · replace h := h.1 c82
        exact h
      · replace h := h.2 c82
        refine g_iconst (v := zI 1) dX3_countFree_85 (by decide) ?_
        refine g_goto dX3_countFree_86 rfl ?_
        exact h
def f_X3_countFree_89b (sa : Nat → Nat) (b : Nat) (E : Nat × mH) (d : Nat) (l0 : Nat) (l1 : Int) (l2 : Int) (l3 : Int) (l4 : Int) (l5 : Int) (l6 : Int) (T : gT) (Q : Option Value → gT → Prop) : Prop := gW (tP sa) lD b E (d + 1 + 1) mX3_countFree 90 [some (.ref (b + l0)), some (.int (zI l1)), some (.int (zI l2)), some (.int (zI l3)), some (.int (zI l4)), some (.int (zI l5)), some (.int (zI l6))] [.int (zI 0)] T Q
set_option maxRecDepth 4000 in
theorem w_X3_countFree_89b {sa : Nat → Nat} {b : Nat} {E : Nat × mH} {d : Nat} {l0 : Nat} {l1 : Int} {l2 : Int} {l3 : Int} {l4 : Int} {l5 : Int} {l6 : Int} {T : gT} {Q : Option Value → gT → Prop} (hq_l0 : l0 = 2 ∨ l0 = 21) (h : f_X3_countFree_89b sa b E d l0 l1 l2 l3 l4 l5 l6 T Q) : gW (tP sa) lD b E (d + 1 + 1) mX3_countFree 89 [some (.ref (b + l0)), some (.int (zI l1)), some (.int (zI l2)), some (.int (zI l3)), some (.int (zI l4)), some (.int (zI l5)), some (.int (zI l6))] [] T Q := by
  unfold f_X3_countFree_89b at h
  refine g_iconst (v := zI 0) dX3_countFree_89 (by decide) ?_
  exact h
def f_X3_countFree_90b (sa : Nat → Nat) (b : Nat) (E : Nat × mH) (d : Nat) (l0 : Nat) (l1 : Int) (l2 : Int) (l3 : Int) (l4 : Int) (l5 : Int) (l6 : Int) (s0 : Int) (T : gT) (Q : Option Value → gT → Prop) : Prop := (-2147483648 ≤ s0 ∧ s0 < 2147483648) ∧ ((s0 = 0 → gW (tP sa) lD b E (d + 1 + 1) mX3_countFree 18 [some (.ref (b + l0)), some (.int (zI l1)), some (.int (zI l2)), some (.int (zI l3)), some (.int (zI (l4 + 1))), some (.int (zI l5)), some (.int (zI s0))] [] T Q) ∧ (¬ s0 = 0 → 0 ≤ l5 ∧ l5 < 100 ∧ (-2147483648 ≤ l1 ∧ l1 < 2147483648) ∧ (((vI T (l0 + 11) l5.toNat) = l1 → gW (tP sa) lD b E (d + 1 + 1) mX3_countFree 18 [some (.ref (b + l0)), some (.int (zI l1)), some (.int (zI l2)), some (.int (zI l3)), some (.int (zI (l4 + 1))), some (.int (zI l5)), some (.int (zI s0))] [] T Q) ∧ (¬ (vI T (l0 + 11) l5.toNat) = l1 → gW (tP sa) lD b E (d + 1 + 1) mX3_countFree 18 [some (.ref (b + l0)), some (.int (zI l1)), some (.int (zI l2)), some (.int (zI (l3 + 1))), some (.int (zI (l4 + 1))), some (.int (zI l5)), some (.int (zI s0))] [] (gI T (l0 + 11) l5.toNat (zI l1)) Q))))
set_option maxRecDepth 4000 in
theorem w_X3_countFree_90b {sa : Nat → Nat} {b : Nat} {E : Nat × mH} {d : Nat} {l0 : Nat} {l1 : Int} {l2 : Int} {l3 : Int} {l4 : Int} {l5 : Int} {l6 : Int} {s0 : Int} {T : gT} {Q : Option Value → gT → Prop} (hq_l0 : l0 = 2 ∨ l0 = 21) (h : f_X3_countFree_90b sa b E d l0 l1 l2 l3 l4 l5 l6 s0 T Q) : gW (tP sa) lD b E (d + 1 + 1) mX3_countFree 90 [some (.ref (b + l0)), some (.int (zI l1)), some (.int (zI l2)), some (.int (zI l3)), some (.int (zI l4)), some (.int (zI l5)), some (.int (zI l6))] [.int (zI s0)] T Q := by
  unfold f_X3_countFree_90b at h
  refine g_istore (L' := [some (.ref (b + l0)), some (.int (zI l1)), some (.int (zI l2)), some (.int (zI l3)), some (.int (zI l4)), some (.int (zI l5)), some (.int (zI s0))]) dX3_countFree_90 rfl ?_
  refine g_iload dX3_countFree_92 rfl ?_
  obtain ⟨a1, h⟩ := h
  refine g_if_eqZ dX3_countFree_94 rfl a1  (fun c94 => ?_) (fun c94 => ?_)
  · replace h := h.1 c94
    refine g_iinc (x := zI l4) (v := zI (l4 + 1)) (L' := [some (.ref (b + l0)), some (.int (zI l1)), some (.int (zI l2)), some (.int (zI l3)), some (.int (zI (l4 + 1))), some (.int (zI l5)), some (.int (zI s0))]) dX3_countFree_119 rfl (zI_add _ _) rfl ?_
    refine g_goto dX3_countFree_122 rfl ?_
    exact h
  · replace h := h.2 c94
    refine g_aload_n dX3_countFree_97 rfl ?_
    refine g_getR dX3_countFree_98 tF_3_42 (lP_0 hq_l0) rfl ?_
    refine g_iload dX3_countFree_101 rfl ?_
    obtain ⟨a2, h⟩ := h
    obtain ⟨a3, h⟩ := h
    refine g_ialdZ (v := vI T (l0 + 11) l5.toNat) dX3_countFree_103 (lP_11 hq_l0) a2 a3 (by decide) (zI_v T (l0 + 11) l5.toNat) ?_
    refine g_iload_n dX3_countFree_104 rfl ?_
    obtain ⟨a4, h⟩ := h
    refine g_icmp_eqZ dX3_countFree_105 rfl ⟨vI_lo _ _ _, vI_hi _ _ _⟩ a4 (fun c105 => ?_) (fun c105 => ?_)
    · replace h := h.1 c105
      refine g_iinc (x := zI l4) (v := zI (l4 + 1)) (L' := [some (.ref (b + l0)), some (.int (zI l1)), some (.int (zI l2)), some (.int (zI l3)), some (.int (zI (l4 + 1))), some (.int (zI l5)), some (.int (zI s0))]) dX3_countFree_119 rfl (zI_add _ _) rfl ?_
      refine g_goto dX3_countFree_122 rfl ?_
      exact h
    · replace h := h.2 c105
      refine g_aload_n dX3_countFree_108 rfl ?_
      refine g_getR dX3_countFree_109 tF_3_42 (lP_0 hq_l0) rfl ?_
      refine g_iload dX3_countFree_112 rfl ?_
      refine g_iload_n dX3_countFree_114 rfl ?_
      refine g_iastZ dX3_countFree_115 (lP_11 hq_l0) a2 a3 (by decide) ?_
      refine g_iinc (x := zI l3) (v := zI (l3 + 1)) (L' := [some (.ref (b + l0)), some (.int (zI l1)), some (.int (zI l2)), some (.int (zI (l3 + 1))), some (.int (zI l4)), some (.int (zI l5)), some (.int (zI s0))]) dX3_countFree_116 rfl (zI_add _ _) rfl ?_
      refine g_iinc (x := zI l4) (v := zI (l4 + 1)) (L' := [some (.ref (b + l0)), some (.int (zI l1)), some (.int (zI l2)), some (.int (zI (l3 + 1))), some (.int (zI (l4 + 1))), some (.int (zI l5)), some (.int (zI s0))]) dX3_countFree_119 rfl (zI_add _ _) rfl ?_
      refine g_goto dX3_countFree_122 rfl ?_
      exact h
def f_X4_takeMeaning (sa : Nat → Nat) (b : Nat) (E : Nat × mH) (d : Nat) (T : gT) (Q : Option Value → gT → Prop) : Prop := gC (tP sa) lD b E d mX4_takeName [.ref (b + 40)] T (fun r T7 => pI r (fun v7 => gC (tP sa) lD b E d mX4_meaningOf [.ref (b + 40), .int (zI v7)] T7 (fun r T10 => pI r (fun v10 => (-2147483648 ≤ v10 ∧ v10 < 2147483648) ∧ ((¬ v10 = (-1) → (∃ r27 : Nat, (r27 = 2 ∨ r27 = 21) ∧ vI T10 40 4 = (r27 : Int) ∧ gC (tP sa) lD b E d mX3_add [.ref (b + r27), .int (zI 0), .int (zI v10), .int (zI (-1))] T10 (fun r T33 => pI r (fun v33 => Q (some (.int (zI 1))) T33)))) ∧ (v10 = (-1) → gC (tP sa) lD b E d mX4_fail [.ref (b + 40), .int (zI (vI T 40 2))] T10 (fun r T21 => pV r (Q (some (.int (zI 0))) T21))))))))
set_option maxRecDepth 4000 in
theorem w_X4_takeMeaning {sa : Nat → Nat} {b : Nat} {E : Nat × mH} {d : Nat} {T : gT} {Q : Option Value → gT → Prop} (h : f_X4_takeMeaning sa b E d T Q) : gC (tP sa) lD b E (d + 1) mX4_takeMeaning [.ref (b + 40)] T Q := by
  unfold f_X4_takeMeaning at h
  refine ⟨Nat.le_of_ble_eq_true rfl, ?_⟩
  show gW (tP sa) lD b E (d + 1) mX4_takeMeaning 0 [some (.ref (b + 40)), none, none] [] T Q
  refine g_aload_n dX4_takeMeaning_0 rfl ?_
  refine g_getZ (v := vI T 40 2) dX4_takeMeaning_1 tF_4_44 lD_40 rfl (zI_v T 40 2) ?_
  refine g_istore_n (L' := [some (.ref (b + 40)), some (.int (zI (vI T 40 2))), none]) dX4_takeMeaning_4 rfl ?_
  refine g_aload_n dX4_takeMeaning_5 rfl ?_
  refine g_aload_n dX4_takeMeaning_6 rfl ?_
  refine g_callV [.ref (b + 40)] [.ref (b + 40)] dX4_takeMeaning_7 tG_4_109 tM_61 lD_40 rfl rfl rfl rfl (by decide) rfl ?_
  refine gC.mono h (Nat.le_refl _) ?_
  rintro _ T7 ⟨v7, rfl, h⟩
  refine g_callV [.ref (b + 40), .int (zI v7)] [] dX4_takeMeaning_10 tG_4_112 tM_53 lD_40 rfl rfl rfl rfl (by decide) rfl ?_
  refine gC.mono h (Nat.le_refl _) ?_
  rintro _ T10 ⟨v10, rfl, h⟩
  refine g_istore_n (L' := [some (.ref (b + 40)), some (.int (zI (vI T 40 2))), some (.int (zI v10))]) dX4_takeMeaning_13 rfl ?_
  refine g_iload_n dX4_takeMeaning_14 rfl ?_
  refine g_iconst (v := zI (-1)) dX4_takeMeaning_15 (by decide) ?_
  obtain ⟨a1, h⟩ := h
  refine g_icmp_neZ dX4_takeMeaning_16 rfl a1 (by decide) (fun c16 => ?_) (fun c16 => ?_)
  · replace h := h.1 c16
    refine g_aload_n dX4_takeMeaning_26 rfl ?_
    obtain ⟨r27, hq_r27, e_r27, h⟩ := h
    refine g_getVZ (o := r27) dX4_takeMeaning_27 tF_4_50 lD_40 rfl e_r27 (q_lt hq_r27) ?_
    refine g_iconst (v := zI 0) dX4_takeMeaning_30 (by decide) ?_
    refine g_iload_n dX4_takeMeaning_31 rfl ?_
    refine g_iconst (v := zI (-1)) dX4_takeMeaning_32 (by decide) ?_
    refine g_callV [.ref (b + r27), .int (zI 0), .int (zI v10), .int (zI (-1))] [] dX4_takeMeaning_33 tG_4_115 tM_29 (lP_0 hq_r27) rfl rfl rfl rfl (by decide) rfl ?_
    refine gC.mono h (Nat.le_refl _) ?_
    rintro _ T33 ⟨v33, rfl, h⟩
    refine g_pop dX4_takeMeaning_36 rfl ?_
    refine g_iconst (v := zI 1) dX4_takeMeaning_37 (by decide) ?_
    exact g_iret dX4_takeMeaning_38 rfl rfl h
  · replace h := h.2 c16
    refine g_aload_n dX4_takeMeaning_19 rfl ?_
    refine g_iload_n dX4_takeMeaning_20 rfl ?_
    refine g_callV [.ref (b + 40), .int (zI (vI T 40 2))] [] dX4_takeMeaning_21 tG_4_82 tM_46 lD_40 rfl rfl rfl rfl (by decide) rfl ?_
    refine gC.mono h (Nat.le_refl _) ?_
    rintro _ T21 ⟨rfl, h⟩
    refine g_iconst (v := zI 0) dX4_takeMeaning_24 (by decide) ?_
    exact g_iret dX4_takeMeaning_25 rfl rfl h
def f_X4_takeForm (sa : Nat → Nat) (b : Nat) (E : Nat × mH) (d : Nat) (T : gT) (Q : Option Value → gT → Prop) : Prop := (((vI T 40 14) < 40 → gC (tP sa) lD b E d mX4_takeFormKind [.ref (b + 40)] (gI T 40 2 (zI ((vI T 40 2) + 1))) (fun r T31 => pI r (fun v31 => (-2147483648 ≤ v31 ∧ v31 < 2147483648) ∧ ((¬ v31 = 3 → gW (tP sa) lD b E (d + 1) mX4_takeForm 55 [some (.ref (b + 40)), some (.int (zI (vI T 40 2))), some (.int (zI v31)), none, none] [] T31 Q) ∧ (v31 = 3 → (((vI T31 40 5) < 50 → gW (tP sa) lD b E (d + 1) mX4_takeForm 55 [some (.ref (b + 40)), some (.int (zI (vI T 40 2))), some (.int (zI v31)), none, none] [] T31 Q) ∧ (¬ (vI T31 40 5) < 50 → gC (tP sa) lD b E d mX4_fail [.ref (b + 40), .int (zI (vI T 40 2))] T31 (fun r T51 => pV r (Q none T51))))))))) ∧ (¬ (vI T 40 14) < 40 → gC (tP sa) lD b E d mX4_fail [.ref (b + 40), .int (zI (vI T 40 2))] T (fun r T16 => pV r (Q none T16))))
set_option maxRecDepth 4000 in
theorem w_X4_takeForm {sa : Nat → Nat} {b : Nat} {E : Nat × mH} {d : Nat} {T : gT} {Q : Option Value → gT → Prop} (h : f_X4_takeForm sa b E d T Q) : gC (tP sa) lD b E (d + 1) mX4_takeForm [.ref (b + 40)] T Q := by
  unfold f_X4_takeForm at h
  refine ⟨Nat.le_of_ble_eq_true rfl, ?_⟩
  show gW (tP sa) lD b E (d + 1) mX4_takeForm 0 [some (.ref (b + 40)), none, none, none, none] [] T Q
  refine g_aload_n dX4_takeForm_0 rfl ?_
  refine g_getZ (v := vI T 40 2) dX4_takeForm_1 tF_4_44 lD_40 rfl (zI_v T 40 2) ?_
  refine g_istore_n (L' := [some (.ref (b + 40)), some (.int (zI (vI T 40 2))), none, none, none]) dX4_takeForm_4 rfl ?_
  refine g_aload_n dX4_takeForm_5 rfl ?_
  refine g_getZ (v := vI T 40 14) dX4_takeForm_6 tF_4_68 lD_40 rfl (zI_v T 40 14) ?_
  refine g_bipush (v := zI 40) dX4_takeForm_9 (by decide) ?_
  refine g_icmp_ltZ dX4_takeForm_11 rfl ⟨vI_lo _ _ _, vI_hi _ _ _⟩ (by decide) (fun c11 => ?_) (fun c11 => ?_)
  · replace h := h.1 c11
    refine g_aload_n dX4_takeForm_20 rfl ?_
    refine g_dup dX4_takeForm_21 rfl ?_
    refine g_getZ (v := vI T 40 2) dX4_takeForm_22 tF_4_44 lD_40 rfl (zI_v T 40 2) ?_
    refine g_iconst (v := zI 1) dX4_takeForm_25 (by decide) ?_
    refine g_iaddZ dX4_takeForm_26 ?_
    refine g_putI dX4_takeForm_27 tF_4_44 lD_40 rfl rfl ⟨rfl, rfl⟩ rfl ?_
    refine g_aload_n dX4_takeForm_30 rfl ?_
    refine g_callV [.ref (b + 40)] [] dX4_takeForm_31 tG_4_135 tM_58 lD_40 rfl rfl rfl rfl (by decide) rfl ?_
    refine gC.mono h (Nat.le_refl _) ?_
    rintro _ T31 ⟨v31, rfl, h⟩
    refine g_istore_n (L' := [some (.ref (b + 40)), some (.int (zI (vI T 40 2))), some (.int (zI v31)), none, none]) dX4_takeForm_34 rfl ?_
    refine g_iload_n dX4_takeForm_35 rfl ?_
    refine g_iconst (v := zI 3) dX4_takeForm_36 (by decide) ?_
    obtain ⟨a1, h⟩ := h
    refine g_icmp_neZ dX4_takeForm_37 rfl a1 (by decide) (fun c37 => ?_) (fun c37 => ?_)
    · replace h := h.1 c37
      exact h
    · replace h := h.2 c37
      refine g_aload_n dX4_takeForm_40 rfl ?_
      refine g_getZ (v := vI T31 40 5) dX4_takeForm_41 tF_4_59 lD_40 rfl (zI_v T31 40 5) ?_
      refine g_bipush (v := zI 50) dX4_takeForm_44 (by decide) ?_
      refine g_icmp_ltZ dX4_takeForm_46 rfl ⟨vI_lo _ _ _, vI_hi _ _ _⟩ (by decide) (fun c46 => ?_) (fun c46 => ?_)
      · replace h := h.1 c46
        exact h
      · replace h := h.2 c46
        refine g_aload_n dX4_takeForm_49 rfl ?_
        refine g_iload_n dX4_takeForm_50 rfl ?_
        refine g_callV [.ref (b + 40), .int (zI (vI T 40 2))] [] dX4_takeForm_51 tG_4_82 tM_46 lD_40 rfl rfl rfl rfl (by decide) rfl ?_
        refine gC.mono h (Nat.le_refl _) ?_
        rintro _ T51 ⟨rfl, h⟩
        exact g_vret dX4_takeForm_54 rfl h
  · replace h := h.2 c11
    refine g_aload_n dX4_takeForm_14 rfl ?_
    refine g_iload_n dX4_takeForm_15 rfl ?_
    refine g_callV [.ref (b + 40), .int (zI (vI T 40 2))] [] dX4_takeForm_16 tG_4_82 tM_46 lD_40 rfl rfl rfl rfl (by decide) rfl ?_
    refine gC.mono h (Nat.le_refl _) ?_
    rintro _ T16 ⟨rfl, h⟩
    exact g_vret dX4_takeForm_19 rfl h
def f_X4_takeForm_55 (sa : Nat → Nat) (b : Nat) (E : Nat × mH) (d : Nat) (l1 : Int) (l2 : Int) (T : gT) (Q : Option Value → gT → Prop) : Prop := gC (tP sa) lD b E d mX4_open [.ref (b + 40), .int (zI l2)] T (fun r T57 => pV r ((-2147483648 ≤ l2 ∧ l2 < 2147483648) ∧ ((¬ l2 = 3 → ((¬ l2 = 5 → Q none T57) ∧ (l2 = 5 → gC (tP sa) lD b E d mX4_takeBinding [.ref (b + 40)] T57 (fun r T135 => pI r (fun v135 => gC (tP sa) lD b E d mX4_nameLet [.ref (b + 40), .int (zI v135)] T135 (fun r T138 => pV r (gC (tP sa) lD b E d mX4_setVariable [.ref (b + 40), .int (zI ((vI T138 40 6) - 1)), .int (zI (-1))] T138 (fun r T149 => pV r (Q none T149))))))))) ∧ (l2 = 3 → gC (tP sa) lD b E d mX4_takeBinding [.ref (b + 40)] (gI T57 40 5 (zI ((vI T57 40 5) + 1))) (fun r T76 => pI r (fun v76 => gC (tP sa) lD b E d mX4_takeBinding [.ref (b + 40)] T76 (fun r T81 => pI r (fun v81 => gC (tP sa) lD b E d mX4_setVariable [.ref (b + 40), .int (zI ((vI T81 40 6) - 1)), .int (zI ((vI T81 40 6) - 2))] T81 (fun r T99 => pV r (gC (tP sa) lD b E d mX4_bind [.ref (b + 40), .int (zI v76), .int (zI ((vI T99 40 6) - 2))] T99 (fun r T110 => pV r (gC (tP sa) lD b E d mX4_bind [.ref (b + 40), .int (zI v81), .int (zI ((vI T110 40 6) - 1))] T110 (fun r T122 => pV r (Q none T122))))))))))))))
set_option maxRecDepth 4000 in
theorem w_X4_takeForm_55 {sa : Nat → Nat} {b : Nat} {E : Nat × mH} {d : Nat} {l1 : Int} {l2 : Int} {T : gT} {Q : Option Value → gT → Prop} (h : f_X4_takeForm_55 sa b E d l1 l2 T Q) : gW (tP sa) lD b E (d + 1) mX4_takeForm 55 [some (.ref (b + 40)), some (.int (zI l1)), some (.int (zI l2)), none, none] [] T Q := by
  unfold f_X4_takeForm_55 at h
  refine g_aload_n dX4_takeForm_55 rfl ?_
  refine g_iload_n dX4_takeForm_56 rfl ?_
  refine g_callV [.ref (b + 40), .int (zI l2)] [] dX4_takeForm_57 tG_4_119 tM_64 lD_40 rfl rfl rfl rfl (by decide) rfl ?_
  refine gC.mono h (Nat.le_refl _) ?_
  rintro _ T57 ⟨rfl, h⟩
  refine g_iload_n dX4_takeForm_60 rfl ?_
  refine g_iconst (v := zI 3) dX4_takeForm_61 (by decide) ?_
  obtain ⟨a1, h⟩ := h
  refine g_icmp_neZ dX4_takeForm_62 rfl a1 (by decide) (fun c62 => ?_) (fun c62 => ?_)
  · replace h := h.1 c62
    refine g_iload_n dX4_takeForm_128 rfl ?_
    refine g_iconst (v := zI 5) dX4_takeForm_129 (by decide) ?_
    refine g_icmp_neZ dX4_takeForm_130 rfl a1 (by decide) (fun c130 => ?_) (fun c130 => ?_)
    · replace h := h.1 c130
      exact g_vret dX4_takeForm_152 rfl h
    · replace h := h.2 c130
      refine g_aload_n dX4_takeForm_133 rfl ?_
      refine g_aload_n dX4_takeForm_134 rfl ?_
      refine g_callV [.ref (b + 40)] [.ref (b + 40)] dX4_takeForm_135 tG_4_122 tM_62 lD_40 rfl rfl rfl rfl (by decide) rfl ?_
      refine gC.mono h (Nat.le_refl _) ?_
      rintro _ T135 ⟨v135, rfl, h⟩
      refine g_callV [.ref (b + 40), .int (zI v135)] [] dX4_takeForm_138 tG_4_138 tM_57 lD_40 rfl rfl rfl rfl (by decide) rfl ?_
      refine gC.mono h (Nat.le_refl _) ?_
      rintro _ T138 ⟨rfl, h⟩
      refine g_aload_n dX4_takeForm_141 rfl ?_
      refine g_aload_n dX4_takeForm_142 rfl ?_
      refine g_getZ (v := vI T138 40 6) dX4_takeForm_143 tF_4_62 lD_40 rfl (zI_v T138 40 6) ?_
      refine g_iconst (v := zI 1) dX4_takeForm_146 (by decide) ?_
      refine g_isubZ dX4_takeForm_147 ?_
      refine g_iconst (v := zI (-1)) dX4_takeForm_148 (by decide) ?_
      refine g_callV [.ref (b + 40), .int (zI ((vI T138 40 6) - 1)), .int (zI (-1))] [] dX4_takeForm_149 tG_4_125 tM_65 lD_40 rfl rfl rfl rfl (by decide) rfl ?_
      refine gC.mono h (Nat.le_refl _) ?_
      rintro _ T149 ⟨rfl, h⟩
      exact g_vret dX4_takeForm_152 rfl h
  · replace h := h.2 c62
    refine g_aload_n dX4_takeForm_65 rfl ?_
    refine g_dup dX4_takeForm_66 rfl ?_
    refine g_getZ (v := vI T57 40 5) dX4_takeForm_67 tF_4_59 lD_40 rfl (zI_v T57 40 5) ?_
    refine g_iconst (v := zI 1) dX4_takeForm_70 (by decide) ?_
    refine g_iaddZ dX4_takeForm_71 ?_
    refine g_putI dX4_takeForm_72 tF_4_59 lD_40 rfl rfl ⟨rfl, rfl⟩ rfl ?_
    refine g_aload_n dX4_takeForm_75 rfl ?_
    refine g_callV [.ref (b + 40)] [] dX4_takeForm_76 tG_4_122 tM_62 lD_40 rfl rfl rfl rfl (by decide) rfl ?_
    refine gC.mono h (Nat.le_refl _) ?_
    rintro _ T76 ⟨v76, rfl, h⟩
    refine g_istore_n (L' := [some (.ref (b + 40)), some (.int (zI l1)), some (.int (zI l2)), some (.int (zI v76)), none]) dX4_takeForm_79 rfl ?_
    refine g_aload_n dX4_takeForm_80 rfl ?_
    refine g_callV [.ref (b + 40)] [] dX4_takeForm_81 tG_4_122 tM_62 lD_40 rfl rfl rfl rfl (by decide) rfl ?_
    refine gC.mono h (Nat.le_refl _) ?_
    rintro _ T81 ⟨v81, rfl, h⟩
    refine g_istore (L' := [some (.ref (b + 40)), some (.int (zI l1)), some (.int (zI l2)), some (.int (zI v76)), some (.int (zI v81))]) dX4_takeForm_84 rfl ?_
    refine g_aload_n dX4_takeForm_86 rfl ?_
    refine g_aload_n dX4_takeForm_87 rfl ?_
    refine g_getZ (v := vI T81 40 6) dX4_takeForm_88 tF_4_62 lD_40 rfl (zI_v T81 40 6) ?_
    refine g_iconst (v := zI 1) dX4_takeForm_91 (by decide) ?_
    refine g_isubZ dX4_takeForm_92 ?_
    refine g_aload_n dX4_takeForm_93 rfl ?_
    refine g_getZ (v := vI T81 40 6) dX4_takeForm_94 tF_4_62 lD_40 rfl (zI_v T81 40 6) ?_
    refine g_iconst (v := zI 2) dX4_takeForm_97 (by decide) ?_
    refine g_isubZ dX4_takeForm_98 ?_
    refine g_callV [.ref (b + 40), .int (zI ((vI T81 40 6) - 1)), .int (zI ((vI T81 40 6) - 2))] [] dX4_takeForm_99 tG_4_125 tM_65 lD_40 rfl rfl rfl rfl (by decide) rfl ?_
    refine gC.mono h (Nat.le_refl _) ?_
    rintro _ T99 ⟨rfl, h⟩
    refine g_aload_n dX4_takeForm_102 rfl ?_
    refine g_iload_n dX4_takeForm_103 rfl ?_
    refine g_aload_n dX4_takeForm_104 rfl ?_
    refine g_getZ (v := vI T99 40 6) dX4_takeForm_105 tF_4_62 lD_40 rfl (zI_v T99 40 6) ?_
    refine g_iconst (v := zI 2) dX4_takeForm_108 (by decide) ?_
    refine g_isubZ dX4_takeForm_109 ?_
    refine g_callV [.ref (b + 40), .int (zI v76), .int (zI ((vI T99 40 6) - 2))] [] dX4_takeForm_110 tG_4_132 tM_66 lD_40 rfl rfl rfl rfl (by decide) rfl ?_
    refine gC.mono h (Nat.le_refl _) ?_
    rintro _ T110 ⟨rfl, h⟩
    refine g_aload_n dX4_takeForm_113 rfl ?_
    refine g_iload dX4_takeForm_114 rfl ?_
    refine g_aload_n dX4_takeForm_116 rfl ?_
    refine g_getZ (v := vI T110 40 6) dX4_takeForm_117 tF_4_62 lD_40 rfl (zI_v T110 40 6) ?_
    refine g_iconst (v := zI 1) dX4_takeForm_120 (by decide) ?_
    refine g_isubZ dX4_takeForm_121 ?_
    refine g_callV [.ref (b + 40), .int (zI v81), .int (zI ((vI T110 40 6) - 1))] [] dX4_takeForm_122 tG_4_132 tM_66 lD_40 rfl rfl rfl rfl (by decide) rfl ?_
    refine gC.mono h (Nat.le_refl _) ?_
    rintro _ T122 ⟨rfl, h⟩
    refine g_goto dX4_takeForm_125 rfl ?_
    exact g_vret dX4_takeForm_152 rfl h
def f_X4_wordEnd (sa : Nat → Nat) (b : Nat) (E : Nat × mH) (d : Nat) (T : gT) (Q : Option Value → gT → Prop) : Prop := gW (tP sa) lD b E (d + 1) mX4_wordEnd 5 [some (.ref (b + 40)), some (.int (zI (vI T 40 2)))] [] T Q
set_option maxRecDepth 4000 in
theorem w_X4_wordEnd {sa : Nat → Nat} {b : Nat} {E : Nat × mH} {d : Nat} {T : gT} {Q : Option Value → gT → Prop} (h : f_X4_wordEnd sa b E d T Q) : gC (tP sa) lD b E (d + 1) mX4_wordEnd [.ref (b + 40)] T Q := by
  unfold f_X4_wordEnd at h
  refine ⟨Nat.le_of_ble_eq_true rfl, ?_⟩
  show gW (tP sa) lD b E (d + 1) mX4_wordEnd 0 [some (.ref (b + 40)), none] [] T Q
  refine g_aload_n dX4_wordEnd_0 rfl ?_
  refine g_getZ (v := vI T 40 2) dX4_wordEnd_1 tF_4_44 lD_40 rfl (zI_v T 40 2) ?_
  refine g_istore_n (L' := [some (.ref (b + 40)), some (.int (zI (vI T 40 2)))]) dX4_wordEnd_4 rfl ?_
  exact h
def f_X4_wordEnd_5 (sa : Nat → Nat) (b : Nat) (E : Nat × mH) (d : Nat) (l1 : Int) (T : gT) (Q : Option Value → gT → Prop) : Prop := (-2147483648 ≤ l1 ∧ l1 < 2147483648) ∧ (((vI T 40 1) ≤ l1 → Q (some (.int (zI l1))) T) ∧ (¬ (vI T 40 1) ≤ l1 → gC (tP sa) lD b E d mX4_byteAt [.ref (b + 40), .int (zI l1)] T (fun r T15 => pI r (fun v15 => (-2147483648 ≤ v15 ∧ v15 < 2147483648) ∧ (((zL v15 = true) → gW (tP sa) lD b E (d + 1) mX4_wordEnd 5 [some (.ref (b + 40)), some (.int (zI (l1 + 1)))] [] T15 Q) ∧ (¬ (zL v15 = true) → ((l1 ≤ (vI T15 40 2) → Q (some (.int (zI l1))) T15) ∧ (¬ l1 ≤ (vI T15 40 2) → gC (tP sa) lD b E d mX4_byteAt [.ref (b + 40), .int (zI l1)] T15 (fun r T34 => pI r (fun v34 => (-2147483648 ≤ v34 ∧ v34 < 2147483648) ∧ ((¬ (zD v34 = true) → Q (some (.int (zI l1))) T34) ∧ ((zD v34 = true) → gW (tP sa) lD b E (d + 1) mX4_wordEnd 5 [some (.ref (b + 40)), some (.int (zI (l1 + 1)))] [] T34 Q))))))))))))
set_option maxRecDepth 4000 in
theorem w_X4_wordEnd_5 {sa : Nat → Nat} {b : Nat} {E : Nat × mH} {d : Nat} {l1 : Int} {T : gT} {Q : Option Value → gT → Prop} (h : f_X4_wordEnd_5 sa b E d l1 T Q) : gW (tP sa) lD b E (d + 1) mX4_wordEnd 5 [some (.ref (b + 40)), some (.int (zI l1))] [] T Q := by
  unfold f_X4_wordEnd_5 at h
  refine g_iload_n dX4_wordEnd_5 rfl ?_
  refine g_aload_n dX4_wordEnd_6 rfl ?_
  refine g_getZ (v := vI T 40 1) dX4_wordEnd_7 tF_4_40 lD_40 rfl (zI_v T 40 1) ?_
  obtain ⟨a1, h⟩ := h
  refine g_icmp_geZ dX4_wordEnd_10 rfl a1 ⟨vI_lo _ _ _, vI_hi _ _ _⟩ (fun c10 => ?_) (fun c10 => ?_)
  · replace h := h.1 c10
    refine g_iload_n dX4_wordEnd_49 rfl ?_
    exact g_iret dX4_wordEnd_50 rfl rfl h
  · replace h := h.2 c10
    refine g_aload_n dX4_wordEnd_13 rfl ?_
    refine g_iload_n dX4_wordEnd_14 rfl ?_
    refine g_callV [.ref (b + 40), .int (zI l1)] [] dX4_wordEnd_15 tG_4_86 tM_47 lD_40 rfl rfl rfl rfl (by decide) rfl ?_
    refine gC.mono h (Nat.le_refl _) ?_
    rintro _ T15 ⟨v15, rfl, h⟩
    obtain ⟨a2, h⟩ := h
    refine g_callS [.int (zI v15)] [] dX4_wordEnd_18 tG_4_90 tM_49 rfl rfl rfl rfl (by decide) ?_
    refine gC.mono (c4_zL sa b E _ _ a2) (Nat.le_refl _) ?_
    rintro _ _ ⟨rfl, h9⟩
    obtain rfl := h9.symm
    refine g_if_neB dX4_wordEnd_21 rfl (fun c21 => ?_) (fun c21 => ?_)
    · replace h := h.1 c21
      refine g_iinc (x := zI l1) (v := zI (l1 + 1)) (L' := [some (.ref (b + 40)), some (.int (zI (l1 + 1)))]) dX4_wordEnd_43 rfl (zI_add _ _) rfl ?_
      refine g_goto dX4_wordEnd_46 rfl ?_
      exact h
    · replace h := h.2 c21
      refine g_iload_n dX4_wordEnd_24 rfl ?_
      refine g_aload_n dX4_wordEnd_25 rfl ?_
      refine g_getZ (v := vI T15 40 2) dX4_wordEnd_26 tF_4_44 lD_40 rfl (zI_v T15 40 2) ?_
      refine g_icmp_leZ dX4_wordEnd_29 rfl a1 ⟨vI_lo _ _ _, vI_hi _ _ _⟩ (fun c29 => ?_) (fun c29 => ?_)
      · replace h := h.1 c29
        refine g_iload_n dX4_wordEnd_49 rfl ?_
        exact g_iret dX4_wordEnd_50 rfl rfl h
      · replace h := h.2 c29
        refine g_aload_n dX4_wordEnd_32 rfl ?_
        refine g_iload_n dX4_wordEnd_33 rfl ?_
        refine g_callV [.ref (b + 40), .int (zI l1)] [] dX4_wordEnd_34 tG_4_86 tM_47 lD_40 rfl rfl rfl rfl (by decide) rfl ?_
        refine gC.mono h (Nat.le_refl _) ?_
        rintro _ T34 ⟨v34, rfl, h⟩
        obtain ⟨a3, h⟩ := h
        refine g_callS [.int (zI v34)] [] dX4_wordEnd_37 tG_4_97 tM_50 rfl rfl rfl rfl (by decide) ?_
        refine gC.mono (c4_zD sa b E _ _ a3) (Nat.le_refl _) ?_
        rintro _ _ ⟨rfl, h9⟩
        obtain rfl := h9.symm
        refine g_if_eqB dX4_wordEnd_40 rfl (fun c40 => ?_) (fun c40 => ?_)
        · replace h := h.1 c40
          refine g_iload_n dX4_wordEnd_49 rfl ?_
          exact g_iret dX4_wordEnd_50 rfl rfl h
        · replace h := h.2 c40
          refine g_iinc (x := zI l1) (v := zI (l1 + 1)) (L' := [some (.ref (b + 40)), some (.int (zI (l1 + 1)))]) dX4_wordEnd_43 rfl (zI_add _ _) rfl ?_
          refine g_goto dX4_wordEnd_46 rfl ?_
          exact h
def f_X4_open (sa : Nat → Nat) (b : Nat) (E : Nat × mH) (d : Nat) (l1 : Int) (T : gT) (Q : Option Value → gT → Prop) : Prop := (∃ r1 : Nat, (r1 = 2 ∨ r1 = 21) ∧ vI T 40 4 = (r1 : Int) ∧ gC (tP sa) lD b E d mX3_add [.ref (b + r1), .int (zI l1), .int (zI (-1)), .int (zI (-1))] T (fun r T7 => pI r (fun v7 => (-2147483648 ≤ v7 ∧ v7 < 2147483648) ∧ ((v7 = (-1) → Q none T7) ∧ (¬ v7 = (-1) → (((vI T7 40 14) < 40 → 0 ≤ vI T7 40 14 ∧ vI T7 40 14 < 40 ∧ (-2147483648 ≤ l1 ∧ l1 < 2147483648) ∧ Q none (gI (gI (gI (gI T7 43 (vI T7 40 14).toNat (zI v7)) 44 (vI T7 40 14).toNat (zI (aS stA l1))) 45 (vI T7 40 14).toNat (zI (vI T7 40 9))) 40 14 (zI ((vI T7 40 14) + 1)))) ∧ (¬ (vI T7 40 14) < 40 → Q none T7)))))))
set_option maxRecDepth 4000 in
theorem w_X4_open {sa : Nat → Nat} {b : Nat} {E : Nat × mH} {d : Nat} {l1 : Int} {T : gT} {Q : Option Value → gT → Prop} (hE : mSta sa b E) (h : f_X4_open sa b E d l1 T Q) : gC (tP sa) lD b E (d + 1) mX4_open [.ref (b + 40), .int (zI l1)] T Q := by
  unfold f_X4_open at h
  have hE9 := hE
  obtain ⟨⟨ha_100, f100, hk_100, hf_100⟩, ⟨ha_101, f101, hk_101, hf_101⟩⟩ := hE
  refine ⟨Nat.le_of_ble_eq_true rfl, ?_⟩
  show gW (tP sa) lD b E (d + 1) mX4_open 0 [some (.ref (b + 40)), some (.int (zI l1)), none] [] T Q
  refine g_aload_n dX4_open_0 rfl ?_
  obtain ⟨r1, hq_r1, e_r1, h⟩ := h
  refine g_getVZ (o := r1) dX4_open_1 tF_4_50 lD_40 rfl e_r1 (q_lt hq_r1) ?_
  refine g_iload_n dX4_open_4 rfl ?_
  refine g_iconst (v := zI (-1)) dX4_open_5 (by decide) ?_
  refine g_iconst (v := zI (-1)) dX4_open_6 (by decide) ?_
  refine g_callV [.ref (b + r1), .int (zI l1), .int (zI (-1)), .int (zI (-1))] [] dX4_open_7 tG_4_115 tM_29 (lP_0 hq_r1) rfl rfl rfl rfl (by decide) rfl ?_
  refine gC.mono h (Nat.le_refl _) ?_
  rintro _ T7 ⟨v7, rfl, h⟩
  refine g_istore_n (L' := [some (.ref (b + 40)), some (.int (zI l1)), some (.int (zI v7))]) dX4_open_10 rfl ?_
  refine g_iload_n dX4_open_11 rfl ?_
  refine g_iconst (v := zI (-1)) dX4_open_12 (by decide) ?_
  obtain ⟨a1, h⟩ := h
  refine g_icmp_eqZ dX4_open_13 rfl a1 (by decide) (fun c13 => ?_) (fun c13 => ?_)
  · replace h := h.1 c13
    exact g_vret dX4_open_25 rfl h
  · replace h := h.2 c13
    refine g_aload_n dX4_open_16 rfl ?_
    refine g_getZ (v := vI T7 40 14) dX4_open_17 tF_4_68 lD_40 rfl (zI_v T7 40 14) ?_
    refine g_bipush (v := zI 40) dX4_open_20 (by decide) ?_
    refine g_icmp_ltZ dX4_open_22 rfl ⟨vI_lo _ _ _, vI_hi _ _ _⟩ (by decide) (fun c22 => ?_) (fun c22 => ?_)
    · replace h := h.1 c22
      refine g_aload_n dX4_open_26 rfl ?_
      refine g_getR dX4_open_27 tF_4_18 lD_40 rfl ?_
      refine g_aload_n dX4_open_30 rfl ?_
      refine g_getZ (v := vI T7 40 14) dX4_open_31 tF_4_68 lD_40 rfl (zI_v T7 40 14) ?_
      refine g_iload_n dX4_open_34 rfl ?_
      obtain ⟨a2, h⟩ := h
      obtain ⟨a3, h⟩ := h
      refine g_iastZ dX4_open_35 lD_43 a2 a3 (by decide) ?_
      refine g_aload_n dX4_open_36 rfl ?_
      refine g_getR dX4_open_37 tF_4_21 lD_40 rfl ?_
      refine g_aload_n dX4_open_40 rfl ?_
      refine g_getZ (v := vI T7 40 14) dX4_open_41 tF_4_68 lD_40 rfl (zI_v T7 40 14) ?_
      refine g_getstatic dX4_open_44 (tZ_4_166 sa) ?_
      refine g_iload_n dX4_open_47 rfl ?_
      obtain ⟨a4, h⟩ := h
      refine g_callS [.ref (sa 100), .int (zI l1)] [.int (zI (vI T7 40 14)), .ref (b + 44)] dX4_open_48 tG_4_169 tM_96 rfl rfl rfl rfl (by decide) ?_
      refine gC.mono (c_aS sa b E _ _ hE9 a4) (Nat.le_refl _) ?_
      rintro _ _ ⟨rfl, h9⟩
      obtain rfl := h9.symm
      refine g_iastZ dX4_open_51 lD_44 a2 a3 (by decide) ?_
      refine g_aload_n dX4_open_52 rfl ?_
      refine g_getR dX4_open_53 tF_4_24 lD_40 rfl ?_
      refine g_aload_n dX4_open_56 rfl ?_
      refine g_getZ (v := vI T7 40 14) dX4_open_57 tF_4_68 lD_40 rfl (zI_v T7 40 14) ?_
      refine g_aload_n dX4_open_60 rfl ?_
      refine g_getZ (v := vI T7 40 9) dX4_open_61 tF_4_65 lD_40 rfl (zI_v T7 40 9) ?_
      refine g_iastZ dX4_open_64 lD_45 a2 a3 (by decide) ?_
      refine g_aload_n dX4_open_65 rfl ?_
      refine g_dup dX4_open_66 rfl ?_
      refine g_getZ (v := vI T7 40 14) dX4_open_67 tF_4_68 lD_40 rfl (zI_v T7 40 14) ?_
      refine g_iconst (v := zI 1) dX4_open_70 (by decide) ?_
      refine g_iaddZ dX4_open_71 ?_
      refine g_putI dX4_open_72 tF_4_68 lD_40 rfl rfl ⟨rfl, rfl⟩ rfl ?_
      exact g_vret dX4_open_75 rfl h
    · replace h := h.2 c22
      exact g_vret dX4_open_25 rfl h
def f_X4_bindLet (sa : Nat → Nat) (b : Nat) (E : Nat × mH) (d : Nat) (l1 : Int) (l2 : Int) (T : gT) (Q : Option Value → gT → Prop) : Prop := (∃ r1 : Nat, (r1 = 2 ∨ r1 = 21) ∧ vI T 40 4 = (r1 : Int) ∧ (-2147483648 ≤ l2 ∧ l2 < 2147483648) ∧ ((¬ (aI T (r1 + 1) 200 l2) = 5 → Q none T) ∧ ((aI T (r1 + 1) 200 l2) = 5 → (-2147483648 ≤ l1 ∧ l1 < 2147483648) ∧ (∃ r25 : Nat, (r25 = 2 ∨ r25 = 21) ∧ vI T 40 4 = (r25 : Int) ∧ gC (tP sa) lD b E d mX4_bind [.ref (b + 40), .int (zI (aI T 46 40 l1)), .int (zI (aI T (r25 + 2) 200 l2))] T (fun r T35 => pV r (Q none T35))))))
set_option maxRecDepth 4000 in
theorem w_X4_bindLet {sa : Nat → Nat} {b : Nat} {E : Nat × mH} {d : Nat} {l1 : Int} {l2 : Int} {T : gT} {Q : Option Value → gT → Prop} (h : f_X4_bindLet sa b E d l1 l2 T Q) : gC (tP sa) lD b E (d + 1) mX4_bindLet [.ref (b + 40), .int (zI l1), .int (zI l2)] T Q := by
  unfold f_X4_bindLet at h
  refine ⟨Nat.le_of_ble_eq_true rfl, ?_⟩
  show gW (tP sa) lD b E (d + 1) mX4_bindLet 0 [some (.ref (b + 40)), some (.int (zI l1)), some (.int (zI l2))] [] T Q
  refine g_aload_n dX4_bindLet_0 rfl ?_
  obtain ⟨r1, hq_r1, e_r1, h⟩ := h
  refine g_getVZ (o := r1) dX4_bindLet_1 tF_4_50 lD_40 rfl e_r1 (q_lt hq_r1) ?_
  refine g_getR dX4_bindLet_4 tF_4_182 (lP_0 hq_r1) rfl ?_
  refine g_iload_n dX4_bindLet_7 rfl ?_
  obtain ⟨a1, h⟩ := h
  refine g_callS [.ref (b + (r1 + 1)), .int (zI l2)] [] dX4_bindLet_8 tG_4_169 tM_96 rfl rfl rfl rfl (by decide) ?_
  refine gC.mono (c_aI sa b E _ _ (lP_1 hq_r1) (by decide) a1) (Nat.le_refl _) ?_
  rintro _ _ ⟨rfl, h9⟩
  obtain rfl := h9.symm
  refine g_iconst (v := zI 5) dX4_bindLet_11 (by decide) ?_
  refine g_icmp_neZ dX4_bindLet_12 rfl (aI_rg _ _ _ _) (by decide) (fun c12 => ?_) (fun c12 => ?_)
  · replace h := h.1 c12
    exact g_vret dX4_bindLet_38 rfl h
  · replace h := h.2 c12
    refine g_aload_n dX4_bindLet_15 rfl ?_
    refine g_aload_n dX4_bindLet_16 rfl ?_
    refine g_getR dX4_bindLet_17 tF_4_27 lD_40 rfl ?_
    refine g_iload_n dX4_bindLet_20 rfl ?_
    obtain ⟨a2, h⟩ := h
    refine g_callS [.ref (b + 46), .int (zI l1)] [.ref (b + 40)] dX4_bindLet_21 tG_4_169 tM_96 rfl rfl rfl rfl (by decide) ?_
    refine gC.mono (c_aI sa b E _ _ lD_46 (by decide) a2) (Nat.le_refl _) ?_
    rintro _ _ ⟨rfl, h9⟩
    obtain rfl := h9.symm
    refine g_aload_n dX4_bindLet_24 rfl ?_
    obtain ⟨r25, hq_r25, e_r25, h⟩ := h
    refine g_getVZ (o := r25) dX4_bindLet_25 tF_4_50 lD_40 rfl e_r25 (q_lt hq_r25) ?_
    refine g_getR dX4_bindLet_28 tF_4_173 (lP_0 hq_r25) rfl ?_
    refine g_iload_n dX4_bindLet_31 rfl ?_
    refine g_callS [.ref (b + (r25 + 2)), .int (zI l2)] [.int (zI (aI T 46 40 l1)), .ref (b + 40)] dX4_bindLet_32 tG_4_169 tM_96 rfl rfl rfl rfl (by decide) ?_
    refine gC.mono (c_aI sa b E _ _ (lP_2 hq_r25) (by decide) a1) (Nat.le_refl _) ?_
    rintro _ _ ⟨rfl, h9⟩
    obtain rfl := h9.symm
    refine g_callV [.ref (b + 40), .int (zI (aI T 46 40 l1)), .int (zI (aI T (r25 + 2) 200 l2))] [] dX4_bindLet_35 tG_4_132 tM_66 lD_40 rfl rfl rfl rfl (by decide) rfl ?_
    refine gC.mono h (Nat.le_refl _) ?_
    rintro _ T35 ⟨rfl, h⟩
    exact g_vret dX4_bindLet_38 rfl h
def f_X5_putByte (sa : Nat → Nat) (b : Nat) (E : Nat × mH) (d : Nat) (l1 : Int) (T : gT) (Q : Option Value → gT → Prop) : Prop := ((400 ≤ (vI T 63 1) → Q none (gI T 63 1 (zI ((vI T 63 1) + 1)))) ∧ (¬ 400 ≤ (vI T 63 1) → 0 ≤ vI T 63 1 ∧ vI T 63 1 < 400 ∧ Q none (gI (gI T 64 (vI T 63 1).toNat (vp_nar .byte (zI ((zI l1).toInt8.toInt32.toInt)))) 63 1 (zI ((vI T 63 1) + 1)))))
set_option maxRecDepth 4000 in
theorem w_X5_putByte {sa : Nat → Nat} {b : Nat} {E : Nat × mH} {d : Nat} {l1 : Int} {T : gT} {Q : Option Value → gT → Prop} (h : f_X5_putByte sa b E d l1 T Q) : gC (tP sa) lD b E d mX5_putByte [.ref (b + 63), .int (zI l1)] T Q := by
  unfold f_X5_putByte at h
  refine ⟨Nat.le_of_ble_eq_true rfl, ?_⟩
  show gW (tP sa) lD b E d mX5_putByte 0 [some (.ref (b + 63)), some (.int (zI l1))] [] T Q
  refine g_aload_n dX5_putByte_0 rfl ?_
  refine g_getZ (v := vI T 63 1) dX5_putByte_1 tF_5_15 lD_63 rfl (zI_v T 63 1) ?_
  refine g_sipush (v := zI 400) dX5_putByte_4 (by decide) ?_
  refine g_icmp_geZ dX5_putByte_7 rfl ⟨vI_lo _ _ _, vI_hi _ _ _⟩ (by decide) (fun c7 => ?_) (fun c7 => ?_)
  · replace h := h.1 c7
    refine g_aload_n dX5_putByte_21 rfl ?_
    refine g_dup dX5_putByte_22 rfl ?_
    refine g_getZ (v := vI T 63 1) dX5_putByte_23 tF_5_15 lD_63 rfl (zI_v T 63 1) ?_
    refine g_iconst (v := zI 1) dX5_putByte_26 (by decide) ?_
    refine g_iaddZ dX5_putByte_27 ?_
    refine g_putI dX5_putByte_28 tF_5_15 lD_63 rfl rfl ⟨rfl, rfl⟩ rfl ?_
    exact g_vret dX5_putByte_31 rfl h
  · replace h := h.2 c7
    refine g_aload_n dX5_putByte_10 rfl ?_
    refine g_getR dX5_putByte_11 tF_5_9 lD_63 rfl ?_
    refine g_aload_n dX5_putByte_14 rfl ?_
    refine g_getZ (v := vI T 63 1) dX5_putByte_15 tF_5_15 lD_63 rfl (zI_v T 63 1) ?_
    refine g_iload_n dX5_putByte_18 rfl ?_
    refine g_i2bZ dX5_putByte_19 ?_
    obtain ⟨a1, h⟩ := h
    obtain ⟨a2, h⟩ := h
    refine g_bastZ dX5_putByte_20 lD_64 a1 a2 (by decide) ?_
    refine g_aload_n dX5_putByte_21 rfl ?_
    refine g_dup dX5_putByte_22 rfl ?_
    refine g_getZ (v := vI T 63 1) dX5_putByte_23 tF_5_15 lD_63 rfl (zI_v T 63 1) ?_
    refine g_iconst (v := zI 1) dX5_putByte_26 (by decide) ?_
    refine g_iaddZ dX5_putByte_27 ?_
    refine g_putI dX5_putByte_28 tF_5_15 lD_63 rfl rfl ⟨rfl, rfl⟩ rfl ?_
    exact g_vret dX5_putByte_31 rfl h
def f_X5_putNumber (sa : Nat → Nat) (b : Nat) (E : Nat × mH) (d : Nat) (l1 : Int) (T : gT) (Q : Option Value → gT → Prop) : Prop := (-2147483648 ≤ l1 ∧ l1 < 2147483648) ∧ ((0 ≤ l1 → gW (tP sa) lD b E (d + 1) mX5_putNumber 18 [some (.ref (b + 63)), some (.int (zI l1)), some (.int (zI (if 0 ≤ l1 then l1 else -l1))), some (.int (zI 100000))] [] T Q) ∧ (¬ 0 ≤ l1 → gC (tP sa) lD b E d mX5_putByte [.ref (b + 63), .int (zI 45)] T (fun r T7 => pV r (gW (tP sa) lD b E (d + 1) mX5_putNumber 18 [some (.ref (b + 63)), some (.int (zI l1)), some (.int (zI (if 0 ≤ l1 then l1 else -l1))), some (.int (zI 100000))] [] T7 Q))))
set_option maxRecDepth 4000 in
theorem w_X5_putNumber {sa : Nat → Nat} {b : Nat} {E : Nat × mH} {d : Nat} {l1 : Int} {T : gT} {Q : Option Value → gT → Prop} (h : f_X5_putNumber sa b E d l1 T Q) : gC (tP sa) lD b E (d + 1) mX5_putNumber [.ref (b + 63), .int (zI l1)] T Q := by
  unfold f_X5_putNumber at h
  refine ⟨Nat.le_of_ble_eq_true rfl, ?_⟩
  show gW (tP sa) lD b E (d + 1) mX5_putNumber 0 [some (.ref (b + 63)), some (.int (zI l1)), none, none] [] T Q
  refine g_iload_n dX5_putNumber_0 rfl ?_
  obtain ⟨a1, h⟩ := h
  refine g_if_geZ dX5_putNumber_1 rfl a1  (fun c1 => ?_) (fun c1 => ?_)
  · replace h := h.1 c1
    refine g_iload_n dX5_putNumber_10 rfl ?_
    refine g_primS (st1 := [.int (zI (if 0 ≤ l1 then l1 else -l1))]) dX5_putNumber_11 tG_5_47 rfl (fun S9 => congrArg (fun v9 => some (Value.int v9 :: _, S9)) (zI_abs (x := l1) a1)) rfl ?_
    refine g_istore_n (L' := [some (.ref (b + 63)), some (.int (zI l1)), some (.int (zI (if 0 ≤ l1 then l1 else -l1))), none]) dX5_putNumber_14 rfl ?_
    refine g_ldc dX5_putNumber_15 (tK_5_53 sa) rfl ?_
    rw [show (.int 100000 : Value) = .int (zI 100000) by decide]
    refine g_istore_n (L' := [some (.ref (b + 63)), some (.int (zI l1)), some (.int (zI (if 0 ≤ l1 then l1 else -l1))), some (.int (zI 100000))]) dX5_putNumber_17 rfl ?_
    exact h
  · replace h := h.2 c1
    refine g_aload_n dX5_putNumber_4 rfl ?_
    refine g_bipush (v := zI 45) dX5_putNumber_5 (by decide) ?_
    refine g_callV [.ref (b + 63), .int (zI 45)] [] dX5_putNumber_7 tG_5_43 tM_71 lD_63 rfl rfl rfl rfl (by decide) rfl ?_
    refine gC.mono h (Nat.le_refl _) ?_
    rintro _ T7 ⟨rfl, h⟩
    refine g_iload_n dX5_putNumber_10 rfl ?_
    refine g_primS (st1 := [.int (zI (if 0 ≤ l1 then l1 else -l1))]) dX5_putNumber_11 tG_5_47 rfl (fun S9 => congrArg (fun v9 => some (Value.int v9 :: _, S9)) (zI_abs (x := l1) a1)) rfl ?_
    refine g_istore_n (L' := [some (.ref (b + 63)), some (.int (zI l1)), some (.int (zI (if 0 ≤ l1 then l1 else -l1))), none]) dX5_putNumber_14 rfl ?_
    refine g_ldc dX5_putNumber_15 (tK_5_53 sa) rfl ?_
    rw [show (.int 100000 : Value) = .int (zI 100000) by decide]
    refine g_istore_n (L' := [some (.ref (b + 63)), some (.int (zI l1)), some (.int (zI (if 0 ≤ l1 then l1 else -l1))), some (.int (zI 100000))]) dX5_putNumber_17 rfl ?_
    exact h
def f_X5_putNumber_18 (sa : Nat → Nat) (b : Nat) (E : Nat × mH) (d : Nat) (l1 : Int) (l2 : Int) (l3 : Int) (T : gT) (Q : Option Value → gT → Prop) : Prop := (-2147483648 ≤ l3 ∧ l3 < 2147483648) ∧ ((l3 ≤ 0 → Q none T) ∧ (¬ l3 ≤ 0 → ((l3 = 1 → gW (tP sa) lD b E (d + 1) mX5_putNumber 32 [some (.ref (b + 63)), some (.int (zI l1)), some (.int (zI l2)), some (.int (zI l3))] [] T Q) ∧ (¬ l3 = 1 → (-2147483648 ≤ l2 ∧ l2 < 2147483648) ∧ ((l2 < l3 → (0 ≤ l3 ∧ l3 < 2147483648) ∧ gW (tP sa) lD b E (d + 1) mX5_putNumber 18 [some (.ref (b + 63)), some (.int (zI l1)), some (.int (zI l2)), some (.int (zI (l3 / 10)))] [] T Q) ∧ (¬ l2 < l3 → gW (tP sa) lD b E (d + 1) mX5_putNumber 32 [some (.ref (b + 63)), some (.int (zI l1)), some (.int (zI l2)), some (.int (zI l3))] [] T Q))))))
set_option maxRecDepth 4000 in
theorem w_X5_putNumber_18 {sa : Nat → Nat} {b : Nat} {E : Nat × mH} {d : Nat} {l1 : Int} {l2 : Int} {l3 : Int} {T : gT} {Q : Option Value → gT → Prop} (h : f_X5_putNumber_18 sa b E d l1 l2 l3 T Q) : gW (tP sa) lD b E (d + 1) mX5_putNumber 18 [some (.ref (b + 63)), some (.int (zI l1)), some (.int (zI l2)), some (.int (zI l3))] [] T Q := by
  unfold f_X5_putNumber_18 at h
  refine g_iload_n dX5_putNumber_18 rfl ?_
  obtain ⟨a1, h⟩ := h
  refine g_if_leZ dX5_putNumber_19 rfl a1  (fun c19 => ?_) (fun c19 => ?_)
  · replace h := h.1 c19
    exact g_vret dX5_putNumber_53 rfl h
  · replace h := h.2 c19
    refine g_iload_n dX5_putNumber_22 rfl ?_
    refine g_iconst (v := zI 1) dX5_putNumber_23 (by decide) ?_
    refine g_icmp_eqZ dX5_putNumber_24 rfl a1 (by decide) (fun c24 => ?_) (fun c24 => ?_)
    · replace h := h.1 c24
      exact h
    · replace h := h.2 c24
      refine g_iload_n dX5_putNumber_27 rfl ?_
      refine g_iload_n dX5_putNumber_28 rfl ?_
      obtain ⟨a2, h⟩ := h
      refine g_icmp_ltZ dX5_putNumber_29 rfl a2 a1 (fun c29 => ?_) (fun c29 => ?_)
      · replace h := h.1 c29
        refine g_iload_n dX5_putNumber_45 rfl ?_
        refine g_bipush (v := zI 10) dX5_putNumber_46 (by decide) ?_
        obtain ⟨a3, h⟩ := h
        refine g_idivZ dX5_putNumber_48 a3 (by decide) ?_
        refine g_istore_n (L' := [some (.ref (b + 63)), some (.int (zI l1)), some (.int (zI l2)), some (.int (zI (l3 / 10)))]) dX5_putNumber_49 rfl ?_
        refine g_goto dX5_putNumber_50 rfl ?_
        exact h
      · replace h := h.2 c29
        exact h
def f_X5_putNumber_32 (sa : Nat → Nat) (b : Nat) (E : Nat × mH) (d : Nat) (l1 : Int) (l2 : Int) (l3 : Int) (T : gT) (Q : Option Value → gT → Prop) : Prop := (0 ≤ l2 ∧ l2 < 2147483648) ∧ (0 < l3 ∧ l3 < 2147483648) ∧ (0 ≤ (l2 / l3) ∧ (l2 / l3) < 2147483648) ∧ gC (tP sa) lD b E d mX5_putByte [.ref (b + 63), .int (zI (48 + ((l2 / l3) % 10)))] T (fun r T42 => pV r ((0 ≤ l3 ∧ l3 < 2147483648) ∧ gW (tP sa) lD b E (d + 1) mX5_putNumber 18 [some (.ref (b + 63)), some (.int (zI l1)), some (.int (zI l2)), some (.int (zI (l3 / 10)))] [] T42 Q))
set_option maxRecDepth 4000 in
theorem w_X5_putNumber_32 {sa : Nat → Nat} {b : Nat} {E : Nat × mH} {d : Nat} {l1 : Int} {l2 : Int} {l3 : Int} {T : gT} {Q : Option Value → gT → Prop} (h : f_X5_putNumber_32 sa b E d l1 l2 l3 T Q) : gW (tP sa) lD b E (d + 1) mX5_putNumber 32 [some (.ref (b + 63)), some (.int (zI l1)), some (.int (zI l2)), some (.int (zI l3))] [] T Q := by
  unfold f_X5_putNumber_32 at h
  refine g_aload_n dX5_putNumber_32 rfl ?_
  refine g_bipush (v := zI 48) dX5_putNumber_33 (by decide) ?_
  refine g_iload_n dX5_putNumber_35 rfl ?_
  refine g_iload_n dX5_putNumber_36 rfl ?_
  obtain ⟨a1, h⟩ := h
  obtain ⟨a2, h⟩ := h
  refine g_idivZ dX5_putNumber_37 a1 a2 ?_
  refine g_bipush (v := zI 10) dX5_putNumber_38 (by decide) ?_
  obtain ⟨a3, h⟩ := h
  refine g_iremZ dX5_putNumber_40 a3 (by decide) ?_
  refine g_iaddZ dX5_putNumber_41 ?_
  refine g_callV [.ref (b + 63), .int (zI (48 + ((l2 / l3) % 10)))] [] dX5_putNumber_42 tG_5_43 tM_71 lD_63 rfl rfl rfl rfl (by decide) rfl ?_
  refine gC.mono h (Nat.le_refl _) ?_
  rintro _ T42 ⟨rfl, h⟩
  refine g_iload_n dX5_putNumber_45 rfl ?_
  refine g_bipush (v := zI 10) dX5_putNumber_46 (by decide) ?_
  obtain ⟨a4, h⟩ := h
  refine g_idivZ dX5_putNumber_48 a4 (by decide) ?_
  refine g_istore_n (L' := [some (.ref (b + 63)), some (.int (zI l1)), some (.int (zI l2)), some (.int (zI (l3 / 10)))]) dX5_putNumber_49 rfl ?_
  refine g_goto dX5_putNumber_50 rfl ?_
  exact h
def f_X5_putEnds (sa : Nat → Nat) (b : Nat) (E : Nat × mH) (d : Nat) (l1 : Nat) (l2 : Int) (T : gT) (Q : Option Value → gT → Prop) : Prop := gW (tP sa) lD b E (d + 1 + 1) mX5_putEnds 5 [some (.ref (b + 63)), some (.ref (b + l1)), some (.int (zI l2)), some (.int (zI l2)), some (.int (zI 0))] [] T Q
set_option maxRecDepth 4000 in
theorem w_X5_putEnds {sa : Nat → Nat} {b : Nat} {E : Nat × mH} {d : Nat} {l1 : Nat} {l2 : Int} {T : gT} {Q : Option Value → gT → Prop} (hq_l1 : l1 = 2 ∨ l1 = 21) (h : f_X5_putEnds sa b E d l1 l2 T Q) : gC (tP sa) lD b E (d + 1 + 1) mX5_putEnds [.ref (b + 63), .ref (b + l1), .int (zI l2)] T Q := by
  unfold f_X5_putEnds at h
  refine ⟨Nat.le_of_ble_eq_true rfl, ?_⟩
  show gW (tP sa) lD b E (d + 1 + 1) mX5_putEnds 0 [some (.ref (b + 63)), some (.ref (b + l1)), some (.int (zI l2)), none, none] [] T Q
  refine g_iload_n dX5_putEnds_0 rfl ?_
  refine g_istore_n (L' := [some (.ref (b + 63)), some (.ref (b + l1)), some (.int (zI l2)), some (.int (zI l2)), none]) dX5_putEnds_1 rfl ?_
  refine g_iconst (v := zI 0) dX5_putEnds_2 (by decide) ?_
  refine g_istore (L' := [some (.ref (b + 63)), some (.ref (b + l1)), some (.int (zI l2)), some (.int (zI l2)), some (.int (zI 0))]) dX5_putEnds_3 rfl ?_
  exact h
def f_X5_putEnds_5 (sa : Nat → Nat) (b : Nat) (E : Nat × mH) (d : Nat) (l1 : Nat) (l2 : Int) (l3 : Int) (l4 : Int) (T : gT) (Q : Option Value → gT → Prop) : Prop := (-2147483648 ≤ l4 ∧ l4 < 2147483648) ∧ (-2147483648 ≤ l2 ∧ l2 < 2147483648) ∧ ((l2 < l4 → Q none T) ∧ (¬ l2 < l4 → (-2147483648 ≤ l3 ∧ l3 < 2147483648) ∧ (-2147483648 ≤ l2 + 1 ∧ l2 + 1 < 2147483648) ∧ ((¬ (aI T (l1 + 17) 200 l3) = (l2 + 1) → Q none T) ∧ ((aI T (l1 + 17) 200 l3) = (l2 + 1) → (((aI T (l1 + 1) 200 l3) < 3 → gW (tP sa) lD b E (d + 1 + 1) mX5_putEnds 5 [some (.ref (b + 63)), some (.ref (b + l1)), some (.int (zI l2)), some (.int (zI (aI T (l1 + 4) 200 l3))), some (.int (zI (l4 + 1)))] [] T Q) ∧ (¬ (aI T (l1 + 1) 200 l3) < 3 → gC (tP sa) lD b E (d + 1) mX5_putByte [.ref (b + 63), .int (zI 41)] T (fun r T37 => pV r (gW (tP sa) lD b E (d + 1 + 1) mX5_putEnds 5 [some (.ref (b + 63)), some (.ref (b + l1)), some (.int (zI l2)), some (.int (zI (aI T37 (l1 + 4) 200 l3))), some (.int (zI (l4 + 1)))] [] T37 Q))))))))
set_option maxRecDepth 4000 in
theorem w_X5_putEnds_5 {sa : Nat → Nat} {b : Nat} {E : Nat × mH} {d : Nat} {l1 : Nat} {l2 : Int} {l3 : Int} {l4 : Int} {T : gT} {Q : Option Value → gT → Prop} (hq_l1 : l1 = 2 ∨ l1 = 21) (h : f_X5_putEnds_5 sa b E d l1 l2 l3 l4 T Q) : gW (tP sa) lD b E (d + 1 + 1) mX5_putEnds 5 [some (.ref (b + 63)), some (.ref (b + l1)), some (.int (zI l2)), some (.int (zI l3)), some (.int (zI l4))] [] T Q := by
  unfold f_X5_putEnds_5 at h
  refine g_iload dX5_putEnds_5 rfl ?_
  refine g_iload_n dX5_putEnds_7 rfl ?_
  obtain ⟨a1, h⟩ := h
  obtain ⟨a2, h⟩ := h
  refine g_icmp_gtZ dX5_putEnds_8 rfl a1 a2 (fun c8 => ?_) (fun c8 => ?_)
  · replace h := h.1 c8
    exact g_vret dX5_putEnds_55 rfl h
  · replace h := h.2 c8
    refine g_aload_n dX5_putEnds_11 rfl ?_
    refine g_iload_n dX5_putEnds_12 rfl ?_
    obtain ⟨a3, h⟩ := h
    refine g_callV [.ref (b + l1), .int (zI l3)] [] dX5_putEnds_13 tG_5_94 tM_40 (lP_0 hq_l1) rfl rfl rfl rfl (by decide) rfl ?_
    refine gC.mono (c_endOf sa b E _ _ hq_l1 a3) (Nat.le_refl _) ?_
    rintro _ _ ⟨rfl, h9⟩
    obtain rfl := h9.symm
    refine g_iload_n dX5_putEnds_16 rfl ?_
    refine g_iconst (v := zI 1) dX5_putEnds_17 (by decide) ?_
    refine g_iaddZ dX5_putEnds_18 ?_
    obtain ⟨a4, h⟩ := h
    refine g_icmp_neZ dX5_putEnds_19 rfl (aI_rg _ _ _ _) a4 (fun c19 => ?_) (fun c19 => ?_)
    · replace h := h.1 c19
      exact g_vret dX5_putEnds_55 rfl h
    · replace h := h.2 c19
      refine g_aload_n dX5_putEnds_22 rfl ?_
      refine g_getR dX5_putEnds_23 tF_5_65 (lP_0 hq_l1) rfl ?_
      refine g_iload_n dX5_putEnds_26 rfl ?_
      refine g_callS [.ref (b + (l1 + 1)), .int (zI l3)] [] dX5_putEnds_27 tG_5_61 tM_96 rfl rfl rfl rfl (by decide) ?_
      refine gC.mono (c_aI sa b E _ _ (lP_1 hq_l1) (by decide) a3) (Nat.le_refl _) ?_
      rintro _ _ ⟨rfl, h9⟩
      obtain rfl := h9.symm
      refine g_iconst (v := zI 3) dX5_putEnds_30 (by decide) ?_
      refine g_icmp_ltZ dX5_putEnds_31 rfl (aI_rg _ _ _ _) (by decide) (fun c31 => ?_) (fun c31 => ?_)
      · replace h := h.1 c31
        refine g_aload_n dX5_putEnds_40 rfl ?_
        refine g_getR dX5_putEnds_41 tF_5_57 (lP_0 hq_l1) rfl ?_
        refine g_iload_n dX5_putEnds_44 rfl ?_
        refine g_callS [.ref (b + (l1 + 4)), .int (zI l3)] [] dX5_putEnds_45 tG_5_61 tM_96 rfl rfl rfl rfl (by decide) ?_
        refine gC.mono (c_aI sa b E _ _ (lP_4 hq_l1) (by decide) a3) (Nat.le_refl _) ?_
        rintro _ _ ⟨rfl, h9⟩
        obtain rfl := h9.symm
        refine g_istore_n (L' := [some (.ref (b + 63)), some (.ref (b + l1)), some (.int (zI l2)), some (.int (zI (aI T (l1 + 4) 200 l3))), some (.int (zI l4))]) dX5_putEnds_48 rfl ?_
        refine g_iinc (x := zI l4) (v := zI (l4 + 1)) (L' := [some (.ref (b + 63)), some (.ref (b + l1)), some (.int (zI l2)), some (.int (zI (aI T (l1 + 4) 200 l3))), some (.int (zI (l4 + 1)))]) dX5_putEnds_49 rfl (zI_add _ _) rfl ?_
        refine g_goto dX5_putEnds_52 rfl ?_
        exact h
      · replace h := h.2 c31
        refine g_aload_n dX5_putEnds_34 rfl ?_
        refine g_bipush (v := zI 41) dX5_putEnds_35 (by decide) ?_
        refine g_callV [.ref (b + 63), .int (zI 41)] [] dX5_putEnds_37 tG_5_43 tM_71 lD_63 rfl rfl rfl rfl (by decide) rfl ?_
        refine gC.mono h (Nat.le_refl _) ?_
        rintro _ T37 ⟨rfl, h⟩
        refine g_aload_n dX5_putEnds_40 rfl ?_
        refine g_getR dX5_putEnds_41 tF_5_57 (lP_0 hq_l1) rfl ?_
        refine g_iload_n dX5_putEnds_44 rfl ?_
        refine g_callS [.ref (b + (l1 + 4)), .int (zI l3)] [] dX5_putEnds_45 tG_5_61 tM_96 rfl rfl rfl rfl (by decide) ?_
        refine gC.mono (c_aI sa b E _ _ (lP_4 hq_l1) (by decide) a3) (Nat.le_refl _) ?_
        rintro _ _ ⟨rfl, h9⟩
        obtain rfl := h9.symm
        refine g_istore_n (L' := [some (.ref (b + 63)), some (.ref (b + l1)), some (.int (zI l2)), some (.int (zI (aI T37 (l1 + 4) 200 l3))), some (.int (zI l4))]) dX5_putEnds_48 rfl ?_
        refine g_iinc (x := zI l4) (v := zI (l4 + 1)) (L' := [some (.ref (b + 63)), some (.ref (b + l1)), some (.int (zI l2)), some (.int (zI (aI T37 (l1 + 4) 200 l3))), some (.int (zI (l4 + 1)))]) dX5_putEnds_49 rfl (zI_add _ _) rfl ?_
        refine g_goto dX5_putEnds_52 rfl ?_
        exact h
def f_X6_flow (sa : Nat → Nat) (b : Nat) (E : Nat × mH) (d : Nat) (l1 : Int) (T : gT) (Q : Option Value → gT → Prop) : Prop := gC (tP sa) lD b E d mX6_isLabel [.ref (b + 0), .int (zI l1)] T (fun r T2 => pI r (fun v2 => (-2147483648 ≤ v2 ∧ v2 < 2147483648) ∧ ((v2 = 0 → Q (some (.long 0)) T2) ∧ (¬ v2 = 0 → 0 ≤ l1 ∧ l1 < 200 ∧ Q (some (.long (T2.2.1 48 l1.toNat))) T2))))
set_option maxRecDepth 4000 in
theorem w_X6_flow {sa : Nat → Nat} {b : Nat} {E : Nat × mH} {d : Nat} {l1 : Int} {T : gT} {Q : Option Value → gT → Prop} (h : f_X6_flow sa b E d l1 T Q) : gC (tP sa) lD b E (d + 1) mX6_flow [.ref (b + 0), .int (zI l1)] T Q := by
  unfold f_X6_flow at h
  refine ⟨Nat.le_of_ble_eq_true rfl, ?_⟩
  show gW (tP sa) lD b E (d + 1) mX6_flow 0 [some (.ref (b + 0)), some (.int (zI l1))] [] T Q
  refine g_aload_n dX6_flow_0 rfl ?_
  refine g_iload_n dX6_flow_1 rfl ?_
  refine g_callV [.ref (b + 0), .int (zI l1)] [] dX6_flow_2 tG_6_90 tM_99 lD_0 rfl rfl rfl rfl (by decide) rfl ?_
  refine gC.mono h (Nat.le_refl _) ?_
  rintro _ T2 ⟨v2, rfl, h⟩
  obtain ⟨a1, h⟩ := h
  refine g_if_eqZ dX6_flow_5 rfl a1  (fun c5 => ?_) (fun c5 => ?_)
  · replace h := h.1 c5
    refine g_lconst (v := 0) dX6_flow_20 (by decide) ?_
    exact g_lret dX6_flow_21 rfl h
  · replace h := h.2 c5
    refine g_aload_n dX6_flow_8 rfl ?_
    refine g_getR dX6_flow_9 tF_6_33 lD_0 rfl ?_
    refine g_getR dX6_flow_12 tF_6_114 lD_47 rfl ?_
    refine g_iload_n dX6_flow_15 rfl ?_
    obtain ⟨a2, h⟩ := h
    obtain ⟨a3, h⟩ := h
    refine g_laldZ (v := T2.2.1 48 l1.toNat) dX6_flow_16 lD_48 a2 a3 (by decide) rfl ?_
    refine g_goto dX6_flow_17 rfl ?_
    exact g_lret dX6_flow_21 rfl h
def f_X6_flows (sa : Nat → Nat) (b : Nat) (E : Nat × mH) (d : Nat) (l1 : Int) (T : gT) (Q : Option Value → gT → Prop) : Prop := (-2147483648 ≤ l1 ∧ l1 < 2147483648) ∧ ((l1 < 0 → Q (some (.long 0)) T) ∧ (¬ l1 < 0 → (∃ r6 : Nat, (r6 = 2 ∨ r6 = 21) ∧ vI T 0 2 = (r6 : Int) ∧ (((vI T r6 2) ≤ l1 → Q (some (.long 0)) T) ∧ (¬ (vI T r6 2) ≤ l1 → 0 ≤ l1 ∧ l1 < 100 ∧ Q (some (.long (T.2.1 49 l1.toNat))) T)))))
set_option maxRecDepth 4000 in
theorem w_X6_flows {sa : Nat → Nat} {b : Nat} {E : Nat × mH} {d : Nat} {l1 : Int} {T : gT} {Q : Option Value → gT → Prop} (h : f_X6_flows sa b E d l1 T Q) : gC (tP sa) lD b E d mX6_flows [.ref (b + 0), .int (zI l1)] T Q := by
  unfold f_X6_flows at h
  refine ⟨Nat.le_of_ble_eq_true rfl, ?_⟩
  show gW (tP sa) lD b E d mX6_flows 0 [some (.ref (b + 0)), some (.int (zI l1))] [] T Q
  refine g_iload_n dX6_flows_0 rfl ?_
  obtain ⟨a1, h⟩ := h
  refine g_if_ltZ dX6_flows_1 rfl a1  (fun c1 => ?_) (fun c1 => ?_)
  · replace h := h.1 c1
    refine g_lconst (v := 0) dX6_flows_27 (by decide) ?_
    exact g_lret dX6_flows_28 rfl h
  · replace h := h.2 c1
    refine g_iload_n dX6_flows_4 rfl ?_
    refine g_aload_n dX6_flows_5 rfl ?_
    obtain ⟨r6, hq_r6, e_r6, h⟩ := h
    refine g_getVZ (o := r6) dX6_flows_6 tF_6_16 lD_0 rfl e_r6 (q_lt hq_r6) ?_
    refine g_getZ (v := vI T r6 2) dX6_flows_9 tF_6_80 (lP_0 hq_r6) rfl (zI_v _ _ _) ?_
    refine g_icmp_geZ dX6_flows_12 rfl a1 ⟨vI_lo _ _ _, vI_hi _ _ _⟩ (fun c12 => ?_) (fun c12 => ?_)
    · replace h := h.1 c12
      refine g_lconst (v := 0) dX6_flows_27 (by decide) ?_
      exact g_lret dX6_flows_28 rfl h
    · replace h := h.2 c12
      refine g_aload_n dX6_flows_15 rfl ?_
      refine g_getR dX6_flows_16 tF_6_33 lD_0 rfl ?_
      refine g_getR dX6_flows_19 tF_6_118 lD_47 rfl ?_
      refine g_iload_n dX6_flows_22 rfl ?_
      obtain ⟨a2, h⟩ := h
      obtain ⟨a3, h⟩ := h
      refine g_laldZ (v := T.2.1 49 l1.toNat) dX6_flows_23 lD_49 a2 a3 (by decide) rfl ?_
      refine g_goto dX6_flows_24 rfl ?_
      exact g_lret dX6_flows_28 rfl h
def f_X6_reaches (sa : Nat → Nat) (b : Nat) (E : Nat × mH) (d : Nat) (l1 : Int) (l2 : Int) (T : gT) (Q : Option Value → gT → Prop) : Prop := gC (tP sa) lD b E d mX6_isFunction [.ref (b + 0), .int (zI l1)] T (fun r T2 => pI r (fun v2 => (-2147483648 ≤ v2 ∧ v2 < 2147483648) ∧ ((v2 = 0 → Q (some (.int (zI (-2)))) T2) ∧ (¬ v2 = 0 → gC (tP sa) lD b E d mX6_isFunction [.ref (b + 0), .int (zI l2)] T2 (fun r T10 => pI r (fun v10 => (-2147483648 ≤ v10 ∧ v10 < 2147483648) ∧ ((v10 = 0 → Q (some (.int (zI (-2)))) T10) ∧ (¬ v10 = 0 → gC (tP sa) lD b E d mX1_reachesBit [.ref (b + 47), .int (zI l1), .int (zI l2)] T10 (fun r T22 => pI r (fun v22 => Q (some (.int (zI v22))) T22))))))))))
set_option maxRecDepth 4000 in
theorem w_X6_reaches {sa : Nat → Nat} {b : Nat} {E : Nat × mH} {d : Nat} {l1 : Int} {l2 : Int} {T : gT} {Q : Option Value → gT → Prop} (h : f_X6_reaches sa b E d l1 l2 T Q) : gC (tP sa) lD b E (d + 1) mX6_reaches [.ref (b + 0), .int (zI l1), .int (zI l2)] T Q := by
  unfold f_X6_reaches at h
  refine ⟨Nat.le_of_ble_eq_true rfl, ?_⟩
  show gW (tP sa) lD b E (d + 1) mX6_reaches 0 [some (.ref (b + 0)), some (.int (zI l1)), some (.int (zI l2))] [] T Q
  refine g_aload_n dX6_reaches_0 rfl ?_
  refine g_iload_n dX6_reaches_1 rfl ?_
  refine g_callV [.ref (b + 0), .int (zI l1)] [] dX6_reaches_2 tG_6_121 tM_101 lD_0 rfl rfl rfl rfl (by decide) rfl ?_
  refine gC.mono h (Nat.le_refl _) ?_
  rintro _ T2 ⟨v2, rfl, h⟩
  obtain ⟨a1, h⟩ := h
  refine g_if_eqZ dX6_reaches_5 rfl a1  (fun c5 => ?_) (fun c5 => ?_)
  · replace h := h.1 c5
    refine g_bipush (v := zI (-2)) dX6_reaches_28 (by decide) ?_
    exact g_iret dX6_reaches_30 rfl rfl h
  · replace h := h.2 c5
    refine g_aload_n dX6_reaches_8 rfl ?_
    refine g_iload_n dX6_reaches_9 rfl ?_
    refine g_callV [.ref (b + 0), .int (zI l2)] [] dX6_reaches_10 tG_6_121 tM_101 lD_0 rfl rfl rfl rfl (by decide) rfl ?_
    refine gC.mono h (Nat.le_refl _) ?_
    rintro _ T10 ⟨v10, rfl, h⟩
    obtain ⟨a2, h⟩ := h
    refine g_if_eqZ dX6_reaches_13 rfl a2  (fun c13 => ?_) (fun c13 => ?_)
    · replace h := h.1 c13
      refine g_bipush (v := zI (-2)) dX6_reaches_28 (by decide) ?_
      exact g_iret dX6_reaches_30 rfl rfl h
    · replace h := h.2 c13
      refine g_aload_n dX6_reaches_16 rfl ?_
      refine g_getR dX6_reaches_17 tF_6_33 lD_0 rfl ?_
      refine g_iload_n dX6_reaches_20 rfl ?_
      refine g_iload_n dX6_reaches_21 rfl ?_
      refine g_callV [.ref (b + 47), .int (zI l1), .int (zI l2)] [] dX6_reaches_22 tG_6_140 tM_9 lD_47 rfl rfl rfl rfl (by decide) rfl ?_
      refine gC.mono h (Nat.le_refl _) ?_
      rintro _ T22 ⟨v22, rfl, h⟩
      refine g_goto dX6_reaches_25 rfl ?_
      exact g_iret dX6_reaches_30 rfl rfl h
def f_X6_run (sa : Nat → Nat) (b : Nat) (E : Nat × mH) (d : Nat) (l1 : Int) (T : gT) (Q : Option Value → gT → Prop) : Prop := (∃ r1 : Nat, (r1 = 2 ∨ r1 = 21) ∧ vI T 0 2 = (r1 : Int) ∧ (((vI T r1 0) = 0 → Q (some (.int (zI (-2)))) T) ∧ (¬ (vI T r1 0) = 0 → (-2147483648 ≤ l1 ∧ l1 < 2147483648) ∧ ((l1 < 1 → Q (some (.int (zI (-2)))) T) ∧ (¬ l1 < 1 → ((l1 ≤ 2000 → (∃ r30 : Nat, (r30 = 2 ∨ r30 = 21) ∧ vI T 0 2 = (r30 : Int) ∧ gC (tP sa) lD b E d mX2_start [.ref (b + 51), .ref (b + r30), .int (zI l1)] T (fun r T34 => pV r (Q (some (.int (zI (vI T34 51 1)))) T34)))) ∧ (¬ l1 ≤ 2000 → Q (some (.int (zI (-2)))) T)))))))
set_option maxRecDepth 4000 in
theorem w_X6_run {sa : Nat → Nat} {b : Nat} {E : Nat × mH} {d : Nat} {l1 : Int} {T : gT} {Q : Option Value → gT → Prop} (h : f_X6_run sa b E d l1 T Q) : gC (tP sa) lD b E (d + 1) mX6_run [.ref (b + 0), .int (zI l1)] T Q := by
  unfold f_X6_run at h
  refine ⟨Nat.le_of_ble_eq_true rfl, ?_⟩
  show gW (tP sa) lD b E (d + 1) mX6_run 0 [some (.ref (b + 0)), some (.int (zI l1))] [] T Q
  refine g_aload_n dX6_run_0 rfl ?_
  obtain ⟨r1, hq_r1, e_r1, h⟩ := h
  refine g_getVZ (o := r1) dX6_run_1 tF_6_16 lD_0 rfl e_r1 (q_lt hq_r1) ?_
  refine g_getZ (v := vI T r1 0) dX6_run_4 tF_6_74 (lP_0 hq_r1) rfl (zI_v _ _ _) ?_
  refine g_if_eqZ dX6_run_7 rfl ⟨vI_lo _ _ _, vI_hi _ _ _⟩  (fun c7 => ?_) (fun c7 => ?_)
  · replace h := h.1 c7
    refine g_bipush (v := zI (-2)) dX6_run_22 (by decide) ?_
    exact g_iret dX6_run_24 rfl rfl h
  · replace h := h.2 c7
    refine g_iload_n dX6_run_10 rfl ?_
    refine g_iconst (v := zI 1) dX6_run_11 (by decide) ?_
    obtain ⟨a1, h⟩ := h
    refine g_icmp_ltZ dX6_run_12 rfl a1 (by decide) (fun c12 => ?_) (fun c12 => ?_)
    · replace h := h.1 c12
      refine g_bipush (v := zI (-2)) dX6_run_22 (by decide) ?_
      exact g_iret dX6_run_24 rfl rfl h
    · replace h := h.2 c12
      refine g_iload_n dX6_run_15 rfl ?_
      refine g_sipush (v := zI 2000) dX6_run_16 (by decide) ?_
      refine g_icmp_leZ dX6_run_19 rfl a1 (by decide) (fun c19 => ?_) (fun c19 => ?_)
      · replace h := h.1 c19
        refine g_aload_n dX6_run_25 rfl ?_
        refine g_getR dX6_run_26 tF_6_40 lD_0 rfl ?_
        refine g_aload_n dX6_run_29 rfl ?_
        obtain ⟨r30, hq_r30, e_r30, h⟩ := h
        refine g_getVZ (o := r30) dX6_run_30 tF_6_16 lD_0 rfl e_r30 (q_lt hq_r30) ?_
        refine g_iload_n dX6_run_33 rfl ?_
        refine g_callV [.ref (b + 51), .ref (b + r30), .int (zI l1)] [] dX6_run_34 tG_6_150 tM_18 lD_51 rfl rfl rfl rfl (by decide) rfl ?_
        refine gC.mono h (Nat.le_refl _) ?_
        rintro _ T34 ⟨rfl, h⟩
        refine g_aload_n dX6_run_37 rfl ?_
        refine g_getR dX6_run_38 tF_6_40 lD_0 rfl ?_
        refine g_getZ (v := vI T34 51 1) dX6_run_41 tF_6_154 lD_51 rfl (zI_v T34 51 1) ?_
        exact g_iret dX6_run_44 rfl rfl h
      · replace h := h.2 c19
        refine g_bipush (v := zI (-2)) dX6_run_22 (by decide) ?_
        exact g_iret dX6_run_24 rfl rfl h
def f_X6_out (sa : Nat → Nat) (b : Nat) (E : Nat × mH) (d : Nat) (l1 : Int) (T : gT) (Q : Option Value → gT → Prop) : Prop := gW (tP sa) lD b E d mX6_out 5 [some (.ref (b + 0)), some (.int (zI l1)), some (.long 0), none, some (.int (zI 0)), none, none] [] T Q
set_option maxRecDepth 4000 in
theorem w_X6_out {sa : Nat → Nat} {b : Nat} {E : Nat × mH} {d : Nat} {l1 : Int} {T : gT} {Q : Option Value → gT → Prop} (h : f_X6_out sa b E d l1 T Q) : gC (tP sa) lD b E d mX6_out [.ref (b + 0), .int (zI l1)] T Q := by
  unfold f_X6_out at h
  refine ⟨Nat.le_of_ble_eq_true rfl, ?_⟩
  show gW (tP sa) lD b E d mX6_out 0 [some (.ref (b + 0)), some (.int (zI l1)), none, none, none, none, none] [] T Q
  refine g_lconst (v := 0) dX6_out_0 (by decide) ?_
  refine g_lstore_n (L' := [some (.ref (b + 0)), some (.int (zI l1)), some (.long 0), none, none, none, none]) dX6_out_1 rfl ?_
  refine g_iconst (v := zI 0) dX6_out_2 (by decide) ?_
  refine g_istore (L' := [some (.ref (b + 0)), some (.int (zI l1)), some (.long 0), none, some (.int (zI 0)), none, none]) dX6_out_3 rfl ?_
  exact h
def f_X6_out_5 (sa : Nat → Nat) (b : Nat) (E : Nat × mH) (d : Nat) (l1 : Int) (l2 : Int64) (l4 : Int) (T : gT) (Q : Option Value → gT → Prop) : Prop := (-2147483648 ≤ l4 ∧ l4 < 2147483648) ∧ ((8 ≤ l4 → Q (some (.long l2)) T) ∧ (¬ 8 ≤ l4 → (((((zI l1).toInt64) + ((zI l4).toInt64)) < 0 → gW (tP sa) lD b E d mX6_out 5 [some (.ref (b + 0)), some (.int (zI l1)), some (.long l2), none, some (.int (zI (l4 + 1))), some (.long (((zI l1).toInt64) + ((zI l4).toInt64))), none] [] T Q) ∧ (¬ (((zI l1).toInt64) + ((zI l4).toInt64)) < 0 → ((¬ (((zI l1).toInt64) + ((zI l4).toInt64)) < ((zI (vI T 0 1)).toInt64) → gW (tP sa) lD b E d mX6_out 5 [some (.ref (b + 0)), some (.int (zI l1)), some (.long l2), none, some (.int (zI (l4 + 1))), some (.long (((zI l1).toInt64) + ((zI l4).toInt64))), none] [] T Q) ∧ ((((zI l1).toInt64) + ((zI l4).toInt64)) < ((zI (vI T 0 1)).toInt64) → 0 ≤ (((zI l1).toInt64) + ((zI l4).toInt64)).toInt32.toInt ∧ (((zI l1).toInt64) + ((zI l4).toInt64)).toInt32.toInt < 400 ∧ gW (tP sa) lD b E d mX6_out 5 [some (.ref (b + 0)), some (.int (zI l1)), some (.long (l2 ||| ((((zI (vI T 1 ((((zI l1).toInt64) + ((zI l4).toInt64)).toInt32.toInt).toNat)).toInt64) &&& 255) <<< ((zI (8 * l4)).toInt64 &&& 63)))), none, some (.int (zI (l4 + 1))), some (.long (((zI l1).toInt64) + ((zI l4).toInt64))), none] [] T Q))))))
set_option maxRecDepth 4000 in
theorem w_X6_out_5 {sa : Nat → Nat} {b : Nat} {E : Nat × mH} {d : Nat} {l1 : Int} {l2 : Int64} {l4 : Int} {T : gT} {Q : Option Value → gT → Prop} (h : f_X6_out_5 sa b E d l1 l2 l4 T Q) : gW (tP sa) lD b E d mX6_out 5 [some (.ref (b + 0)), some (.int (zI l1)), some (.long l2), none, some (.int (zI l4)), none, none] [] T Q := by
  unfold f_X6_out_5 at h
  refine g_iload dX6_out_5 rfl ?_
  refine g_bipush (v := zI 8) dX6_out_7 (by decide) ?_
  obtain ⟨a1, h⟩ := h
  refine g_icmp_geZ dX6_out_9 rfl a1 (by decide) (fun c9 => ?_) (fun c9 => ?_)
  · replace h := h.1 c9
    refine g_lload_n dX6_out_66 rfl ?_
    exact g_lret dX6_out_67 rfl h
  · replace h := h.2 c9
    refine g_iload_n dX6_out_12 rfl ?_
    refine g_i2l dX6_out_13 ?_
    refine g_iload dX6_out_14 rfl ?_
    refine g_i2l dX6_out_16 ?_
    refine g_ladd dX6_out_17 ?_
    refine g_lstore (L' := [some (.ref (b + 0)), some (.int (zI l1)), some (.long l2), none, some (.int (zI l4)), some (.long (((zI l1).toInt64) + ((zI l4).toInt64))), none]) dX6_out_18 rfl ?_
    refine g_lload dX6_out_20 rfl ?_
    refine g_lconst (v := 0) dX6_out_22 (by decide) ?_
    refine g_lcmp dX6_out_23 ?_
    refine g_if_ltL dX6_out_24 rfl (fun c24 => ?_) (fun c24 => ?_)
    · replace h := h.1 c24
      refine g_iinc (x := zI l4) (v := zI (l4 + 1)) (L' := [some (.ref (b + 0)), some (.int (zI l1)), some (.long l2), none, some (.int (zI (l4 + 1))), some (.long (((zI l1).toInt64) + ((zI l4).toInt64))), none]) dX6_out_60 rfl (zI_add _ _) rfl ?_
      refine g_goto dX6_out_63 rfl ?_
      exact h
    · replace h := h.2 c24
      refine g_lload dX6_out_27 rfl ?_
      refine g_aload_n dX6_out_29 rfl ?_
      refine g_getZ (v := vI T 0 1) dX6_out_30 tF_6_58 lD_0 rfl (zI_v T 0 1) ?_
      refine g_i2l dX6_out_33 ?_
      refine g_lcmp dX6_out_34 ?_
      refine g_if_geL dX6_out_35 rfl (fun c35 => ?_) (fun c35 => ?_)
      · replace h := h.1 c35
        refine g_iinc (x := zI l4) (v := zI (l4 + 1)) (L' := [some (.ref (b + 0)), some (.int (zI l1)), some (.long l2), none, some (.int (zI (l4 + 1))), some (.long (((zI l1).toInt64) + ((zI l4).toInt64))), none]) dX6_out_60 rfl (zI_add _ _) rfl ?_
        refine g_goto dX6_out_63 rfl ?_
        exact h
      · replace h := h.2 c35
        refine g_lload_n dX6_out_38 rfl ?_
        refine g_aload_n dX6_out_39 rfl ?_
        refine g_getR dX6_out_40 tF_6_9 lD_0 rfl ?_
        refine g_lload dX6_out_43 rfl ?_
        refine g_l2iZ dX6_out_45 ?_
        obtain ⟨a2, h⟩ := h
        obtain ⟨a3, h⟩ := h
        refine g_baldZ (v := vI T 1 ((((zI l1).toInt64) + ((zI l4).toInt64)).toInt32.toInt).toNat) dX6_out_46 lD_1 a2 a3 (by decide) (zI_v T 1 ((((zI l1).toInt64) + ((zI l4).toInt64)).toInt32.toInt).toNat) ?_
        refine g_i2l dX6_out_47 ?_
        refine g_ldc2_w dX6_out_48 (tK_6_199 sa) ?_
        refine g_land dX6_out_51 ?_
        refine g_bipush (v := zI 8) dX6_out_52 (by decide) ?_
        refine g_iload dX6_out_54 rfl ?_
        refine g_imulZ dX6_out_56 ?_
        refine g_lshl dX6_out_57 ?_
        refine g_lor dX6_out_58 ?_
        refine g_lstore_n (L' := [some (.ref (b + 0)), some (.int (zI l1)), some (.long (l2 ||| ((((zI (vI T 1 ((((zI l1).toInt64) + ((zI l4).toInt64)).toInt32.toInt).toNat)).toInt64) &&& 255) <<< ((zI (8 * l4)).toInt64 &&& 63)))), none, some (.int (zI l4)), some (.long (((zI l1).toInt64) + ((zI l4).toInt64))), none]) dX6_out_59 rfl ?_
        refine g_iinc (x := zI l4) (v := zI (l4 + 1)) (L' := [some (.ref (b + 0)), some (.int (zI l1)), some (.long (l2 ||| ((((zI (vI T 1 ((((zI l1).toInt64) + ((zI l4).toInt64)).toInt32.toInt).toNat)).toInt64) &&& 255) <<< ((zI (8 * l4)).toInt64 &&& 63)))), none, some (.int (zI (l4 + 1))), some (.long (((zI l1).toInt64) + ((zI l4).toInt64))), none]) dX6_out_60 rfl (zI_add _ _) rfl ?_
        refine g_goto dX6_out_63 rfl ?_
        exact h
def f_X6_out_5b (sa : Nat → Nat) (b : Nat) (E : Nat × mH) (d : Nat) (l1 : Int) (l2 : Int64) (l4 : Int) (l5 : Int64) (T : gT) (Q : Option Value → gT → Prop) : Prop := (-2147483648 ≤ l4 ∧ l4 < 2147483648) ∧ ((8 ≤ l4 → Q (some (.long l2)) T) ∧ (¬ 8 ≤ l4 → (((((zI l1).toInt64) + ((zI l4).toInt64)) < 0 → gW (tP sa) lD b E d mX6_out 5 [some (.ref (b + 0)), some (.int (zI l1)), some (.long l2), none, some (.int (zI (l4 + 1))), some (.long (((zI l1).toInt64) + ((zI l4).toInt64))), none] [] T Q) ∧ (¬ (((zI l1).toInt64) + ((zI l4).toInt64)) < 0 → ((¬ (((zI l1).toInt64) + ((zI l4).toInt64)) < ((zI (vI T 0 1)).toInt64) → gW (tP sa) lD b E d mX6_out 5 [some (.ref (b + 0)), some (.int (zI l1)), some (.long l2), none, some (.int (zI (l4 + 1))), some (.long (((zI l1).toInt64) + ((zI l4).toInt64))), none] [] T Q) ∧ ((((zI l1).toInt64) + ((zI l4).toInt64)) < ((zI (vI T 0 1)).toInt64) → 0 ≤ (((zI l1).toInt64) + ((zI l4).toInt64)).toInt32.toInt ∧ (((zI l1).toInt64) + ((zI l4).toInt64)).toInt32.toInt < 400 ∧ gW (tP sa) lD b E d mX6_out 5 [some (.ref (b + 0)), some (.int (zI l1)), some (.long (l2 ||| ((((zI (vI T 1 ((((zI l1).toInt64) + ((zI l4).toInt64)).toInt32.toInt).toNat)).toInt64) &&& 255) <<< ((zI (8 * l4)).toInt64 &&& 63)))), none, some (.int (zI (l4 + 1))), some (.long (((zI l1).toInt64) + ((zI l4).toInt64))), none] [] T Q))))))
set_option maxRecDepth 4000 in
theorem w_X6_out_5b {sa : Nat → Nat} {b : Nat} {E : Nat × mH} {d : Nat} {l1 : Int} {l2 : Int64} {l4 : Int} {l5 : Int64} {T : gT} {Q : Option Value → gT → Prop} (h : f_X6_out_5b sa b E d l1 l2 l4 l5 T Q) : gW (tP sa) lD b E d mX6_out 5 [some (.ref (b + 0)), some (.int (zI l1)), some (.long l2), none, some (.int (zI l4)), some (.long l5), none] [] T Q := by
  unfold f_X6_out_5b at h
  refine g_iload dX6_out_5 rfl ?_
  refine g_bipush (v := zI 8) dX6_out_7 (by decide) ?_
  obtain ⟨a1, h⟩ := h
  refine g_icmp_geZ dX6_out_9 rfl a1 (by decide) (fun c9 => ?_) (fun c9 => ?_)
  · replace h := h.1 c9
    refine g_lload_n dX6_out_66 rfl ?_
    exact g_lret dX6_out_67 rfl h
  · replace h := h.2 c9
    refine g_iload_n dX6_out_12 rfl ?_
    refine g_i2l dX6_out_13 ?_
    refine g_iload dX6_out_14 rfl ?_
    refine g_i2l dX6_out_16 ?_
    refine g_ladd dX6_out_17 ?_
    refine g_lstore (L' := [some (.ref (b + 0)), some (.int (zI l1)), some (.long l2), none, some (.int (zI l4)), some (.long (((zI l1).toInt64) + ((zI l4).toInt64))), none]) dX6_out_18 rfl ?_
    refine g_lload dX6_out_20 rfl ?_
    refine g_lconst (v := 0) dX6_out_22 (by decide) ?_
    refine g_lcmp dX6_out_23 ?_
    refine g_if_ltL dX6_out_24 rfl (fun c24 => ?_) (fun c24 => ?_)
    · replace h := h.1 c24
      refine g_iinc (x := zI l4) (v := zI (l4 + 1)) (L' := [some (.ref (b + 0)), some (.int (zI l1)), some (.long l2), none, some (.int (zI (l4 + 1))), some (.long (((zI l1).toInt64) + ((zI l4).toInt64))), none]) dX6_out_60 rfl (zI_add _ _) rfl ?_
      refine g_goto dX6_out_63 rfl ?_
      exact h
    · replace h := h.2 c24
      refine g_lload dX6_out_27 rfl ?_
      refine g_aload_n dX6_out_29 rfl ?_
      refine g_getZ (v := vI T 0 1) dX6_out_30 tF_6_58 lD_0 rfl (zI_v T 0 1) ?_
      refine g_i2l dX6_out_33 ?_
      refine g_lcmp dX6_out_34 ?_
      refine g_if_geL dX6_out_35 rfl (fun c35 => ?_) (fun c35 => ?_)
      · replace h := h.1 c35
        refine g_iinc (x := zI l4) (v := zI (l4 + 1)) (L' := [some (.ref (b + 0)), some (.int (zI l1)), some (.long l2), none, some (.int (zI (l4 + 1))), some (.long (((zI l1).toInt64) + ((zI l4).toInt64))), none]) dX6_out_60 rfl (zI_add _ _) rfl ?_
        refine g_goto dX6_out_63 rfl ?_
        exact h
      · replace h := h.2 c35
        refine g_lload_n dX6_out_38 rfl ?_
        refine g_aload_n dX6_out_39 rfl ?_
        refine g_getR dX6_out_40 tF_6_9 lD_0 rfl ?_
        refine g_lload dX6_out_43 rfl ?_
        refine g_l2iZ dX6_out_45 ?_
        obtain ⟨a2, h⟩ := h
        obtain ⟨a3, h⟩ := h
        refine g_baldZ (v := vI T 1 ((((zI l1).toInt64) + ((zI l4).toInt64)).toInt32.toInt).toNat) dX6_out_46 lD_1 a2 a3 (by decide) (zI_v T 1 ((((zI l1).toInt64) + ((zI l4).toInt64)).toInt32.toInt).toNat) ?_
        refine g_i2l dX6_out_47 ?_
        refine g_ldc2_w dX6_out_48 (tK_6_199 sa) ?_
        refine g_land dX6_out_51 ?_
        refine g_bipush (v := zI 8) dX6_out_52 (by decide) ?_
        refine g_iload dX6_out_54 rfl ?_
        refine g_imulZ dX6_out_56 ?_
        refine g_lshl dX6_out_57 ?_
        refine g_lor dX6_out_58 ?_
        refine g_lstore_n (L' := [some (.ref (b + 0)), some (.int (zI l1)), some (.long (l2 ||| ((((zI (vI T 1 ((((zI l1).toInt64) + ((zI l4).toInt64)).toInt32.toInt).toNat)).toInt64) &&& 255) <<< ((zI (8 * l4)).toInt64 &&& 63)))), none, some (.int (zI l4)), some (.long (((zI l1).toInt64) + ((zI l4).toInt64))), none]) dX6_out_59 rfl ?_
        refine g_iinc (x := zI l4) (v := zI (l4 + 1)) (L' := [some (.ref (b + 0)), some (.int (zI l1)), some (.long (l2 ||| ((((zI (vI T 1 ((((zI l1).toInt64) + ((zI l4).toInt64)).toInt32.toInt).toNat)).toInt64) &&& 255) <<< ((zI (8 * l4)).toInt64 &&& 63)))), none, some (.int (zI (l4 + 1))), some (.long (((zI l1).toInt64) + ((zI l4).toInt64))), none]) dX6_out_60 rfl (zI_add _ _) rfl ?_
        refine g_goto dX6_out_63 rfl ?_
        exact h
def f_X6_isDroppable (sa : Nat → Nat) (b : Nat) (E : Nat × mH) (d : Nat) (l1 : Int) (T : gT) (Q : Option Value → gT → Prop) : Prop := (∃ r1 : Nat, (r1 = 2 ∨ r1 = 21) ∧ vI T 0 2 = (r1 : Int) ∧ (∃ r8 : Nat, (r8 = 2 ∨ r8 = 21) ∧ vI T 0 2 = (r8 : Int) ∧ (-2147483648 ≤ l1 ∧ l1 < 2147483648) ∧ (((aI T (r1 + 1) 200 (aP T r8 l1 0)) = 0 → gW (tP sa) lD b E (d + 1) mX6_isDroppable 39 [some (.ref (b + 0)), some (.int (zI l1)), some (.int (zI (aI T (r1 + 1) 200 (aP T r8 l1 0))))] [] T Q) ∧ (¬ (aI T (r1 + 1) 200 (aP T r8 l1 0)) = 0 → (((aI T (r1 + 1) 200 (aP T r8 l1 0)) = 1 → gW (tP sa) lD b E (d + 1) mX6_isDroppable 39 [some (.ref (b + 0)), some (.int (zI l1)), some (.int (zI (aI T (r1 + 1) 200 (aP T r8 l1 0))))] [] T Q) ∧ (¬ (aI T (r1 + 1) 200 (aP T r8 l1 0)) = 1 → (((aI T (r1 + 1) 200 (aP T r8 l1 0)) = 2 → gW (tP sa) lD b E (d + 1) mX6_isDroppable 39 [some (.ref (b + 0)), some (.int (zI l1)), some (.int (zI (aI T (r1 + 1) 200 (aP T r8 l1 0))))] [] T Q) ∧ (¬ (aI T (r1 + 1) 200 (aP T r8 l1 0)) = 2 → ((¬ (aI T (r1 + 1) 200 (aP T r8 l1 0)) = 3 → Q (some (.int (zI 0))) T) ∧ ((aI T (r1 + 1) 200 (aP T r8 l1 0)) = 3 → gW (tP sa) lD b E (d + 1) mX6_isDroppable 39 [some (.ref (b + 0)), some (.int (zI l1)), some (.int (zI (aI T (r1 + 1) 200 (aP T r8 l1 0))))] [] T Q))))))))))
set_option maxRecDepth 4000 in
theorem w_X6_isDroppable {sa : Nat → Nat} {b : Nat} {E : Nat × mH} {d : Nat} {l1 : Int} {T : gT} {Q : Option Value → gT → Prop} (h : f_X6_isDroppable sa b E d l1 T Q) : gC (tP sa) lD b E (d + 1) mX6_isDroppable [.ref (b + 0), .int (zI l1)] T Q := by
  unfold f_X6_isDroppable at h
  refine ⟨Nat.le_of_ble_eq_true rfl, ?_⟩
  show gW (tP sa) lD b E (d + 1) mX6_isDroppable 0 [some (.ref (b + 0)), some (.int (zI l1)), none] [] T Q
  refine g_aload_n dX6_isDroppable_0 rfl ?_
  obtain ⟨r1, hq_r1, e_r1, h⟩ := h
  refine g_getVZ (o := r1) dX6_isDroppable_1 tF_6_16 lD_0 rfl e_r1 (q_lt hq_r1) ?_
  refine g_getR dX6_isDroppable_4 tF_6_94 (lP_0 hq_r1) rfl ?_
  refine g_aload_n dX6_isDroppable_7 rfl ?_
  obtain ⟨r8, hq_r8, e_r8, h⟩ := h
  refine g_getVZ (o := r8) dX6_isDroppable_8 tF_6_16 lD_0 rfl e_r8 (q_lt hq_r8) ?_
  refine g_iload_n dX6_isDroppable_11 rfl ?_
  refine g_iconst (v := zI 0) dX6_isDroppable_12 (by decide) ?_
  obtain ⟨a1, h⟩ := h
  refine g_callV [.ref (b + r8), .int (zI l1), .int (zI 0)] [.ref (b + (r1 + 1))] dX6_isDroppable_13 tG_6_104 tM_39 (lP_0 hq_r8) rfl rfl rfl rfl (by decide) rfl ?_
  refine gC.mono (c_part sa b E _ _ hq_r8 a1 (by decide)) (Nat.le_refl _) ?_
  rintro _ _ ⟨rfl, h9⟩
  obtain rfl := h9.symm
  refine g_callS [.ref (b + (r1 + 1)), .int (zI (aP T r8 l1 0))] [] dX6_isDroppable_16 tG_6_127 tM_96 rfl rfl rfl rfl (by decide) ?_
  refine gC.mono (c_aI sa b E _ _ (lP_1 hq_r1) (by decide) (aP_rg _ _ _ _)) (Nat.le_refl _) ?_
  rintro _ _ ⟨rfl, h9⟩
  obtain rfl := h9.symm
  refine g_istore_n (L' := [some (.ref (b + 0)), some (.int (zI l1)), some (.int (zI (aI T (r1 + 1) 200 (aP T r8 l1 0))))]) dX6_isDroppable_19 rfl ?_
  refine g_iload_n dX6_isDroppable_20 rfl ?_
  refine g_if_eqZ dX6_isDroppable_21 rfl (aI_rg _ _ _ _)  (fun c21 => ?_) (fun c21 => ?_)
  · replace h := h.1 c21
    exact h
  · replace h := h.2 c21
    refine g_iload_n dX6_isDroppable_24 rfl ?_
    refine g_iconst (v := zI 1) dX6_isDroppable_25 (by decide) ?_
    refine g_icmp_eqZ dX6_isDroppable_26 rfl (aI_rg _ _ _ _) (by decide) (fun c26 => ?_) (fun c26 => ?_)
    · replace h := h.1 c26
      exact h
    · replace h := h.2 c26
      refine g_iload_n dX6_isDroppable_29 rfl ?_
      refine g_iconst (v := zI 2) dX6_isDroppable_30 (by decide) ?_
      refine g_icmp_eqZ dX6_isDroppable_31 rfl (aI_rg _ _ _ _) (by decide) (fun c31 => ?_) (fun c31 => ?_)
      · replace h := h.1 c31
        exact h
      · replace h := h.2 c31
        refine g_iload_n dX6_isDroppable_34 rfl ?_
        refine g_iconst (v := zI 3) dX6_isDroppable_35 (by decide) ?_
        refine g_icmp_neZ dX6_isDroppable_36 rfl (aI_rg _ _ _ _) (by decide) (fun c36 => ?_) (fun c36 => ?_)
        · replace h := h.1 c36
          refine g_iconst (v := zI 0) dX6_isDroppable_67 (by decide) ?_
          exact g_iret dX6_isDroppable_68 rfl rfl h
        · replace h := h.2 c36
          exact h
def f_X6_isDroppable_39 (sa : Nat → Nat) (b : Nat) (E : Nat × mH) (d : Nat) (l1 : Int) (l2 : Int) (T : gT) (Q : Option Value → gT → Prop) : Prop := (∃ r40 : Nat, (r40 = 2 ∨ r40 = 21) ∧ vI T 0 2 = (r40 : Int) ∧ (∃ r47 : Nat, (r47 = 2 ∨ r47 = 21) ∧ vI T 0 2 = (r47 : Int) ∧ (-2147483648 ≤ l1 ∧ l1 < 2147483648) ∧ ((¬ (aI T (r40 + 9) 100 (aI T (r47 + 2) 200 l1)) = 0 → Q (some (.int (zI 0))) T) ∧ ((aI T (r40 + 9) 100 (aI T (r47 + 2) 200 l1)) = 0 → Q (some (.int (zI 1))) T))))
set_option maxRecDepth 4000 in
theorem w_X6_isDroppable_39 {sa : Nat → Nat} {b : Nat} {E : Nat × mH} {d : Nat} {l1 : Int} {l2 : Int} {T : gT} {Q : Option Value → gT → Prop} (h : f_X6_isDroppable_39 sa b E d l1 l2 T Q) : gW (tP sa) lD b E (d + 1) mX6_isDroppable 39 [some (.ref (b + 0)), some (.int (zI l1)), some (.int (zI l2))] [] T Q := by
  unfold f_X6_isDroppable_39 at h
  refine g_aload_n dX6_isDroppable_39 rfl ?_
  obtain ⟨r40, hq_r40, e_r40, h⟩ := h
  refine g_getVZ (o := r40) dX6_isDroppable_40 tF_6_16 lD_0 rfl e_r40 (q_lt hq_r40) ?_
  refine g_getR dX6_isDroppable_43 tF_6_218 (lP_0 hq_r40) rfl ?_
  refine g_aload_n dX6_isDroppable_46 rfl ?_
  obtain ⟨r47, hq_r47, e_r47, h⟩ := h
  refine g_getVZ (o := r47) dX6_isDroppable_47 tF_6_16 lD_0 rfl e_r47 (q_lt hq_r47) ?_
  refine g_getR dX6_isDroppable_50 tF_6_98 (lP_0 hq_r47) rfl ?_
  refine g_iload_n dX6_isDroppable_53 rfl ?_
  obtain ⟨a1, h⟩ := h
  refine g_callS [.ref (b + (r47 + 2)), .int (zI l1)] [.ref (b + (r40 + 9))] dX6_isDroppable_54 tG_6_127 tM_96 rfl rfl rfl rfl (by decide) ?_
  refine gC.mono (c_aI sa b E _ _ (lP_2 hq_r47) (by decide) a1) (Nat.le_refl _) ?_
  rintro _ _ ⟨rfl, h9⟩
  obtain rfl := h9.symm
  refine g_callS [.ref (b + (r40 + 9)), .int (zI (aI T (r47 + 2) 200 l1))] [] dX6_isDroppable_57 tG_6_127 tM_96 rfl rfl rfl rfl (by decide) ?_
  refine gC.mono (c_aI sa b E _ _ (lP_9 hq_r40) (by decide) (aI_rg _ _ _ _)) (Nat.le_refl _) ?_
  rintro _ _ ⟨rfl, h9⟩
  obtain rfl := h9.symm
  refine g_if_neZ dX6_isDroppable_60 rfl (aI_rg _ _ _ _)  (fun c60 => ?_) (fun c60 => ?_)
  · replace h := h.1 c60
    refine g_iconst (v := zI 0) dX6_isDroppable_67 (by decide) ?_
    exact g_iret dX6_isDroppable_68 rfl rfl h
  · replace h := h.2 c60
    refine g_iconst (v := zI 1) dX6_isDroppable_63 (by decide) ?_
    refine g_goto dX6_isDroppable_64 rfl ?_
    exact g_iret dX6_isDroppable_68 rfl rfl h
def f_X6_isOfSort (sa : Nat → Nat) (b : Nat) (E : Nat × mH) (d : Nat) (l1 : Int) (l2 : Int) (T : gT) (Q : Option Value → gT → Prop) : Prop := (-2147483648 ≤ l2 ∧ l2 < 2147483648) ∧ ((l2 = 0 → gC (tP sa) lD b E d mX6_isOfKind [.ref (b + 0), .int (zI l1), .int (zI 11)] T (fun r T32 => pI r (fun v32 => (v32 = 0 ∨ v32 = 1) ∧ Q (some (.int (zI v32))) T32))) ∧ (l2 = 1 → gC (tP sa) lD b E d mX6_isOfKind [.ref (b + 0), .int (zI l1), .int (zI 11)] T (fun r T40 => pI r (fun v40 => (-2147483648 ≤ v40 ∧ v40 < 2147483648) ∧ ((v40 = 0 → Q (some (.int (zI 0))) T40) ∧ (¬ v40 = 0 → gC (tP sa) lD b E d mX6_onlyFunction [.ref (b + 0), .int (zI l1)] T40 (fun r T48 => pI r (fun v48 => (-2147483648 ≤ v48 ∧ v48 < 2147483648) ∧ ((v48 = (-1) → Q (some (.int (zI 0))) T48) ∧ (¬ v48 = (-1) → Q (some (.int (zI 1))) T48))))))))) ∧ (l2 = 2 → gC (tP sa) lD b E d mX6_isOfKind [.ref (b + 0), .int (zI l1), .int (zI 11)] T (fun r T65 => pI r (fun v65 => (-2147483648 ≤ v65 ∧ v65 < 2147483648) ∧ ((v65 = 0 → Q (some (.int (zI 0))) T65) ∧ (¬ v65 = 0 → gC (tP sa) lD b E d mX6_isInlinable [.ref (b + 0), .int (zI l1)] T65 (fun r T73 => pI r (fun v73 => (-2147483648 ≤ v73 ∧ v73 < 2147483648) ∧ ((v73 = 0 → Q (some (.int (zI 0))) T73) ∧ (¬ v73 = 0 → Q (some (.int (zI 1))) T73))))))))) ∧ ((¬ l2 = 0 ∧ ¬ l2 = 1 ∧ ¬ l2 = 2) → gC (tP sa) lD b E d mX6_isOfKind [.ref (b + 0), .int (zI l1), .int (zI 5)] T (fun r T88 => pI r (fun v88 => (-2147483648 ≤ v88 ∧ v88 < 2147483648) ∧ ((v88 = 0 → Q (some (.int (zI 0))) T88) ∧ (¬ v88 = 0 → gC (tP sa) lD b E d mX6_isDroppable [.ref (b + 0), .int (zI l1)] T88 (fun r T96 => pI r (fun v96 => (-2147483648 ≤ v96 ∧ v96 < 2147483648) ∧ ((v96 = 0 → Q (some (.int (zI 0))) T96) ∧ (¬ v96 = 0 → Q (some (.int (zI 1))) T96))))))))))
set_option maxRecDepth 4000 in
theorem w_X6_isOfSort {sa : Nat → Nat} {b : Nat} {E : Nat × mH} {d : Nat} {l1 : Int} {l2 : Int} {T : gT} {Q : Option Value → gT → Prop} (h : f_X6_isOfSort sa b E d l1 l2 T Q) : gC (tP sa) lD b E (d + 1) mX6_isOfSort [.ref (b + 0), .int (zI l1), .int (zI l2)] T Q := by
  unfold f_X6_isOfSort at h
  refine ⟨Nat.le_of_ble_eq_true rfl, ?_⟩
  show gW (tP sa) lD b E (d + 1) mX6_isOfSort 0 [some (.ref (b + 0)), some (.int (zI l1)), some (.int (zI l2))] [] T Q
  refine g_iload_n dX6_isOfSort_0 rfl ?_
  obtain ⟨a1, h⟩ := h
  by_cases c9 : l2 = 0
  · replace h := h.1 c9
    refine g_tabC (c := 0) (off := 27) dX6_isOfSort_1 a1 c9 (by decide) rfl rfl ?_
    refine g_aload_n dX6_isOfSort_28 rfl ?_
    refine g_iload_n dX6_isOfSort_29 rfl ?_
    refine g_bipush (v := zI 11) dX6_isOfSort_30 (by decide) ?_
    refine g_callV [.ref (b + 0), .int (zI l1), .int (zI 11)] [] dX6_isOfSort_32 tG_6_143 tM_100 lD_0 rfl rfl rfl rfl (by decide) rfl ?_
    refine gC.mono h (Nat.le_refl _) ?_
    rintro _ T32 ⟨v32, rfl, h⟩
    obtain ⟨a2, h⟩ := h
    exact g_iret dX6_isOfSort_35 rfl (fit_z a2).1 h
  have n0_1 := c9
  by_cases c9 : l2 = 1
  · replace h := h.2.1 c9
    refine g_tabC (c := 1) (off := 35) dX6_isOfSort_1 a1 c9 (by decide) rfl rfl ?_
    refine g_aload_n dX6_isOfSort_36 rfl ?_
    refine g_iload_n dX6_isOfSort_37 rfl ?_
    refine g_bipush (v := zI 11) dX6_isOfSort_38 (by decide) ?_
    refine g_callV [.ref (b + 0), .int (zI l1), .int (zI 11)] [] dX6_isOfSort_40 tG_6_143 tM_100 lD_0 rfl rfl rfl rfl (by decide) rfl ?_
    refine gC.mono h (Nat.le_refl _) ?_
    rintro _ T40 ⟨v40, rfl, h⟩
    obtain ⟨a3, h⟩ := h
    refine g_if_eqZ dX6_isOfSort_43 rfl a3  (fun c43 => ?_) (fun c43 => ?_)
    · replace h := h.1 c43
      refine g_iconst (v := zI 0) dX6_isOfSort_59 (by decide) ?_
      exact g_iret dX6_isOfSort_60 rfl rfl h
    · replace h := h.2 c43
      refine g_aload_n dX6_isOfSort_46 rfl ?_
      refine g_iload_n dX6_isOfSort_47 rfl ?_
      refine g_callV [.ref (b + 0), .int (zI l1)] [] dX6_isOfSort_48 tG_6_147 tM_103 lD_0 rfl rfl rfl rfl (by decide) rfl ?_
      refine gC.mono h (Nat.le_refl _) ?_
      rintro _ T48 ⟨v48, rfl, h⟩
      refine g_iconst (v := zI (-1)) dX6_isOfSort_51 (by decide) ?_
      obtain ⟨a4, h⟩ := h
      refine g_icmp_eqZ dX6_isOfSort_52 rfl a4 (by decide) (fun c52 => ?_) (fun c52 => ?_)
      · replace h := h.1 c52
        refine g_iconst (v := zI 0) dX6_isOfSort_59 (by decide) ?_
        exact g_iret dX6_isOfSort_60 rfl rfl h
      · replace h := h.2 c52
        refine g_iconst (v := zI 1) dX6_isOfSort_55 (by decide) ?_
        refine g_goto dX6_isOfSort_56 rfl ?_
        exact g_iret dX6_isOfSort_60 rfl rfl h
  have n1_1 := c9
  by_cases c9 : l2 = 2
  · replace h := h.2.2.1 c9
    refine g_tabC (c := 2) (off := 60) dX6_isOfSort_1 a1 c9 (by decide) rfl rfl ?_
    refine g_aload_n dX6_isOfSort_61 rfl ?_
    refine g_iload_n dX6_isOfSort_62 rfl ?_
    refine g_bipush (v := zI 11) dX6_isOfSort_63 (by decide) ?_
    refine g_callV [.ref (b + 0), .int (zI l1), .int (zI 11)] [] dX6_isOfSort_65 tG_6_143 tM_100 lD_0 rfl rfl rfl rfl (by decide) rfl ?_
    refine gC.mono h (Nat.le_refl _) ?_
    rintro _ T65 ⟨v65, rfl, h⟩
    obtain ⟨a5, h⟩ := h
    refine g_if_eqZ dX6_isOfSort_68 rfl a5  (fun c68 => ?_) (fun c68 => ?_)
    · replace h := h.1 c68
      refine g_iconst (v := zI 0) dX6_isOfSort_83 (by decide) ?_
      exact g_iret dX6_isOfSort_84 rfl rfl h
    · replace h := h.2 c68
      refine g_aload_n dX6_isOfSort_71 rfl ?_
      refine g_iload_n dX6_isOfSort_72 rfl ?_
      refine g_callV [.ref (b + 0), .int (zI l1)] [] dX6_isOfSort_73 tG_6_164 tM_104 lD_0 rfl rfl rfl rfl (by decide) rfl ?_
      refine gC.mono h (Nat.le_refl _) ?_
      rintro _ T73 ⟨v73, rfl, h⟩
      obtain ⟨a6, h⟩ := h
      refine g_if_eqZ dX6_isOfSort_76 rfl a6  (fun c76 => ?_) (fun c76 => ?_)
      · replace h := h.1 c76
        refine g_iconst (v := zI 0) dX6_isOfSort_83 (by decide) ?_
        exact g_iret dX6_isOfSort_84 rfl rfl h
      · replace h := h.2 c76
        refine g_iconst (v := zI 1) dX6_isOfSort_79 (by decide) ?_
        refine g_goto dX6_isOfSort_80 rfl ?_
        exact g_iret dX6_isOfSort_84 rfl rfl h
  have n2_1 := c9
  replace h := h.2.2.2 ⟨n0_1, n1_1, n2_1⟩
  have o7 : ¬ (l2 < 0 ∨ 2 < l2) → (#[27, 35, 60] : Array Int)[(l2 - 0).toNat]? = some 84 := by
    intro o9
    exact absurd o9 (by omega)
  refine g_tabD dX6_isOfSort_1 a1 o7 rfl ?_
  refine g_aload_n dX6_isOfSort_85 rfl ?_
  refine g_iload_n dX6_isOfSort_86 rfl ?_
  refine g_iconst (v := zI 5) dX6_isOfSort_87 (by decide) ?_
  refine g_callV [.ref (b + 0), .int (zI l1), .int (zI 5)] [] dX6_isOfSort_88 tG_6_143 tM_100 lD_0 rfl rfl rfl rfl (by decide) rfl ?_
  refine gC.mono h (Nat.le_refl _) ?_
  rintro _ T88 ⟨v88, rfl, h⟩
  obtain ⟨a7, h⟩ := h
  refine g_if_eqZ dX6_isOfSort_91 rfl a7  (fun c91 => ?_) (fun c91 => ?_)
  · replace h := h.1 c91
    refine g_iconst (v := zI 0) dX6_isOfSort_106 (by decide) ?_
    exact g_iret dX6_isOfSort_107 rfl rfl h
  · replace h := h.2 c91
    refine g_aload_n dX6_isOfSort_94 rfl ?_
    refine g_iload_n dX6_isOfSort_95 rfl ?_
    refine g_callV [.ref (b + 0), .int (zI l1)] [] dX6_isOfSort_96 tG_6_182 tM_105 lD_0 rfl rfl rfl rfl (by decide) rfl ?_
    refine gC.mono h (Nat.le_refl _) ?_
    rintro _ T96 ⟨v96, rfl, h⟩
    obtain ⟨a8, h⟩ := h
    refine g_if_eqZ dX6_isOfSort_99 rfl a8  (fun c99 => ?_) (fun c99 => ?_)
    · replace h := h.1 c99
      refine g_iconst (v := zI 0) dX6_isOfSort_106 (by decide) ?_
      exact g_iret dX6_isOfSort_107 rfl rfl h
    · replace h := h.2 c99
      refine g_iconst (v := zI 1) dX6_isOfSort_102 (by decide) ?_
      refine g_goto dX6_isOfSort_103 rfl ?_
      exact g_iret dX6_isOfSort_107 rfl rfl h
