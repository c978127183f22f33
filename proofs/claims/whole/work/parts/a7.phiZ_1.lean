/-! thrown, and the class's type where it doesn't throw, by hand -/
def f_X7_thrown (sa : Nat → Nat) (b : Nat) (E : Nat × mH) (d : Nat) (T : gT) (Q : Option Value → gT → Prop) : Prop := Q (some (.int (zI (vI T 0 0)))) T
theorem w_X7_thrown {sa : Nat → Nat} {b : Nat} {E : Nat × mH} {d : Nat} {T : gT} {Q : Option Value → gT → Prop} (h : f_X7_thrown sa b E d T Q) : gC (tP sa) lM b E d mX7_thrown [.ref (b + 0)] T Q := by
  unfold f_X7_thrown at h
  refine ⟨Nat.le_of_ble_eq_true rfl, ?_⟩
  show gW (tP sa) lM b E d mX7_thrown 0 [some (.ref (b + 0))] [] T Q
  refine g_aload_n dX7_thrown_0 rfl ?_
  refine g_getZ (v := vI T 0 0) dX7_thrown_1 tF_7_97 lM_0 rfl (zI_v T 0 0) ?_
  exact g_iret dX7_thrown_4 rfl rfl h
def f_X6_type (sa : Nat → Nat) (b : Nat) (E : Nat × mH) (d : Nat) (l1 : Int64) (l3 : Int) (T : gT) (Q : Option Value → gT → Prop) : Prop := (0 ≤ l3 ∧ l3 ≤ 8) ∧ (0 ≤ vI T 0 1 ∧ vI T 0 1 + l3 ≤ 400) ∧ gW (tP sa) lD b E d mX6_type 45 [some (.ref (b + 0)), some (.long l1), none, some (.int (zI l3)), some (.int (zI 0))] [] T Q
set_option maxRecDepth 4000 in
theorem w_X6_type {sa : Nat → Nat} {b : Nat} {E : Nat × mH} {d : Nat} {l1 : Int64} {l3 : Int} {T : gT} {Q : Option Value → gT → Prop} (h : f_X6_type sa b E d l1 l3 T Q) : gC (tP sa) lD b E d mX6_type [.ref (b + 0), .long l1, .int (zI l3)] T Q := by
  unfold f_X6_type at h
  obtain ⟨a1, a2, h⟩ := h
  refine ⟨Nat.le_of_ble_eq_true rfl, ?_⟩
  show gW (tP sa) lD b E d mX6_type 0 [some (.ref (b + 0)), some (.long l1), none, some (.int (zI l3)), none] [] T Q
  refine g_iload_n dX6_type_0 rfl ?_
  refine g_if_ltZ dX6_type_1 rfl (by omega) (fun c => by omega) (fun c => ?_)
  refine g_iload_n dX6_type_4 rfl ?_
  refine g_bipush (v := zI 8) dX6_type_5 (by decide) ?_
  refine g_icmp_leZ dX6_type_7 rfl (by omega) (by decide) (fun c => ?_) (fun c => by omega)
  refine g_aload_n dX6_type_20 rfl ?_
  refine g_getZ (v := vI T 0 1) dX6_type_21 tF_6_58 lD_0 rfl (zI_v T 0 1) ?_
  refine g_iload_n dX6_type_24 rfl ?_
  refine g_iaddZ dX6_type_25 ?_
  refine g_sipush (v := zI 400) dX6_type_26 (by decide) ?_
  refine g_icmp_leZ dX6_type_29 rfl (by omega) (by decide) (fun c => ?_) (fun c => by omega)
  refine g_iconst (v := zI 0) dX6_type_42 (by decide) ?_
  refine g_istore (L' := [some (.ref (b + 0)), some (.long l1), none, some (.int (zI l3)), some (.int (zI 0))]) dX6_type_43 rfl ?_
  exact h
def f_X6_type_45 (sa : Nat → Nat) (b : Nat) (E : Nat × mH) (d : Nat) (l1 : Int64) (l3 : Int) (l4 : Int) (T : gT) (Q : Option Value → gT → Prop) : Prop := (-2147483648 ≤ l4 ∧ l4 < 2147483648) ∧ (-2147483648 ≤ l3 ∧ l3 < 2147483648) ∧ ((l3 ≤ l4 → Q (some (.int (zI (vI T 0 1 + l3)))) (gI T 0 1 (zI (vI T 0 1 + l3)))) ∧ (¬ l3 ≤ l4 → 0 ≤ vI T 0 1 + l4 ∧ vI T 0 1 + l4 < 400 ∧ gW (tP sa) lD b E d mX6_type 45 [some (.ref (b + 0)), some (.long l1), none, some (.int (zI l3)), some (.int (zI (l4 + 1)))] [] (gI T 1 (vI T 0 1 + l4).toNat (vp_nar .byte (zI ((zI ((l1.toUInt64 >>> ((zI (8 * l4)).toInt64.toUInt64 &&& Int64.toUInt64 63)).toInt64.toInt32.toInt)).toInt8.toInt32.toInt)))) Q))
set_option maxRecDepth 4000 in
theorem w_X6_type_45 {sa : Nat → Nat} {b : Nat} {E : Nat × mH} {d : Nat} {l1 : Int64} {l3 : Int} {l4 : Int} {T : gT} {Q : Option Value → gT → Prop} (h : f_X6_type_45 sa b E d l1 l3 l4 T Q) : gW (tP sa) lD b E d mX6_type 45 [some (.ref (b + 0)), some (.long l1), none, some (.int (zI l3)), some (.int (zI l4))] [] T Q := by
  unfold f_X6_type_45 at h
  obtain ⟨a1, a2, h⟩ := h
  refine g_iload dX6_type_45 rfl ?_
  refine g_iload_n dX6_type_47 rfl ?_
  refine g_icmp_geZ dX6_type_48 rfl a1 a2 (fun c48 => ?_) (fun c48 => ?_)
  · replace h := h.1 c48
    refine g_aload_n dX6_type_78 rfl ?_
    refine g_dup dX6_type_79 rfl ?_
    refine g_getZ (v := vI T 0 1) dX6_type_80 tF_6_58 lD_0 rfl (zI_v T 0 1) ?_
    refine g_iload_n dX6_type_83 rfl ?_
    refine g_iaddZ dX6_type_84 ?_
    refine g_putI dX6_type_85 tF_6_58 lD_0 rfl rfl ⟨rfl, rfl⟩ rfl ?_
    refine g_aload_n dX6_type_88 rfl ?_
    refine g_getZ (v := vI T 0 1 + l3) dX6_type_89 tF_6_58 lD_0 rfl (by rw [gI_I, if_pos ⟨rfl, rfl⟩]) ?_
    exact g_iret dX6_type_92 rfl rfl h
  · obtain ⟨a3, a4, h⟩ := h.2 c48
    refine g_aload_n dX6_type_51 rfl ?_
    refine g_getR dX6_type_52 tF_6_9 lD_0 rfl ?_
    refine g_aload_n dX6_type_55 rfl ?_
    refine g_getZ (v := vI T 0 1) dX6_type_56 tF_6_58 lD_0 rfl (zI_v T 0 1) ?_
    refine g_iload dX6_type_59 rfl ?_
    refine g_iaddZ dX6_type_61 ?_
    refine g_lload_n dX6_type_62 rfl ?_
    refine g_bipush (v := zI 8) dX6_type_63 (by decide) ?_
    refine g_iload dX6_type_65 rfl ?_
    refine g_imulZ dX6_type_67 ?_
    refine g_lushr dX6_type_68 ?_
    refine g_l2iZ dX6_type_69 ?_
    refine g_i2bZ dX6_type_70 ?_
    refine g_bastZ dX6_type_71 lD_1 a3 a4 (by decide) ?_
    refine g_iinc (x := zI l4) (v := zI (l4 + 1)) (L' := [some (.ref (b + 0)), some (.long l1), none, some (.int (zI l3)), some (.int (zI (l4 + 1)))]) dX6_type_72 rfl (zI_add _ _) rfl ?_
    refine g_goto dX6_type_75 rfl ?_
    exact h
