/-! THE REFERENCE: its small methods (printed by wip/whole/ref1.py) -/
theorem c_at (sa : Nat → Nat) (b : Nat) (E : Nat × mH) (d : Nat) (T : gT) (p l w : Nat) (hq : 7 * (200 * p + l) + w < 2800) : gC (tP sa) lM b E (d) mX7_at [.ref (b + 0), .int (nI (p)), .int (nI (l)), .int (nI (w))] T (fun r T' => r = some (.int (T.1 4 (7 * (200 * p + l) + w))) ∧ T' = T) := by
  refine ⟨Nat.le_of_ble_eq_true rfl, ?_⟩
  refine g_aload_n dX7_at_0 rfl ?_
  refine g_getR dX7_at_1 tF_7_20 lM_0 rfl ?_
  refine g_bipush (v := nI 7) dX7_at_4 (by decide) ?_
  refine g_sipush (v := nI 200) dX7_at_6 (by decide) ?_
  refine g_iload_n dX7_at_9 rfl ?_
  refine g_imulN dX7_at_10 ?_
  refine g_iload_n dX7_at_11 rfl ?_
  refine g_iaddN dX7_at_12 ?_
  refine g_imulN dX7_at_13 ?_
  refine g_iload_n dX7_at_14 rfl ?_
  refine g_iaddN dX7_at_15 ?_
  refine g_ialdv dX7_at_16 lM_4 (by omega) (by decide) rfl ?_
  exact g_iret dX7_at_17 rfl rfl ⟨rfl, rfl⟩
theorem c_get (sa : Nat → Nat) (b : Nat) (E : Nat × mH) (d : Nat) (T : gT) {p : Nat} (l w : Nat) (hp : T.1 0 3 = nI p) (hp1 : p < 2) (hl : l < 200) (hw : w < 7) : gC (tP sa) lM b E (d + 1) mX7_get [.ref (b + 0), .int (nI (l)), .int (nI (w))] T (fun r T' => r = some (.int (T.1 4 (7 * (200 * p + l) + w))) ∧ T' = T) := by
  refine ⟨Nat.le_of_ble_eq_true rfl, ?_⟩
  refine g_aload_n dX7_get_0 rfl ?_
  refine g_aload_n dX7_get_1 rfl ?_
  refine g_getIv (v := (nI (p))) dX7_get_2 tF_7_101 lM_0 rfl hp ?_
  refine g_iload_n dX7_get_5 rfl ?_
  refine g_iload_n dX7_get_6 rfl ?_
  refine g_callV [.ref (b + 0), .int (nI (p)), .int (nI (l)), .int (nI (w))] [] dX7_get_7 tG_7_104 tM_112 lM_0 rfl rfl rfl rfl (by decide) rfl ?_
  refine gC.mono (c_at sa b E _ T (p) (l) (w) (by omega)) (Nat.le_refl _) ?_
  rintro _ _ ⟨rfl, rfl⟩
  exact g_iret dX7_get_10 rfl rfl ⟨rfl, rfl⟩
theorem c_set (sa : Nat → Nat) (b : Nat) (E : Nat × mH) (d : Nat) (T : gT) (p l w : Nat) (x : Int32) (hq : 7 * (200 * p + l) + w < 2800) : gC (tP sa) lM b E (d) mX7_set [.ref (b + 0), .int (nI (p)), .int (nI (l)), .int (nI (w)), .int (x)] T (fun r T' => r = none ∧ T' = gI T 4 (7 * (200 * p + l) + w) x) := by
  refine ⟨Nat.le_of_ble_eq_true rfl, ?_⟩
  refine g_aload_n dX7_set_0 rfl ?_
  refine g_getR dX7_set_1 tF_7_20 lM_0 rfl ?_
  refine g_bipush (v := nI 7) dX7_set_4 (by decide) ?_
  refine g_sipush (v := nI 200) dX7_set_6 (by decide) ?_
  refine g_iload_n dX7_set_9 rfl ?_
  refine g_imulN dX7_set_10 ?_
  refine g_iload_n dX7_set_11 rfl ?_
  refine g_iaddN dX7_set_12 ?_
  refine g_imulN dX7_set_13 ?_
  refine g_iload_n dX7_set_14 rfl ?_
  refine g_iaddN dX7_set_15 ?_
  refine g_iload dX7_set_16 rfl ?_
  refine g_iastN dX7_set_18 lM_4 (by omega) (by decide) ?_
  exact g_vret dX7_set_19 rfl ⟨rfl, rfl⟩
