/-! THE REFERENCE: reads and writes of its cells -/
theorem c_at (sa : Nat → Nat) (b : Nat) (E : Nat × mH) (d : Nat) (T : gT) (p l w : Int32) {q : Nat} (hq : mIx (7 * (200 * p + l) + w) 2800 = some q) : gC (tP sa) lM b E d mX7_at [.ref (b + 0), .int p, .int l, .int w] T (fun r T' => r = some (.int (T.1 4 q)) ∧ T' = T) := by
  refine ⟨Nat.le_of_ble_eq_true rfl, ?_⟩
  refine g_aload_n (x := b + 0) dX7_at_0 rfl ?_
  refine g_getR dX7_at_1 tF_7_20 lM_0 rfl ?_
  refine g_bipush (v := 7) dX7_at_4 rfl ?_
  refine g_sipush (v := 200) dX7_at_6 rfl ?_
  refine g_iload_n dX7_at_9 rfl ?_
  refine g_imul dX7_at_10 ?_
  refine g_iload_n dX7_at_11 rfl ?_
  refine g_iadd dX7_at_12 ?_
  refine g_imul dX7_at_13 ?_
  refine g_iload_n dX7_at_14 rfl ?_
  refine g_iadd dX7_at_15 ?_
  refine g_iald dX7_at_16 lM_4 hq ?_
  exact g_iret dX7_at_17 rfl rfl ⟨rfl, rfl⟩
