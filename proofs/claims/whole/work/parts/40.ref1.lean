/-! THE REFERENCE: its small methods (printed by wip/whole/ref1.py) -/
theorem c_at (sa : Nat → Nat) (b : Nat) (E : Nat × mH) (d : Nat) (T : gT) (p l w : Nat) (hq : 7 * (200 * p + l) + w < 2800) : gC (tP sa) lM b E (d) mX7_at [.ref (b + 0), .int (nI (p)), .int (nI (l)), .int (nI (w))] T (fun r T' => r = some (.int (T.1 4 (7 * (200 * p + l) + w))) ∧ T' = T) := by
  refine ⟨Nat.le_of_ble_eq_true rfl, ?_⟩
  refine g_aload_n dX7_at_0 rfl ?_
  refine g_getR dX7_at_1 tF_7_20 lM_0 rfl ?_
  refine g_bipush (v := nI 7) dX7_at_4 (by decide) ?_
  refine g_sipush (v := nI 200) dX7_at_6 (by decide) ?_
  refine g_iload_n dX7_at_9 rfl ?_
  refine g_imulN dX7_at_10 ?_
  refine g_iload_n dX7_at_11 rfl ?_
  refine g_iaddN dX7_at_12 ?_
  refine g_imulN dX7_at_13 ?_
  refine g_iload_n dX7_at_14 rfl ?_
  refine g_iaddN dX7_at_15 ?_
  refine g_ialdv dX7_at_16 lM_4 (by omega) (by decide) rfl ?_
  exact g_iret dX7_at_17 rfl rfl ⟨rfl, rfl⟩
theorem c_get (sa : Nat → Nat) (b : Nat) (E : Nat × mH) (d : Nat) (T : gT) {p : Nat} (l w : Nat) (hp : T.1 0 3 = nI p) (hp1 : p < 2) (hl : l < 200) (hw : w < 7) : gC (tP sa) lM b E (d + 1) mX7_get [.ref (b + 0), .int (nI (l)), .int (nI (w))] T (fun r T' => r = some (.int (T.1 4 (7 * (200 * p + l) + w))) ∧ T' = T) := by
  refine ⟨Nat.le_of_ble_eq_true rfl, ?_⟩
  refine g_aload_n dX7_get_0 rfl ?_
  refine g_aload_n dX7_get_1 rfl ?_
  refine g_getIv (v := (nI (p))) dX7_get_2 tF_7_101 lM_0 rfl hp ?_
  refine g_iload_n dX7_get_5 rfl ?_
  refine g_iload_n dX7_get_6 rfl ?_
  refine g_callV [.ref (b + 0), .int (nI (p)), .int (nI (l)), .int (nI (w))] [] dX7_get_7 tG_7_104 tM_112 lM_0 rfl rfl rfl rfl (by decide) rfl ?_
  refine gC.mono (c_at sa b E _ T (p) (l) (w) (by omega)) (Nat.le_refl _) ?_
  rintro _ _ ⟨rfl, h9⟩
  obtain rfl := h9.symm
  exact g_iret dX7_get_10 rfl rfl ⟨rfl, rfl⟩
theorem c_set (sa : Nat → Nat) (b : Nat) (E : Nat × mH) (d : Nat) (T : gT) (p l w : Nat) (x : Int32) (hq : 7 * (200 * p + l) + w < 2800) : gC (tP sa) lM b E (d) mX7_set [.ref (b + 0), .int (nI (p)), .int (nI (l)), .int (nI (w)), .int (x)] T (fun r T' => r = none ∧ T' = gI T 4 (7 * (200 * p + l) + w) x) := by
  refine ⟨Nat.le_of_ble_eq_true rfl, ?_⟩
  refine g_aload_n dX7_set_0 rfl ?_
  refine g_getR dX7_set_1 tF_7_20 lM_0 rfl ?_
  refine g_bipush (v := nI 7) dX7_set_4 (by decide) ?_
  refine g_sipush (v := nI 200) dX7_set_6 (by decide) ?_
  refine g_iload_n dX7_set_9 rfl ?_
  refine g_imulN dX7_set_10 ?_
  refine g_iload_n dX7_set_11 rfl ?_
  refine g_iaddN dX7_set_12 ?_
  refine g_imulN dX7_set_13 ?_
  refine g_iload_n dX7_set_14 rfl ?_
  refine g_iaddN dX7_set_15 ?_
  refine g_iload dX7_set_16 rfl ?_
  refine g_iastN dX7_set_18 lM_4 (by omega) (by decide) ?_
  exact g_vret dX7_set_19 rfl ⟨rfl, rfl⟩
theorem c_thrown (sa : Nat → Nat) (b : Nat) (E : Nat × mH) (d : Nat) (T : gT)   : gC (tP sa) lM b E (d) mX7_thrown [.ref (b + 0)] T (fun r T' => r = some (.int (T.1 0 0)) ∧ T' = T) := by
  refine ⟨Nat.le_of_ble_eq_true rfl, ?_⟩
  refine g_aload_n dX7_thrown_0 rfl ?_
  refine g_getI dX7_thrown_1 tF_7_97 lM_0 rfl ?_
  exact g_iret dX7_thrown_4 rfl rfl ⟨rfl, rfl⟩
theorem c_begin (sa : Nat → Nat) (b : Nat) (E : Nat × mH) (d : Nat) (T : gT) (p n : Nat) (k v u : Int32) (hp : p < 2) (hn : n < 200) (he : T.1 2 p = nI n) : gC (tP sa) lM b E (d + 1) mX7_begin [.ref (b + 0), .int (nI (p)), .int (k), .int (v), .int (u)] T (fun r T' => r = some (.int (nI n)) ∧ T' = mBeg T p n k v u) := by
  refine ⟨Nat.le_of_ble_eq_true rfl, ?_⟩
  refine g_aload_n dX7_begin_0 rfl ?_
  refine g_getR dX7_begin_1 tF_7_13 lM_0 rfl ?_
  refine g_iload_n dX7_begin_4 rfl ?_
  refine g_ialdv dX7_begin_5 lM_2 (by omega) (by decide) he ?_
  refine g_istore dX7_begin_6 rfl ?_
  refine g_aload_n dX7_begin_8 rfl ?_
  refine g_getR dX7_begin_9 tF_7_13 lM_0 rfl ?_
  refine g_iload_n dX7_begin_12 rfl ?_
  refine g_dup2 dX7_begin_13 rfl rfl ?_
  refine g_ialdv dX7_begin_14 lM_2 (by omega) (by decide) he ?_
  refine g_iconst (v := nI 1) dX7_begin_15 (by decide) ?_
  refine g_iaddN dX7_begin_16 ?_
  refine g_iastN dX7_begin_17 lM_2 (by omega) (by decide) ?_
  refine g_aload_n dX7_begin_18 rfl ?_
  refine g_iload_n dX7_begin_19 rfl ?_
  refine g_iload dX7_begin_20 rfl ?_
  refine g_iconst (v := nI 0) dX7_begin_22 (by decide) ?_
  refine g_iload_n dX7_begin_23 rfl ?_
  refine g_callV [.ref (b + 0), .int (nI (p)), .int (nI (n)), .int (nI (0)), .int (k)] [] dX7_begin_24 tG_7_108 tM_114 lM_0 rfl rfl rfl rfl (by decide) rfl ?_
  refine gC.mono (c_set sa b E _ (gI T 2 (p) (nI (n + 1))) (p) (n) (0) (k) (by omega)) (Nat.le_refl _) ?_
  rintro _ _ ⟨rfl, h9⟩
  obtain rfl := h9.symm
  refine g_aload_n dX7_begin_27 rfl ?_
  refine g_iload_n dX7_begin_28 rfl ?_
  refine g_iload dX7_begin_29 rfl ?_
  refine g_iconst (v := nI 1) dX7_begin_31 (by decide) ?_
  refine g_iload_n dX7_begin_32 rfl ?_
  refine g_callV [.ref (b + 0), .int (nI (p)), .int (nI (n)), .int (nI (1)), .int (v)] [] dX7_begin_33 tG_7_108 tM_114 lM_0 rfl rfl rfl rfl (by decide) rfl ?_
  refine gC.mono (c_set sa b E _ (gI (gI T 2 (p) (nI (n + 1))) 4 (7 * (200 * (p) + (n)) + (0)) (k)) (p) (n) (1) (v) (by omega)) (Nat.le_refl _) ?_
  rintro _ _ ⟨rfl, h9⟩
  obtain rfl := h9.symm
  refine g_aload_n dX7_begin_36 rfl ?_
  refine g_iload_n dX7_begin_37 rfl ?_
  refine g_iload dX7_begin_38 rfl ?_
  refine g_iconst (v := nI 2) dX7_begin_40 (by decide) ?_
  refine g_iconst (v := (-1)) dX7_begin_41 (by decide) ?_
  refine g_callV [.ref (b + 0), .int (nI (p)), .int (nI (n)), .int (nI (2)), .int (-1)] [] dX7_begin_42 tG_7_108 tM_114 lM_0 rfl rfl rfl rfl (by decide) rfl ?_
  refine gC.mono (c_set sa b E _ (gI (gI (gI T 2 (p) (nI (n + 1))) 4 (7 * (200 * (p) + (n)) + (0)) (k)) 4 (7 * (200 * (p) + (n)) + (1)) (v)) (p) (n) (2) (-1) (by omega)) (Nat.le_refl _) ?_
  rintro _ _ ⟨rfl, h9⟩
  obtain rfl := h9.symm
  refine g_aload_n dX7_begin_45 rfl ?_
  refine g_iload_n dX7_begin_46 rfl ?_
  refine g_iload dX7_begin_47 rfl ?_
  refine g_iconst (v := nI 3) dX7_begin_49 (by decide) ?_
  refine g_iconst (v := (-1)) dX7_begin_50 (by decide) ?_
  refine g_callV [.ref (b + 0), .int (nI (p)), .int (nI (n)), .int (nI (3)), .int (-1)] [] dX7_begin_51 tG_7_108 tM_114 lM_0 rfl rfl rfl rfl (by decide) rfl ?_
  refine gC.mono (c_set sa b E _ (gI (gI (gI (gI T 2 (p) (nI (n + 1))) 4 (7 * (200 * (p) + (n)) + (0)) (k)) 4 (7 * (200 * (p) + (n)) + (1)) (v)) 4 (7 * (200 * (p) + (n)) + (2)) (-1)) (p) (n) (3) (-1) (by omega)) (Nat.le_refl _) ?_
  rintro _ _ ⟨rfl, h9⟩
  obtain rfl := h9.symm
  refine g_aload_n dX7_begin_54 rfl ?_
  refine g_iload_n dX7_begin_55 rfl ?_
  refine g_iload dX7_begin_56 rfl ?_
  refine g_iconst (v := nI 4) dX7_begin_58 (by decide) ?_
  refine g_iconst (v := (-1)) dX7_begin_59 (by decide) ?_
  refine g_callV [.ref (b + 0), .int (nI (p)), .int (nI (n)), .int (nI (4)), .int (-1)] [] dX7_begin_60 tG_7_108 tM_114 lM_0 rfl rfl rfl rfl (by decide) rfl ?_
  refine gC.mono (c_set sa b E _ (gI (gI (gI (gI (gI T 2 (p) (nI (n + 1))) 4 (7 * (200 * (p) + (n)) + (0)) (k)) 4 (7 * (200 * (p) + (n)) + (1)) (v)) 4 (7 * (200 * (p) + (n)) + (2)) (-1)) 4 (7 * (200 * (p) + (n)) + (3)) (-1)) (p) (n) (4) (-1) (by omega)) (Nat.le_refl _) ?_
  rintro _ _ ⟨rfl, h9⟩
  obtain rfl := h9.symm
  refine g_aload_n dX7_begin_63 rfl ?_
  refine g_iload_n dX7_begin_64 rfl ?_
  refine g_iload dX7_begin_65 rfl ?_
  refine g_iconst (v := nI 5) dX7_begin_67 (by decide) ?_
  refine g_iconst (v := (-1)) dX7_begin_68 (by decide) ?_
  refine g_callV [.ref (b + 0), .int (nI (p)), .int (nI (n)), .int (nI (5)), .int (-1)] [] dX7_begin_69 tG_7_108 tM_114 lM_0 rfl rfl rfl rfl (by decide) rfl ?_
  refine gC.mono (c_set sa b E _ (gI (gI (gI (gI (gI (gI T 2 (p) (nI (n + 1))) 4 (7 * (200 * (p) + (n)) + (0)) (k)) 4 (7 * (200 * (p) + (n)) + (1)) (v)) 4 (7 * (200 * (p) + (n)) + (2)) (-1)) 4 (7 * (200 * (p) + (n)) + (3)) (-1)) 4 (7 * (200 * (p) + (n)) + (4)) (-1)) (p) (n) (5) (-1) (by omega)) (Nat.le_refl _) ?_
  rintro _ _ ⟨rfl, h9⟩
  obtain rfl := h9.symm
  refine g_aload_n dX7_begin_72 rfl ?_
  refine g_iload_n dX7_begin_73 rfl ?_
  refine g_iload dX7_begin_74 rfl ?_
  refine g_bipush (v := nI 6) dX7_begin_76 (by decide) ?_
  refine g_iload dX7_begin_78 rfl ?_
  refine g_callV [.ref (b + 0), .int (nI (p)), .int (nI (n)), .int (nI (6)), .int (u)] [] dX7_begin_80 tG_7_108 tM_114 lM_0 rfl rfl rfl rfl (by decide) rfl ?_
  refine gC.mono (c_set sa b E _ (gI (gI (gI (gI (gI (gI (gI T 2 (p) (nI (n + 1))) 4 (7 * (200 * (p) + (n)) + (0)) (k)) 4 (7 * (200 * (p) + (n)) + (1)) (v)) 4 (7 * (200 * (p) + (n)) + (2)) (-1)) 4 (7 * (200 * (p) + (n)) + (3)) (-1)) 4 (7 * (200 * (p) + (n)) + (4)) (-1)) 4 (7 * (200 * (p) + (n)) + (5)) (-1)) (p) (n) (6) (u) (by omega)) (Nat.le_refl _) ?_
  rintro _ _ ⟨rfl, h9⟩
  obtain rfl := h9.symm
  refine g_iload dX7_begin_83 rfl ?_
  exact g_iret dX7_begin_85 rfl rfl ⟨rfl, rfl⟩
theorem c_peek (sa : Nat → Nat) (b : Nat) (E : Nat × mH) (d : Nat) (T : gT) {u : Nat → Nat} {n p : Nat} (hx : mTx T 1 u) (hp : T.1 0 20 = nI p) (hn : T.1 0 2 = nI n) (hn4 : n ≤ 400) (hp4 : p < 1000) : gC (tP sa) lM b E (d) mX7_peek [.ref (b + 0)] T (fun r T' => r = some (.int (mCh (ck u n p))) ∧ T' = T) := by
  refine ⟨Nat.le_of_ble_eq_true rfl, ?_⟩
  refine g_aload_n dX7_peek_0 rfl ?_
  refine g_getIv (v := (nI (p))) dX7_peek_1 tF_7_112 lM_0 rfl hp ?_
  refine g_aload_n dX7_peek_4 rfl ?_
  refine g_getIv (v := (nI (n))) dX7_peek_5 tF_7_115 lM_0 rfl hn ?_
  refine g_icmp_geN dX7_peek_8 rfl (by omega) (by omega) (fun h8 => ?_) (fun h8 => ?_)
  · skip
    refine g_iconst (v := (-1)) dX7_peek_27 (by decide) ?_
    exact g_iret dX7_peek_28 rfl rfl ⟨congrArg some (congrArg Value.int (mCh_out h8)), rfl⟩
  · skip
    refine g_aload_n dX7_peek_11 rfl ?_
    refine g_getR dX7_peek_12 tF_7_7 lM_0 rfl ?_
    refine g_aload_n dX7_peek_15 rfl ?_
    refine g_getIv (v := (nI (p))) dX7_peek_16 tF_7_112 lM_0 rfl hp ?_
    refine g_baldv dX7_peek_19 lM_1 (by omega) (by decide) (hx p (by omega)).2 ?_
    refine g_sipush (v := nI 255) dX7_peek_20 (by decide) ?_
    refine g_iand dX7_peek_23 ?_
    refine g_goto dX7_peek_24 rfl ?_
    exact g_iret dX7_peek_28 rfl rfl ⟨congrArg some (congrArg Value.int (mCh_in h8 (hx p (by omega)).1)), rfl⟩
theorem c_peekBehind (sa : Nat → Nat) (b : Nat) (E : Nat × mH) (d : Nat) (T : gT) {u : Nat → Nat} {n p : Nat} (hx : mTx T 1 u) (hp : T.1 0 20 = nI p) (hn : T.1 0 2 = nI n) (hn4 : n ≤ 400) (hp4 : p < 1000) : gC (tP sa) lM b E (d) mX7_peekBehind [.ref (b + 0)] T (fun r T' => r = some (.int (mCh (ck u n (p + 1)))) ∧ T' = T) := by
  refine ⟨Nat.le_of_ble_eq_true rfl, ?_⟩
  refine g_aload_n dX7_peekBehind_0 rfl ?_
  refine g_getIv (v := (nI (p))) dX7_peekBehind_1 tF_7_112 lM_0 rfl hp ?_
  refine g_iconst (v := nI 1) dX7_peekBehind_4 (by decide) ?_
  refine g_iaddN dX7_peekBehind_5 ?_
  refine g_aload_n dX7_peekBehind_6 rfl ?_
  refine g_getIv (v := (nI (n))) dX7_peekBehind_7 tF_7_115 lM_0 rfl hn ?_
  refine g_icmp_geN dX7_peekBehind_10 rfl (by omega) (by omega) (fun h10 => ?_) (fun h10 => ?_)
  · skip
    refine g_iconst (v := (-1)) dX7_peekBehind_31 (by decide) ?_
    exact g_iret dX7_peekBehind_32 rfl rfl ⟨congrArg some (congrArg Value.int (mCh_out h10)), rfl⟩
  · skip
    refine g_aload_n dX7_peekBehind_13 rfl ?_
    refine g_getR dX7_peekBehind_14 tF_7_7 lM_0 rfl ?_
    refine g_aload_n dX7_peekBehind_17 rfl ?_
    refine g_getIv (v := (nI (p))) dX7_peekBehind_18 tF_7_112 lM_0 rfl hp ?_
    refine g_iconst (v := nI 1) dX7_peekBehind_21 (by decide) ?_
    refine g_iaddN dX7_peekBehind_22 ?_
    refine g_baldv dX7_peekBehind_23 lM_1 (by omega) (by decide) (hx (p + 1) (by omega)).2 ?_
    refine g_sipush (v := nI 255) dX7_peekBehind_24 (by decide) ?_
    refine g_iand dX7_peekBehind_27 ?_
    refine g_goto dX7_peekBehind_28 rfl ?_
    exact g_iret dX7_peekBehind_32 rfl rfl ⟨congrArg some (congrArg Value.int (mCh_in h10 (hx (p + 1) (by omega)).1)), rfl⟩
theorem c_isLetter (sa : Nat → Nat) (b : Nat) (E : Nat × mH) (d : Nat) (T : gT) (x : Int32)  : gC (tP sa) lM b E (d) mX7_isLetter [.int (x)] T (fun r T' => r = some (.int (if xL x = true then 1 else 0)) ∧ T' = T) := by
  refine ⟨Nat.le_of_ble_eq_true rfl, ?_⟩
  refine g_iload_n dX7_isLetter_0 rfl ?_
  refine g_bipush (v := nI 97) dX7_isLetter_1 (by decide) ?_
  refine g_icmp_lt dX7_isLetter_3 rfl (fun h3 => ?_) (fun h3 => ?_)
  · skip
    refine g_iconst (v := nI 0) dX7_isLetter_16 (by decide) ?_
    exact g_iret dX7_isLetter_17 rfl rfl ⟨by first | (rw [if_neg (xL_a h3)]; rfl) | (rw [if_neg (xL_b h9)]; rfl), rfl⟩
  · skip
    refine g_iload_n dX7_isLetter_6 rfl ?_
    refine g_bipush (v := nI 122) dX7_isLetter_7 (by decide) ?_
    refine g_icmp_gt dX7_isLetter_9 rfl (fun h9 => ?_) (fun h9 => ?_)
    · skip
      refine g_iconst (v := nI 0) dX7_isLetter_16 (by decide) ?_
      exact g_iret dX7_isLetter_17 rfl rfl ⟨by first | (rw [if_neg (xL_a h3)]; rfl) | (rw [if_neg (xL_b h9)]; rfl), rfl⟩
    · skip
      refine g_iconst (v := nI 1) dX7_isLetter_12 (by decide) ?_
      refine g_goto dX7_isLetter_13 rfl ?_
      exact g_iret dX7_isLetter_17 rfl rfl ⟨by rw [if_pos (xL_c h3 h9)]; rfl, rfl⟩
theorem c_isDigit (sa : Nat → Nat) (b : Nat) (E : Nat × mH) (d : Nat) (T : gT) (x : Int32)  : gC (tP sa) lM b E (d) mX7_isDigit [.int (x)] T (fun r T' => r = some (.int (if xD x = true then 1 else 0)) ∧ T' = T) := by
  refine ⟨Nat.le_of_ble_eq_true rfl, ?_⟩
  refine g_iload_n dX7_isDigit_0 rfl ?_
  refine g_bipush (v := nI 48) dX7_isDigit_1 (by decide) ?_
  refine g_icmp_lt dX7_isDigit_3 rfl (fun h3 => ?_) (fun h3 => ?_)
  · skip
    refine g_iconst (v := nI 0) dX7_isDigit_16 (by decide) ?_
    exact g_iret dX7_isDigit_17 rfl rfl ⟨by first | (rw [if_neg (xD_a h3)]; rfl) | (rw [if_neg (xD_b h9)]; rfl), rfl⟩
  · skip
    refine g_iload_n dX7_isDigit_6 rfl ?_
    refine g_bipush (v := nI 57) dX7_isDigit_7 (by decide) ?_
    refine g_icmp_gt dX7_isDigit_9 rfl (fun h9 => ?_) (fun h9 => ?_)
    · skip
      refine g_iconst (v := nI 0) dX7_isDigit_16 (by decide) ?_
      exact g_iret dX7_isDigit_17 rfl rfl ⟨by first | (rw [if_neg (xD_a h3)]; rfl) | (rw [if_neg (xD_b h9)]; rfl), rfl⟩
    · skip
      refine g_iconst (v := nI 1) dX7_isDigit_12 (by decide) ?_
      refine g_goto dX7_isDigit_13 rfl ?_
      exact g_iret dX7_isDigit_17 rfl rfl ⟨by rw [if_pos (xD_c h3 h9)]; rfl, rfl⟩
