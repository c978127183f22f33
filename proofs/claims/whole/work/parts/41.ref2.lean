/-! THE REFERENCE: blanks, fail, wordEnd (printed by wip/whole/ref2.py) -/
theorem c_blanks_lp (sa : Nat → Nat) (b : Nat) (E : Nat × mH) (d : Nat) {u : Nat → Nat} {n : Nat} (hn4 : n ≤ 400) : ∀ (k p : Nat) (T : gT), mTx T 1 u → T.1 0 20 = nI p → T.1 0 2 = nI n → p < 1000 → n - p = k → gW (tP sa) lM b E (d + 1) mX7_blanks 0 [some (.ref (b + 0))] [] T (fun r T' => r = none ∧ T' = gI T 0 20 (nI (sk u n p))) := by
  intro k
  induction k using Nat.strongRecOn with
  | ind k ih =>
    intro p T hx hp hn hp4 hk
    subst hk
    refine g_aload_n dX7_blanks_0 rfl ?_
    refine g_callV [.ref (b + 0)] [] dX7_blanks_1 tG_7_118 tM_116 lM_0 rfl rfl rfl rfl (by decide) rfl ?_
    refine gC.mono (c_peek sa b E _ T (n := n) (p := p) hx hp hn hn4 (by omega)) (Nat.le_refl _) ?_
    rintro _ _ ⟨rfl, h9⟩
    obtain rfl := h9.symm
    refine g_bipush (v := nI 32) dX7_blanks_4 (by decide) ?_
    refine g_icmp_eq dX7_blanks_6 rfl (fun h6 => ?_) (fun h6 => ?_)
    · skip
      have hb := pk_is hx hn4 (c := 32) (by decide) h6
      have hb2 : u p = 32 ∨ u p = 10 := Or.inl hb.2
      have hlt := hb.1
      refine g_aload_n dX7_blanks_18 rfl ?_
      refine g_dup dX7_blanks_19 rfl ?_
      refine g_getIv (v := (nI (p))) dX7_blanks_20 tF_7_112 lM_0 rfl hp ?_
      refine g_iconst (v := nI 1) dX7_blanks_23 (by decide) ?_
      refine g_iaddN dX7_blanks_24 ?_
      refine g_putI dX7_blanks_25 tF_7_112 lM_0 rfl rfl ⟨rfl, rfl⟩ rfl ?_
      refine g_goto dX7_blanks_28 rfl ?_
      refine gW.mono (ih (n - (p + 1)) (by omega) (p + 1) (gI T 0 20 (nI (p + 1))) hx rfl hn (by omega) rfl) (Nat.le_refl _) ?_
      rintro _ _ ⟨rfl, h9⟩
      obtain rfl := h9.symm
      exact ⟨rfl, by rw [gI_gI, sk_y hlt hb2]⟩
    · skip
      refine g_aload_n dX7_blanks_9 rfl ?_
      refine g_callV [.ref (b + 0)] [] dX7_blanks_10 tG_7_118 tM_116 lM_0 rfl rfl rfl rfl (by decide) rfl ?_
      refine gC.mono (c_peek sa b E _ T (n := n) (p := p) hx hp hn hn4 (by omega)) (Nat.le_refl _) ?_
      rintro _ _ ⟨rfl, h9⟩
      obtain rfl := h9.symm
      refine g_bipush (v := nI 10) dX7_blanks_13 (by decide) ?_
      refine g_icmp_ne dX7_blanks_15 rfl (fun h15 => ?_) (fun h15 => ?_)
      · skip
        exact g_vret dX7_blanks_31 rfl ⟨rfl, by rw [sk_n (fun z => z.2.elim (fun q => pk_no hx hn4 (by decide) h6 ⟨z.1, q⟩) (fun q => pk_no hx hn4 (by decide) h15 ⟨z.1, q⟩))]; exact (gI_same hp).symm⟩
      · skip
        have hb := pk_is hx hn4 (c := 10) (by decide) h15
        have hb2 : u p = 32 ∨ u p = 10 := Or.inr hb.2
        have hlt := hb.1
        refine g_aload_n dX7_blanks_18 rfl ?_
        refine g_dup dX7_blanks_19 rfl ?_
        refine g_getIv (v := (nI (p))) dX7_blanks_20 tF_7_112 lM_0 rfl hp ?_
        refine g_iconst (v := nI 1) dX7_blanks_23 (by decide) ?_
        refine g_iaddN dX7_blanks_24 ?_
        refine g_putI dX7_blanks_25 tF_7_112 lM_0 rfl rfl ⟨rfl, rfl⟩ rfl ?_
        refine g_goto dX7_blanks_28 rfl ?_
        refine gW.mono (ih (n - (p + 1)) (by omega) (p + 1) (gI T 0 20 (nI (p + 1))) hx rfl hn (by omega) rfl) (Nat.le_refl _) ?_
        rintro _ _ ⟨rfl, h9⟩
        obtain rfl := h9.symm
        exact ⟨rfl, by rw [gI_gI, sk_y hlt hb2]⟩
theorem c_blanks (sa : Nat → Nat) (b : Nat) (E : Nat × mH) (d : Nat) (T : gT) {u : Nat → Nat} {n p : Nat} (hx : mTx T 1 u) (hp : T.1 0 20 = nI p) (hn : T.1 0 2 = nI n) (hn4 : n ≤ 400) (hp4 : p < 1000) : gC (tP sa) lM b E (d + 1) mX7_blanks [.ref (b + 0)] T (fun r T' => r = none ∧ T' = gI T 0 20 (nI (sk u n p))) := ⟨Nat.le_of_ble_eq_true rfl, c_blanks_lp sa b E d hn4 _ p T hx hp hn hp4 rfl⟩
theorem c_fail (sa : Nat → Nat) (b : Nat) (E : Nat × mH) (d : Nat) (T : gT) (x : Int32) : gC (tP sa) lM b E d mX7_fail [.ref (b + 0), .int x] T (fun r T' => r = some (.int (-1)) ∧ T' = if T.1 0 22 = 0 then gI (gI T 0 21 x) 0 22 (nI 1) else gI T 0 22 (nI 1)) := by
  refine ⟨Nat.le_of_ble_eq_true rfl, ?_⟩
  refine g_aload_n dX7_fail_0 rfl ?_
  refine g_getI dX7_fail_1 tF_7_122 lM_0 rfl ?_
  refine g_if_ne dX7_fail_4 rfl (fun h4 => ?_) (fun h4 => ?_)
  · skip
    refine g_aload_n dX7_fail_12 rfl ?_
    refine g_iconst (v := nI 1) dX7_fail_13 (by decide) ?_
    refine g_putI dX7_fail_14 tF_7_122 lM_0 rfl rfl ⟨rfl, rfl⟩ rfl ?_
    refine g_iconst (v := (-1)) dX7_fail_17 (by decide) ?_
    exact g_iret dX7_fail_18 rfl rfl ⟨rfl, by first | rw [if_pos h4] | rw [if_neg h4]⟩
  · skip
    refine g_aload_n dX7_fail_7 rfl ?_
    refine g_iload_n dX7_fail_8 rfl ?_
    refine g_putI dX7_fail_9 tF_7_126 lM_0 rfl rfl ⟨rfl, rfl⟩ rfl ?_
    refine g_aload_n dX7_fail_12 rfl ?_
    refine g_iconst (v := nI 1) dX7_fail_13 (by decide) ?_
    refine g_putI dX7_fail_14 tF_7_122 lM_0 rfl rfl ⟨rfl, rfl⟩ rfl ?_
    refine g_iconst (v := (-1)) dX7_fail_17 (by decide) ?_
    exact g_iret dX7_fail_18 rfl rfl ⟨rfl, by first | rw [if_pos h4] | rw [if_neg h4]⟩
theorem c_wordEnd_lp (sa : Nat → Nat) (b : Nat) (E : Nat × mH) (d : Nat) {u : Nat → Nat} {n : Nat} (hn4 : n ≤ 400) (T : gT) (hx : mTx T 1 u) (hn : T.1 0 2 = nI n) : ∀ (k j : Nat), j < 1000 → n - j = k → gW (tP sa) lM b E (d + 1) mX7_wordEnd 5 [some (.ref (b + 0)), some (.int (nI j))] [] T (fun r T' => r = some (.int (nI (we u n j))) ∧ T' = T) := by
  intro k
  induction k using Nat.strongRecOn with
  | ind k ih =>
    intro j hj hk
    subst hk
    refine g_iload_n dX7_wordEnd_5 rfl ?_
    refine g_aload_n dX7_wordEnd_6 rfl ?_
    refine g_getIv (v := (nI (n))) dX7_wordEnd_7 tF_7_115 lM_0 rfl hn ?_
    refine g_icmp_geN dX7_wordEnd_10 rfl (by omega) (by omega) (fun h10 => ?_) (fun h10 => ?_)
    · skip
      refine g_iload_n dX7_wordEnd_43 rfl ?_
      exact g_iret dX7_wordEnd_44 rfl rfl ⟨congrArg some (congrArg Value.int (congrArg nI (we_n (fun z => by first | omega | exact z.2.elim (fun q => ite_z h22 ((xL_sb _ (hx j (by omega)).1).trans q)) (fun q => ite_z h34 ((xD_sb _ (hx j (by omega)).1).trans q)))).symm)), rfl⟩
    · skip
      refine g_aload_n dX7_wordEnd_13 rfl ?_
      refine g_getR dX7_wordEnd_14 tF_7_7 lM_0 rfl ?_
      refine g_iload_n dX7_wordEnd_17 rfl ?_
      refine g_baldv dX7_wordEnd_18 lM_1 (by omega) (by decide) (hx j (by omega)).2 ?_
      refine g_callS [.int (sb_b (u j))] [] dX7_wordEnd_19 tG_7_129 tM_120 rfl rfl rfl rfl (by decide) ?_
      refine gC.mono (c_isLetter sa b E _ T (sb_b (u j))) (Nat.le_refl _) ?_
      rintro _ _ ⟨rfl, h9⟩
      obtain rfl := h9.symm
      refine g_if_ne dX7_wordEnd_22 rfl (fun h22 => ?_) (fun h22 => ?_)
      · skip
        have hb : nL (u j) = true ∨ nD (u j) = true := Or.inl ((xL_sb _ (hx j (by omega)).1).symm.trans (ite_nz h22))
        refine g_iinc (v := nI (j + 1)) dX7_wordEnd_37 rfl (nI_succ _).symm rfl ?_
        refine g_goto dX7_wordEnd_40 rfl ?_
        refine gW.mono (ih (n - (j + 1)) (by omega) (j + 1) (by omega) rfl) (Nat.le_refl _) ?_
        rintro _ _ ⟨rfl, h9⟩
        obtain rfl := h9.symm
        exact ⟨congrArg some (congrArg Value.int (congrArg nI (we_y h10 hb).symm)), rfl⟩
      · skip
        refine g_aload_n dX7_wordEnd_25 rfl ?_
        refine g_getR dX7_wordEnd_26 tF_7_7 lM_0 rfl ?_
        refine g_iload_n dX7_wordEnd_29 rfl ?_
        refine g_baldv dX7_wordEnd_30 lM_1 (by omega) (by decide) (hx j (by omega)).2 ?_
        refine g_callS [.int (sb_b (u j))] [] dX7_wordEnd_31 tG_7_133 tM_121 rfl rfl rfl rfl (by decide) ?_
        refine gC.mono (c_isDigit sa b E _ T (sb_b (u j))) (Nat.le_refl _) ?_
        rintro _ _ ⟨rfl, h9⟩
        obtain rfl := h9.symm
        refine g_if_eq dX7_wordEnd_34 rfl (fun h34 => ?_) (fun h34 => ?_)
        · skip
          refine g_iload_n dX7_wordEnd_43 rfl ?_
          exact g_iret dX7_wordEnd_44 rfl rfl ⟨congrArg some (congrArg Value.int (congrArg nI (we_n (fun z => by first | omega | exact z.2.elim (fun q => ite_z h22 ((xL_sb _ (hx j (by omega)).1).trans q)) (fun q => ite_z h34 ((xD_sb _ (hx j (by omega)).1).trans q)))).symm)), rfl⟩
        · skip
          have hb : nL (u j) = true ∨ nD (u j) = true := Or.inr ((xD_sb _ (hx j (by omega)).1).symm.trans (ite_nz h34))
          refine g_iinc (v := nI (j + 1)) dX7_wordEnd_37 rfl (nI_succ _).symm rfl ?_
          refine g_goto dX7_wordEnd_40 rfl ?_
          refine gW.mono (ih (n - (j + 1)) (by omega) (j + 1) (by omega) rfl) (Nat.le_refl _) ?_
          rintro _ _ ⟨rfl, h9⟩
          obtain rfl := h9.symm
          exact ⟨congrArg some (congrArg Value.int (congrArg nI (we_y h10 hb).symm)), rfl⟩
theorem c_wordEnd (sa : Nat → Nat) (b : Nat) (E : Nat × mH) (d : Nat) (T : gT) {u : Nat → Nat} {n p : Nat} (hx : mTx T 1 u) (hp : T.1 0 20 = nI p) (hn : T.1 0 2 = nI n) (hn4 : n ≤ 400) (hp4 : p < 1000) : gC (tP sa) lM b E (d + 1) mX7_wordEnd [.ref (b + 0)] T (fun r T' => r = some (.int (nI (we u n p))) ∧ T' = T) := by
  refine ⟨Nat.le_of_ble_eq_true rfl, ?_⟩
  refine g_aload_n dX7_wordEnd_0 rfl ?_
  refine g_getIv (v := (nI (p))) dX7_wordEnd_1 tF_7_112 lM_0 rfl hp ?_
  refine g_istore_n dX7_wordEnd_4 rfl ?_
  exact c_wordEnd_lp sa b E d hn4 T hx hn _ p hp4 rfl
