/-! A FORM IS SAID, by hand -/
def f_X7_sayForm (sa : Nat → Nat) (b : Nat) (E : Nat × mH) (d : Nat) (l1 l2 : Int) (T : gT) (Q : Option Value → gT → Prop) : Prop := (-2147483648 ≤ l2 ∧ l2 < 2147483648) ∧ (l2 = 4 → gC (tP sa) lM b E (d + 4) mX7_sayWord [.ref (b + 0), .ref (sa 11)] T (fun r T9 => pV r (gW (tP sa) lM b E (d + 4 + 1) mX7_sayForm 124 [some (.ref (b + 0)), some (.int (zI l1)), some (.int (zI l2)), some (.int (zI 3))] [] T9 Q))) ∧ (l2 = 5 → gC (tP sa) lM b E (d + 4) mX7_sayWord [.ref (b + 0), .ref (sa 12)] T (fun r T24 => pV r ((vI T24 0 3 = 0 ∨ vI T24 0 3 = 1) ∧ (0 ≤ l1 ∧ l1 < 200) ∧ gC (tP sa) lM b E (d + 4) mX7_sayVariable [.ref (b + 0), .int (zI (cV T24 (vI T24 0 3).toNat l1.toNat 1))] T24 (fun r T34 => pV r (gC (tP sa) lM b E (d + 4) mX7_say [.ref (b + 0), .int (zI 32)] T34 (fun r T40 => pV r (gW (tP sa) lM b E (d + 4 + 1) mX7_sayForm 124 [some (.ref (b + 0)), some (.int (zI l1)), some (.int (zI l2)), some (.int (zI 3))] [] T40 Q))))))) ∧ (l2 = 3 → gC (tP sa) lM b E (d + 4) mX7_sayWord [.ref (b + 0), .ref (sa 13)] T (fun r T55 => pV r ((vI T55 0 3 = 0 ∨ vI T55 0 3 = 1) ∧ (0 ≤ l1 ∧ l1 < 200) ∧ gC (tP sa) lM b E (d + 4) mX7_sayVariable [.ref (b + 0), .int (zI (cV T55 (vI T55 0 3).toNat l1.toNat 2))] T55 (fun r T65 => pV r (gC (tP sa) lM b E (d + 4) mX7_say [.ref (b + 0), .int (zI 32)] T65 (fun r T71 => pV r ((vI T71 0 3 = 0 ∨ vI T71 0 3 = 1) ∧ gC (tP sa) lM b E (d + 4) mX7_sayVariable [.ref (b + 0), .int (zI (cV T71 (vI T71 0 3).toNat l1.toNat 1))] T71 (fun r T81 => pV r (gC (tP sa) lM b E (d + 4) mX7_say [.ref (b + 0), .int (zI 32)] T81 (fun r T87 => pV r (gW (tP sa) lM b E (d + 4 + 1) mX7_sayForm 124 [some (.ref (b + 0)), some (.int (zI l1)), some (.int (zI l2)), some (.int (zI 3))] [] T87 Q))))))))))) ∧ (6 ≤ l2 ∧ l2 < 11 → ∃ w, mStr E b (sa 14) w ∧ w.length = 5 ∧ ∀ E' : Nat × mH, gC (tP sa) lM b E' (d + 3) mX7_say [.ref (b + 0), .int (zI ((w.getD (l2 - 6).toNat 0 : Nat) : Int))] (T.1, T.2.1, T.2.2.1 + 2, T.2.2.2 + 5) (fun r T1 => pV r (gC (tP sa) lM b E (d + 4) mX7_say [.ref (b + 0), .int (zI 32)] T1 (fun r T2 => pV r (gW (tP sa) lM b E (d + 4 + 1) mX7_sayForm 124 [some (.ref (b + 0)), some (.int (zI l1)), some (.int (zI l2)), some (.int (zI 3))] [] T2 Q))))) ∧ (l2 = 11 → gW (tP sa) lM b E (d + 4 + 1) mX7_sayForm 124 [some (.ref (b + 0)), some (.int (zI l1)), some (.int (zI l2)), some (.int (zI 3))] [] T Q) ∧ (3 ≤ l2 ∧ l2 ≤ 11)
set_option maxRecDepth 4000 in
theorem w_X7_sayForm {sa : Nat → Nat} {b : Nat} {E : Nat × mH} {d : Nat} {l1 l2 : Int} {T : gT} {Q : Option Value → gT → Prop} (h : f_X7_sayForm sa b E d l1 l2 T Q) : gC (tP sa) lM b E (d + 4 + 1) mX7_sayForm [.ref (b + 0), .int (zI l1), .int (zI l2)] T Q := by
  unfold f_X7_sayForm at h
  obtain ⟨a0, h4, h5, h3, h6, h11, hr⟩ := h
  refine ⟨Nat.le_of_ble_eq_true rfl, ?_⟩
  show gW (tP sa) lM b E (d + 4 + 1) mX7_sayForm 0 [some (.ref (b + 0)), some (.int (zI l1)), some (.int (zI l2)), none] [] T Q
  -- to the loop
  have lp : ∀ {T9 : gT}, gW (tP sa) lM b E (d + 4 + 1) mX7_sayForm 124 [some (.ref (b + 0)), some (.int (zI l1)), some (.int (zI l2)), some (.int (zI 3))] [] T9 Q → gW (tP sa) lM b E (d + 4 + 1) mX7_sayForm 122 [some (.ref (b + 0)), some (.int (zI l1)), some (.int (zI l2)), none] [] T9 Q := fun {T9} hk => by
    refine g_iconst (v := zI 3) dX7_sayForm_122 (by decide) ?_
    refine g_istore_n (L' := [some (.ref (b + 0)), some (.int (zI l1)), some (.int (zI l2)), some (.int (zI 3))]) dX7_sayForm_123 rfl ?_
    exact hk
  refine g_iload_n dX7_sayForm_0 rfl ?_
  refine g_iconst (v := zI 4) dX7_sayForm_1 (by decide) ?_
  refine g_icmp_neZ dX7_sayForm_2 rfl a0 (by decide) (fun c2 => ?_) (fun c2 => ?_)
  rotate_left
  · replace h := h4 c2
    refine g_aload_n dX7_sayForm_5 rfl ?_
    refine g_ldcwR (v := .ref (sa 11)) dX7_sayForm_6 (tK_7_347 sa) rfl ?_
    refine g_callV [.ref (b + 0), .ref (sa 11)] [] dX7_sayForm_9 tG_7_349 tM_175 lM_0 rfl rfl rfl rfl (by decide) rfl ?_
    refine gC.mono h (Nat.le_refl _) ?_
    rintro _ T9 ⟨rfl, h⟩
    refine g_goto dX7_sayForm_12 rfl ?_
    exact lp h
  refine g_iload_n dX7_sayForm_15 rfl ?_
  refine g_iconst (v := zI 5) dX7_sayForm_16 (by decide) ?_
  refine g_icmp_neZ dX7_sayForm_17 rfl a0 (by decide) (fun c17 => ?_) (fun c17 => ?_)
  rotate_left
  · replace h := h5 c17
    refine g_aload_n dX7_sayForm_20 rfl ?_
    refine g_ldcwR (v := .ref (sa 12)) dX7_sayForm_21 (tK_7_353 sa) rfl ?_
    refine g_callV [.ref (b + 0), .ref (sa 12)] [] dX7_sayForm_24 tG_7_349 tM_175 lM_0 rfl rfl rfl rfl (by decide) rfl ?_
    refine gC.mono h (Nat.le_refl _) ?_
    rintro _ T24 ⟨rfl, a1, a2, h⟩
    refine g_aload_n dX7_sayForm_27 rfl ?_
    refine g_aload_n dX7_sayForm_28 rfl ?_
    refine g_iload_n dX7_sayForm_29 rfl ?_
    refine g_iconst (v := zI 1) dX7_sayForm_30 (by decide) ?_
    refine g_callV [.ref (b + 0), .int (zI l1), .int (zI 1)] [.ref (b + 0)] dX7_sayForm_31 tG_7_219 tM_113 lM_0 rfl rfl rfl rfl (by decide) rfl ?_
    refine gC.mono (c_getZ sa b E (d + 3) _ (n := vI T24 0 3) (by first | exact (zI_v _ _ _).symm | rfl) a1 a2 (by decide)) (Nat.le_refl _) ?_
    rintro _ _ ⟨rfl, h9⟩
    obtain rfl := h9.symm
    refine g_callV [.ref (b + 0), .int (zI (cV T24 (vI T24 0 3).toNat l1.toNat 1))] [] dX7_sayForm_34 tG_7_338 tM_173 lM_0 rfl rfl rfl rfl (by decide) rfl ?_
    refine gC.mono h (Nat.le_refl _) ?_
    rintro _ T34 ⟨rfl, h⟩
    refine g_aload_n dX7_sayForm_37 rfl ?_
    refine g_bipush (v := zI 32) dX7_sayForm_38 (by decide) ?_
    refine g_callV [.ref (b + 0), .int (zI 32)] [] dX7_sayForm_40 tG_7_332 tM_171 lM_0 rfl rfl rfl rfl (by decide) rfl ?_
    refine gC.mono h (Nat.le_refl _) ?_
    rintro _ T40 ⟨rfl, h⟩
    refine g_goto dX7_sayForm_43 rfl ?_
    exact lp h
  refine g_iload_n dX7_sayForm_46 rfl ?_
  refine g_iconst (v := zI 3) dX7_sayForm_47 (by decide) ?_
  refine g_icmp_neZ dX7_sayForm_48 rfl a0 (by decide) (fun c48 => ?_) (fun c48 => ?_)
  rotate_left
  · replace h := h3 c48
    refine g_aload_n dX7_sayForm_51 rfl ?_
    refine g_ldcwR (v := .ref (sa 13)) dX7_sayForm_52 (tK_7_355 sa) rfl ?_
    refine g_callV [.ref (b + 0), .ref (sa 13)] [] dX7_sayForm_55 tG_7_349 tM_175 lM_0 rfl rfl rfl rfl (by decide) rfl ?_
    refine gC.mono h (Nat.le_refl _) ?_
    rintro _ T55 ⟨rfl, a1, a2, h⟩
    refine g_aload_n dX7_sayForm_58 rfl ?_
    refine g_aload_n dX7_sayForm_59 rfl ?_
    refine g_iload_n dX7_sayForm_60 rfl ?_
    refine g_iconst (v := zI 2) dX7_sayForm_61 (by decide) ?_
    refine g_callV [.ref (b + 0), .int (zI l1), .int (zI 2)] [.ref (b + 0)] dX7_sayForm_62 tG_7_219 tM_113 lM_0 rfl rfl rfl rfl (by decide) rfl ?_
    refine gC.mono (c_getZ sa b E (d + 3) _ (n := vI T55 0 3) (by first | exact (zI_v _ _ _).symm | rfl) a1 a2 (by decide)) (Nat.le_refl _) ?_
    rintro _ _ ⟨rfl, h9⟩
    obtain rfl := h9.symm
    refine g_callV [.ref (b + 0), .int (zI (cV T55 (vI T55 0 3).toNat l1.toNat 2))] [] dX7_sayForm_65 tG_7_338 tM_173 lM_0 rfl rfl rfl rfl (by decide) rfl ?_
    refine gC.mono h (Nat.le_refl _) ?_
    rintro _ T65 ⟨rfl, h⟩
    refine g_aload_n dX7_sayForm_68 rfl ?_
    refine g_bipush (v := zI 32) dX7_sayForm_69 (by decide) ?_
    refine g_callV [.ref (b + 0), .int (zI 32)] [] dX7_sayForm_71 tG_7_332 tM_171 lM_0 rfl rfl rfl rfl (by decide) rfl ?_
    refine gC.mono h (Nat.le_refl _) ?_
    rintro _ T71 ⟨rfl, a3, h⟩
    refine g_aload_n dX7_sayForm_74 rfl ?_
    refine g_aload_n dX7_sayForm_75 rfl ?_
    refine g_iload_n dX7_sayForm_76 rfl ?_
    refine g_iconst (v := zI 1) dX7_sayForm_77 (by decide) ?_
    refine g_callV [.ref (b + 0), .int (zI l1), .int (zI 1)] [.ref (b + 0)] dX7_sayForm_78 tG_7_219 tM_113 lM_0 rfl rfl rfl rfl (by decide) rfl ?_
    refine gC.mono (c_getZ sa b E (d + 3) _ (n := vI T71 0 3) (by first | exact (zI_v _ _ _).symm | rfl) a3 a2 (by decide)) (Nat.le_refl _) ?_
    rintro _ _ ⟨rfl, h9⟩
    obtain rfl := h9.symm
    refine g_callV [.ref (b + 0), .int (zI (cV T71 (vI T71 0 3).toNat l1.toNat 1))] [] dX7_sayForm_81 tG_7_338 tM_173 lM_0 rfl rfl rfl rfl (by decide) rfl ?_
    refine gC.mono h (Nat.le_refl _) ?_
    rintro _ T81 ⟨rfl, h⟩
    refine g_aload_n dX7_sayForm_84 rfl ?_
    refine g_bipush (v := zI 32) dX7_sayForm_85 (by decide) ?_
    refine g_callV [.ref (b + 0), .int (zI 32)] [] dX7_sayForm_87 tG_7_332 tM_171 lM_0 rfl rfl rfl rfl (by decide) rfl ?_
    refine gC.mono h (Nat.le_refl _) ?_
    rintro _ T87 ⟨rfl, h⟩
    refine g_goto dX7_sayForm_90 rfl ?_
    exact lp h
  refine g_iload_n dX7_sayForm_93 rfl ?_
  refine g_bipush (v := zI 11) dX7_sayForm_94 (by decide) ?_
  refine g_icmp_geZ dX7_sayForm_96 rfl a0 (by decide) (fun c96 => ?_) (fun c96 => ?_)
  · exact lp (h11 (by omega))
  · obtain ⟨w, hs, hw5, h⟩ := h6 (by omega)
    obtain ⟨k, rfl⟩ : ∃ k : Nat, l2 = (k : Int) + 6 := ⟨(l2 - 6).toNat, by omega⟩
    have hk : k < 5 := by omega
    rw [show ((k : Int) + 6 - 6).toNat = k by omega] at h
    refine g_aload_n dX7_sayForm_99 rfl ?_
    refine g_ldcwR (v := .ref (sa 14)) dX7_sayForm_100 (tK_7_357 sa) rfl ?_
    refine g_iload_n dX7_sayForm_103 rfl ?_
    refine g_bipush (v := zI 6) dX7_sayForm_104 (by decide) ?_
    refine g_isubZ dX7_sayForm_106 ?_
    refine g_iload_n dX7_sayForm_107 rfl ?_
    refine g_iconst (v := zI 5) dX7_sayForm_108 (by decide) ?_
    refine g_isubZ dX7_sayForm_109 ?_
    rw [show (k : Int) + 6 - 6 = (k : Int) by omega, show (k : Int) + 6 - 5 = ((k + 1 : Nat) : Int) by omega, ← zI_nat, ← zI_nat]
    obtain ⟨va, f, fs, ha, hva, e1, e2, e3, e4⟩ := id hs
    intro hp hh
    obtain ⟨hh1, hh2, hh3, hh4⟩ := id hh
    have sE : hp (sa 14) = some (.inr (0, .ref va :: .int 0 :: fs)) := (hh2 _ (Or.inl ha)).trans e1
    have vE : hp va = some (.inl (.byte, w.length, .inl f)) := (hh2 _ (Or.inl hva)).trans e2
    have hs' : mStr (T.2.2.1, hp) b (sa 14) w := ⟨va, f, fs, ha, hva, sE, vE, e3, e4⟩
    refine mw_call (kd := 0) dX7_sayForm_110 rfl tG_7_359 tM_183 ?_ ?_
    · unfold mMay
      simp only [Bool.and_eq_true, decide_eq_true_eq, Bool.or_eq_true, beq_iff_eq]
      refine ⟨⟨⟨⟨⟨Nat.le_of_ble_eq_true rfl, rfl⟩, rfl⟩, Nat.le_of_ble_eq_true rfl⟩, Nat.le_of_ble_eq_true rfl⟩, Or.inr ?_⟩
      rw [if_pos trivial]
      show mRcv (hp, T.2.2) 0 [.ref (sa 14), .int (nI k), .int (nI (k + 1))] = true
      unfold mRcv
      dsimp only
      rw [sE]
      simp
    refine x_substring sa (d := d) (S := (hp, T.2.2)) hk hs' hw5 (by show b ≤ T.2.2.1; omega) (fun S1 g g0 q2 qn qm qx => ?_)
    dsimp only at q2 qn qm qx ⊢
    have blen : lM.length = lM.length := rfl
    -- what is known now
    have hg1 : gH lM b (T.2.2.1 + 2, S1.1) (T.1, T.2.1, T.2.2.1 + 2, T.2.2.2 + 5) S1.1 := by
      refine ⟨fun kk dd hkd => ?_, fun a _ => rfl, by dsimp only; omega, Nat.le_refl _⟩
      have hlt : kk < lM.length := (List.getElem?_eq_some_iff.mp hkd).1
      exact (qx _ (by omega)).trans (hh1 kk dd hkd)
    have back : ∀ {T2 : gT} {h2 : mH}, gH lM b (T.2.2.1 + 2, S1.1) T2 h2 → gH lM b E T2 h2 := fun {T2 h2} hq => by
      obtain ⟨r1, r2, r3, r4⟩ := hq
      dsimp only at r2 r3 r4
      exact ⟨r1, fun a ha => (r2 a (by omega)).trans ((qx a (by omega)).trans (hh2 a ha)), hh3, by omega⟩
    have hsn : mStr2 lM (T.2.2.1 + 2, S1.1) b T.2.2.1 [w.getD k 0] := by
      refine ⟨T.2.2.1 + 1, g, [.int 0, .int 0], Or.inr ⟨by omega, by dsimp only; omega⟩, Or.inr ⟨by omega, by dsimp only; omega⟩, qn, qm, (show 1 < 1000 by decide), fun i hi => ?_⟩
      have hi2 : i < 1 := hi
      obtain rfl : i = 0 := by omega
      exact ⟨(e4 k (by omega)).1, g0⟩
    have hS1 : S1 = (S1.1, (T.1, T.2.1, T.2.2.1 + 2, T.2.2.2 + 5).2.2) := by
      show S1 = (S1.1, T.2.2.1 + 2, T.2.2.2 + 5)
      rw [← q2]
    refine mw_call (kd := 0) dX7_sayForm_113 rfl tG_7_349 tM_175 ?_ ?_
    · unfold mMay
      simp only [Bool.and_eq_true, decide_eq_true_eq, Bool.or_eq_true, beq_iff_eq]
      refine ⟨⟨⟨⟨⟨Nat.le_of_ble_eq_true rfl, rfl⟩, rfl⟩, Nat.le_of_ble_eq_true rfl⟩, Nat.le_of_ble_eq_true rfl⟩, Or.inr ?_⟩
      rw [if_pos trivial]
      show mRcv S1 9 [.ref (b + 0), .ref T.2.2.1] = true
      unfold mRcv
      dsimp only
      rw [hg1.1 0 _ lM_0]
      simp [mCe]
    have hsay : gC (tP sa) lM b (T.2.2.1 + 2, S1.1) (d + 3 + 1) mX7_sayWord [.ref (b + 0), .ref T.2.2.1] (T.1, T.2.1, T.2.2.1 + 2, T.2.2.2 + 5) (fun r T1 => pV r (gC (tP sa) lM b E (d + 4) mX7_say [.ref (b + 0), .int (zI 32)] T1 (fun r T2 => pV r (gW (tP sa) lM b E (d + 4 + 1) mX7_sayForm 124 [some (.ref (b + 0)), some (.int (zI l1)), some (.int (zI ((k : Int) + 6))), some (.int (zI 3))] [] T2 Q)))) := by
      refine y_sayWord hsn ?_
      unfold f_X7_sayWord
      refine y_sayWord_2 hsn ?_
      unfold f_X7_sayWord_2
      refine ⟨by decide, by simp, fun z => absurd z (by simp), fun _ => ⟨by decide, by simp, ?_⟩⟩
      refine gC.mono (h _) (Nat.le_refl _) ?_
      rintro _ T1 ⟨rfl, h⟩
      refine ⟨rfl, y_sayWord_2 hsn ?_⟩
      unfold f_X7_sayWord_2
      exact ⟨by decide, by simp, fun _ => ⟨rfl, h⟩, fun z => absurd (by simp) z⟩
    have hrun := hsay.2 S1.1 hg1
    rw [← hS1] at hrun
    refine hrun.mono (Nat.le_refl _) ?_
    rintro _ S2 ⟨T2, hg2, q22, rfl, h⟩
    have cont : gW (tP sa) lM b E (d + 4 + 1) mX7_sayForm 116 [some (.ref (b + 0)), some (.int (zI l1)), some (.int (zI ((k : Int) + 6))), none] [] T2 Q := by
      refine g_aload_n dX7_sayForm_116 rfl ?_
      refine g_bipush (v := zI 32) dX7_sayForm_117 (by decide) ?_
      refine g_callV [.ref (b + 0), .int (zI 32)] [] dX7_sayForm_119 tG_7_332 tM_171 lM_0 rfl rfl rfl rfl (by decide) rfl ?_
      refine gC.mono h (Nat.le_refl _) ?_
      rintro _ T40 ⟨rfl, h⟩
      exact lp h
    have := cont S2.1 (back hg2)
    rw [← q22] at this
    exact this
def f_X7_sayForm_124 (sa : Nat → Nat) (b : Nat) (E : Nat × mH) (d : Nat) (l1 l2 l3 : Int) (T : gT) (Q : Option Value → gT → Prop) : Prop := (0 ≤ l3 ∧ l3 ≤ 6) ∧ (6 ≤ l3 → Q none T) ∧ (¬ 6 ≤ l3 → (vI T 0 3 = 0 ∨ vI T 0 3 = 1) ∧ (0 ≤ l1 ∧ l1 < 200) ∧ (cV T (vI T 0 3).toNat l1.toNat l3.toNat = -1 → gW (tP sa) lM b E (d + 4 + 1) mX7_sayForm 124 [some (.ref (b + 0)), some (.int (zI l1)), some (.int (zI l2)), some (.int (zI (l3 + 1)))] [] T Q) ∧ (¬ cV T (vI T 0 3).toNat l1.toNat l3.toNat = -1 → (l3 ≤ 3 → gC (tP sa) lM b E (d + 4) mX7_sayExpr [.ref (b + 0), .int (zI (cV T (vI T 0 3).toNat l1.toNat l3.toNat))] T (fun r T2 => pV r (gW (tP sa) lM b E (d + 4 + 1) mX7_sayForm 124 [some (.ref (b + 0)), some (.int (zI l1)), some (.int (zI l2)), some (.int (zI (l3 + 1)))] [] T2 Q))) ∧ (¬ l3 ≤ 3 → gC (tP sa) lM b E (d + 4) mX7_say [.ref (b + 0), .int (zI 32)] T (fun r T1 => pV r ((vI T1 0 3 = 0 ∨ vI T1 0 3 = 1) ∧ gC (tP sa) lM b E (d + 4) mX7_sayExpr [.ref (b + 0), .int (zI (cV T1 (vI T1 0 3).toNat l1.toNat l3.toNat))] T1 (fun r T2 => pV r (gW (tP sa) lM b E (d + 4 + 1) mX7_sayForm 124 [some (.ref (b + 0)), some (.int (zI l1)), some (.int (zI l2)), some (.int (zI (l3 + 1)))] [] T2 Q)))))))
set_option maxRecDepth 4000 in
theorem w_X7_sayForm_124 {sa : Nat → Nat} {b : Nat} {E : Nat × mH} {d : Nat} {l1 l2 l3 : Int} {T : gT} {Q : Option Value → gT → Prop} (h : f_X7_sayForm_124 sa b E d l1 l2 l3 T Q) : gW (tP sa) lM b E (d + 4 + 1) mX7_sayForm 124 [some (.ref (b + 0)), some (.int (zI l1)), some (.int (zI l2)), some (.int (zI l3))] [] T Q := by
  unfold f_X7_sayForm_124 at h
  obtain ⟨a0, h6, h⟩ := h
  refine g_iload_n dX7_sayForm_124 rfl ?_
  refine g_bipush (v := zI 6) dX7_sayForm_125 (by decide) ?_
  refine g_icmp_geZ dX7_sayForm_127 rfl (by omega) (by decide) (fun c => ?_) (fun c => ?_)
  · exact g_vret dX7_sayForm_167 rfl (h6 c)
  · obtain ⟨a1, a2, hN, hY⟩ := h c
    refine g_aload_n dX7_sayForm_130 rfl ?_
    refine g_iload_n dX7_sayForm_131 rfl ?_
    refine g_iload_n dX7_sayForm_132 rfl ?_
    refine g_callV [.ref (b + 0), .int (zI l1), .int (zI l3)] [] dX7_sayForm_133 tG_7_219 tM_113 lM_0 rfl rfl rfl rfl (by decide) rfl ?_
    refine gC.mono (c_getZ sa b E (d + 3) _ (n := vI T 0 3) (by first | exact (zI_v _ _ _).symm | rfl) a1 a2 (by omega)) (Nat.le_refl _) ?_
    rintro _ _ ⟨rfl, h9⟩
    obtain rfl := h9.symm
    refine g_iconst (v := zI (-1)) dX7_sayForm_136 (by decide) ?_
    have nxt : ∀ {T2 : gT}, gW (tP sa) lM b E (d + 4 + 1) mX7_sayForm 124 [some (.ref (b + 0)), some (.int (zI l1)), some (.int (zI l2)), some (.int (zI (l3 + 1)))] [] T2 Q → gW (tP sa) lM b E (d + 4 + 1) mX7_sayForm 161 [some (.ref (b + 0)), some (.int (zI l1)), some (.int (zI l2)), some (.int (zI l3))] [] T2 Q := fun {T2} hk => by
      refine g_iinc (x := zI l3) (v := zI (l3 + 1)) (L' := [some (.ref (b + 0)), some (.int (zI l1)), some (.int (zI l2)), some (.int (zI (l3 + 1)))]) dX7_sayForm_161 rfl (zI_add _ _) rfl ?_
      refine g_goto dX7_sayForm_164 rfl ?_
      exact hk
    refine g_icmp_eqZ dX7_sayForm_137 rfl ⟨vI_lo _ _ _, vI_hi _ _ _⟩ (by decide) (fun c2 => nxt (hN c2)) (fun c2 => ?_)
    obtain ⟨hA, hB⟩ := hY c2
    have ex : ∀ {T1 : gT}, (vI T1 0 3 = 0 ∨ vI T1 0 3 = 1) → gC (tP sa) lM b E (d + 4) mX7_sayExpr [.ref (b + 0), .int (zI (cV T1 (vI T1 0 3).toNat l1.toNat l3.toNat))] T1 (fun r T2 => pV r (gW (tP sa) lM b E (d + 4 + 1) mX7_sayForm 124 [some (.ref (b + 0)), some (.int (zI l1)), some (.int (zI l2)), some (.int (zI (l3 + 1)))] [] T2 Q)) → gW (tP sa) lM b E (d + 4 + 1) mX7_sayForm 151 [some (.ref (b + 0)), some (.int (zI l1)), some (.int (zI l2)), some (.int (zI l3))] [] T1 Q := fun {T1} a3 hk => by
      refine g_aload_n dX7_sayForm_151 rfl ?_
      refine g_aload_n dX7_sayForm_152 rfl ?_
      refine g_iload_n dX7_sayForm_153 rfl ?_
      refine g_iload_n dX7_sayForm_154 rfl ?_
      refine g_callV [.ref (b + 0), .int (zI l1), .int (zI l3)] [.ref (b + 0)] dX7_sayForm_155 tG_7_219 tM_113 lM_0 rfl rfl rfl rfl (by decide) rfl ?_
      refine gC.mono (c_getZ sa b E (d + 3) _ (n := vI T1 0 3) (by first | exact (zI_v _ _ _).symm | rfl) a3 a2 (by omega)) (Nat.le_refl _) ?_
      rintro _ _ ⟨rfl, h9⟩
      obtain rfl := h9.symm
      refine g_callV [.ref (b + 0), .int (zI (cV T1 (vI T1 0 3).toNat l1.toNat l3.toNat))] [] dX7_sayForm_158 tG_7_341 tM_174 lM_0 rfl rfl rfl rfl (by decide) rfl ?_
      refine gC.mono hk (Nat.le_refl _) ?_
      rintro _ T2 ⟨rfl, h⟩
      exact nxt h
    refine g_iload_n dX7_sayForm_140 rfl ?_
    refine g_iconst (v := zI 3) dX7_sayForm_141 (by decide) ?_
    refine g_icmp_leZ dX7_sayForm_142 rfl (by omega) (by decide) (fun c3 => ex a1 (hA c3)) (fun c3 => ?_)
    refine g_aload_n dX7_sayForm_145 rfl ?_
    refine g_bipush (v := zI 32) dX7_sayForm_146 (by decide) ?_
    refine g_callV [.ref (b + 0), .int (zI 32)] [] dX7_sayForm_148 tG_7_332 tM_171 lM_0 rfl rfl rfl rfl (by decide) rfl ?_
    refine gC.mono (hB c3) (Nat.le_refl _) ?_
    rintro _ T1 ⟨rfl, a3, h⟩
    exact ex a3 h
