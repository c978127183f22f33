/-! THE CLASS'S write, by hand: bytes are copied -/
theorem fit_sb {c : Nat} (h : c < 256) : fits .byte (.int (sb_b c)) = true := by
  have : ∀ c : Nat, c < 256 → fits .byte (.int (sb_b c)) = true := by decide +kernel
  exact this c h
section GZ0
variable {P : mP} {lay : List mDs} {b : Nat} {E : Nat × mH} {d : Nat} {M : mM} {pc : Nat} {L : mL} {st : List Value} {T : gT} {Q : Option Value → gT → Prop}
theorem g_acpy {k9 ka kb na nb n : Nat} (hd : decode (mCode M) pc = .ok (.invokestatic k9, 3)) (hc : P.2.2.1 (mTag M) k9 = some (1, .inr 1)) (hL : L.length = mMax M) (hka : lay[ka]? = some (.inl (1, na))) (hkb : lay[kb]? = some (.inl (1, nb))) (hn : n ≤ na) (hn2 : n ≤ nb) (hn3 : n < 2 ^ 31) (hf : ∀ i, i < n → ∃ c, c < 256 ∧ T.1 ka i = sb_b c) (hw : mWide st = true)
    (k : ∀ T', (∀ k i, T'.1 k i = if k = kb ∧ i < n then T.1 ka i else T.1 k i) → T'.2 = T.2 → gW P lay b E (d + 1) M (pc + 3) L st T' Q) : gW P lay b E (d + 1) M pc L (.int (zI (n : Int)) :: .int (zI 0) :: .ref (b + kb) :: .int (zI 0) :: .ref (b + ka) :: st) T Q := by
  intro h hh
  have e0 : (zI 0).toNatClampNeg = 0 := rfl
  have en : (zI (n : Int)).toNatClampNeg = n := by rw [← zI_nat]; exact nI_clamp hn3
  have h1 := hh.1 ka _ hka
  have h2 := hh.1 kb _ hkb
  have hnn : ¬ zI (n : Int) < 0 := by rw [show (0 : Int32) = zI 0 from rfl, zI_lt (by omega) (by decide)]; omega
  refine mw_prim (kd := 1) (S1 := (mUp h (b + kb) (.inl (.byte, nb, .inl (va_cpy (T.1 ka) (T.1 kb) 0 0 n))), T.2.2)) hd rfl hc hL ?_ hw ?_
  · unfold mPrim
    simp only [mPrim1, h1, h2, mCe, e0, en]
    rw [if_pos]
    refine ⟨by omega, by decide, by decide, hnn, by omega, by omega, fun i hi => ?_⟩
    obtain ⟨c, hc1, hc2⟩ := hf i hi
    rw [Nat.zero_add, hc2]
    exact fit_sb hc1
  · have hu := hh.up (i := va_cpy (T.1 ka) (T.1 kb) 0 0 n) (j := T.2.1 kb) (c := .inl (.byte, nb, .inl (va_cpy (T.1 ka) (T.1 kb) 0 0 n))) hkb rfl
    rw [va_up_id T.2.1 kb] at hu
    refine k (va_up T.1 kb (va_cpy (T.1 ka) (T.1 kb) 0 0 n), T.2.1, T.2.2) (fun k2 i => ?_) rfl _ hu
    show va_up T.1 kb _ k2 i = _
    unfold va_up
    by_cases y : k2 = kb
    · subst y
      simp only [if_true, true_and, va_cpy, Nat.zero_le, Nat.zero_add, Nat.sub_zero]
    · rw [if_neg y, if_neg (fun z => y z.1)]
end GZ0
def f_X6_write (sa : Nat → Nat) (b : Nat) (E : Nat × mH) (d : Nat) (T : gT) (Q : Option Value → gT → Prop) : Prop := ∃ q : Nat, (q = 2 ∨ q = 21) ∧ vI T 0 2 = (q : Int) ∧ (¬ vI T q 0 = 0 → gC (tP sa) lD b E d mX5_put [.ref (b + 63), .ref (b + q)] T (fun r T21 => pV r (∃ n : Nat, n < 2 ^ 31 ∧ vI T21 63 1 = (n : Int) ∧ (400 < n → Q (some (.int (zI (-1)))) T21) ∧ (n ≤ 400 → (∀ i, i < n → ∃ c, c < 256 ∧ T21.1 64 i = sb_b c) ∧ ∀ T', (∀ k i, T'.1 k i = if k = 1 ∧ i < n then T21.1 64 i else T21.1 k i) → T'.2 = T21.2 → Q (some (.int (zI (n : Int)))) (gI T' 0 1 (zI (n : Int))))))) ∧ (vI T q 0 = 0 → Q (some (.int (zI (-2)))) T)
set_option maxRecDepth 4000 in
theorem w_X6_write {sa : Nat → Nat} {b : Nat} {E : Nat × mH} {d : Nat} {T : gT} {Q : Option Value → gT → Prop} (h : f_X6_write sa b E d T Q) : gC (tP sa) lD b E (d + 1) mX6_write [.ref (b + 0)] T Q := by
  unfold f_X6_write at h
  obtain ⟨q, hq, e2, h1, h0⟩ := h
  refine ⟨Nat.le_of_ble_eq_true rfl, ?_⟩
  show gW (tP sa) lD b E (d + 1) mX6_write 0 [some (.ref (b + 0))] [] T Q
  refine g_aload_n dX6_write_0 rfl ?_
  refine g_getVZ (o := q) dX6_write_1 tF_6_16 lD_0 rfl e2 (q_lt hq) ?_
  refine g_getZ (v := vI T q 0) dX6_write_4 tF_6_74 (lP_0 hq) rfl (zI_v T q 0) ?_
  refine g_if_neZ dX6_write_7 rfl ⟨vI_lo _ _ _, vI_hi _ _ _⟩ (fun c7 => ?_) (fun c7 => ?_)
  · refine g_aload_n dX6_write_13 rfl ?_
    refine g_getR dX6_write_14 tF_6_47 lD_0 rfl ?_
    refine g_aload_n dX6_write_17 rfl ?_
    refine g_getVZ (o := q) dX6_write_18 tF_6_16 lD_0 rfl e2 (q_lt hq) ?_
    refine g_callV [.ref (b + 63), .ref (b + q)] [] dX6_write_21 tG_6_185 tM_70 lD_63 rfl rfl rfl rfl (by decide) rfl ?_
    refine gC.mono (h1 c7) (Nat.le_refl _) ?_
    rintro _ T21 ⟨rfl, n, hn31, en, hB, hS⟩
    refine g_aload_n dX6_write_24 rfl ?_
    refine g_getR dX6_write_25 tF_6_47 lD_0 rfl ?_
    refine g_getZ (v := vI T21 63 1) dX6_write_28 tF_6_189 lD_63 rfl (zI_v T21 63 1) ?_
    refine g_sipush (v := zI 400) dX6_write_31 (by decide) ?_
    refine g_icmp_leZ dX6_write_34 rfl ⟨vI_lo _ _ _, vI_hi _ _ _⟩ (by decide) (fun c34 => ?_) (fun c34 => ?_)
    · obtain ⟨hf, hS⟩ := hS (by omega)
      refine g_aload_n dX6_write_39 rfl ?_
      refine g_getR dX6_write_40 tF_6_47 lD_0 rfl ?_
      refine g_getR dX6_write_43 tF_6_190 lD_63 rfl ?_
      refine g_iconst (v := zI 0) dX6_write_46 (by decide) ?_
      refine g_aload_n dX6_write_47 rfl ?_
      refine g_getR dX6_write_48 tF_6_9 lD_0 rfl ?_
      refine g_iconst (v := zI 0) dX6_write_51 (by decide) ?_
      refine g_aload_n dX6_write_52 rfl ?_
      refine g_getR dX6_write_53 tF_6_47 lD_0 rfl ?_
      refine g_getZ (v := (n : Int)) dX6_write_56 tF_6_189 lD_63 rfl (by rw [← en, zI_v]) ?_
      refine g_acpy (na := 400) (nb := 400) dX6_write_59 tG_6_193 rfl lD_64 lD_1 (by omega) (by omega) hn31 hf (by decide) (fun T' hT hJ => ?_)
      have q63 : vI T' 63 1 = (n : Int) := by rw [← en]; unfold vI; rw [hT 63 1, if_neg (by omega)]
      refine g_aload_n dX6_write_62 rfl ?_
      refine g_aload_n dX6_write_63 rfl ?_
      refine g_getR dX6_write_64 tF_6_47 lD_0 rfl ?_
      refine g_getZ (v := (n : Int)) dX6_write_67 tF_6_189 lD_63 rfl (by rw [← q63, zI_v]) ?_
      refine g_putI dX6_write_70 tF_6_58 lD_0 rfl rfl ⟨rfl, rfl⟩ rfl ?_
      refine g_aload_n dX6_write_73 rfl ?_
      refine g_getZ (v := (n : Int)) dX6_write_74 tF_6_58 lD_0 rfl (by rw [gI_I, if_pos ⟨rfl, rfl⟩]) ?_
      exact g_iret dX6_write_77 rfl rfl (hS T' hT hJ)
    · refine g_iconst (v := zI (-1)) dX6_write_37 (by decide) ?_
      exact g_iret dX6_write_38 rfl rfl (hB (by omega))
  · refine g_bipush (v := zI (-2)) dX6_write_10 (by decide) ?_
    exact g_iret dX6_write_12 rfl rfl (h0 c7)
