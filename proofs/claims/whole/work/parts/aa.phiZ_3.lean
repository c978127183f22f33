/-! STRINGS ABOVE THE MODEL: length and charAt -/
section GK2
variable {P : mP} {lay : List mDs} {b : Nat} {E : Nat × mH} {d : Nat} {M : mM} {pc : Nat} {L : mL} {st : List Value} {T : gT} {Q : Option Value → gT → Prop}
theorem g_clen2 {a n : Nat} {t : FieldType} {f : (Nat → Int32) ⊕ (Nat → Int64) ⊕ (Nat → UInt32) ⊕ (Nat → UInt64) ⊕ (Nat → Option Nat)} (hd : decode (mCode M) pc = .ok (.arraylength, 1)) (ha : a < b ∨ (b + lay.length ≤ a ∧ a < E.1)) (hk : E.2 a = some (.inl (t, n, f))) (k : gW P lay b E d M (pc + 1) L (.int (nI n) :: st) T Q) : gW P lay b E d M pc L (.ref a :: st) T Q := by
  intro h hh
  refine mw_step hd (Or.inr rfl) (nx := (pc + 1, L, .int (nI n) :: st, (h, T.2.2))) ?_ (k h hh)
  have hc := (hh.2.1 a ha).trans hk
  simp only [mStep]
  rw [hc]
  rfl
theorem g_cget2 {i ci f a : Nat} {fs : List Value} {v : Value} (hd : decode (mCode M) pc = .ok (.getfield i, 3)) (hF : P.1 (mTag M) i = some (ci, f)) (ha : a < b ∨ (b + lay.length ≤ a ∧ a < E.1)) (hk : E.2 a = some (.inr (ci, fs))) (hv : fs[f]? = some v) (k : gW P lay b E d M (pc + 3) L (v :: st) T Q) : gW P lay b E d M pc L (.ref a :: st) T Q := by
  intro h hh
  refine mw_step hd (Or.inr rfl) (nx := (pc + 3, L, v :: st, (h, T.2.2))) ?_ (k h hh)
  have hc := (hh.2.1 a ha).trans hk
  simp only [mStep, hF]
  rw [hc]
  simp only [if_true, hv]
theorem g_cbald2 {a n q : Nat} {f : Nat → Int32} {j : Int32} (hd : decode (mCode M) pc = .ok (.baload, 1)) (ha : a < b ∨ (b + lay.length ≤ a ∧ a < E.1)) (hk : E.2 a = some (.inl (.byte, n, .inl f))) (hj : mIx j n = some q) (k : gW P lay b E d M (pc + 1) L (.int (f q) :: st) T Q) : gW P lay b E d M pc L (.int j :: .ref a :: st) T Q := by
  intro h hh
  refine mw_step hd (Or.inr rfl) (nx := (pc + 1, L, .int (f q) :: st, (h, T.2.2))) ?_ (k h hh)
  have hc := (hh.2.1 a ha).trans hk
  simp only [mStep, mAld]
  rw [hc]
  simp only [hj]
/-- a call on a constant -/
theorem g_callC2 {M' : mM} {k9 q a : Nat} {fs r : List Value} (as rest : List Value) (hd : decode (mCode M) pc = .ok (.invokevirtual k9, 3)) (hc : P.2.2.1 (mTag M) k9 = some (0, .inl q)) (hm : P.2.2.2.2.2 q = some M') (ha : a < b ∨ (b + lay.length ≤ a ∧ a < E.1)) (hk : E.2 a = some (.inr (mCi M', fs))) (hst : st = as.reverse ++ rest) (hn : as.length = mNa M') (hL : L.length = mMax M) (hw : mWide rest = true) (h20 : mMax M' ≤ 20) (hr : as = .ref a :: r)
    (k : gC P lay b E d M' as T (fun r T1 => gW P lay b E (d + 1) M (pc + 3) L (r.toList ++ rest) T1 Q)) : gW P lay b E (d + 1) M pc L st T Q := by
  intro h hh
  have e1 : (st.take (mNa M')).reverse = as := by
    rw [hst, ← hn, ← List.length_reverse, List.take_left, List.reverse_reverse]
  have e2 : st.drop (mNa M') = rest := by
    rw [hst, ← hn, ← List.length_reverse, List.drop_left]
  have hmay : mMay 0 M M' L st (h, T.2.2) = true := by
    unfold mMay
    rw [e1, e2]
    simp only [Bool.and_eq_true, decide_eq_true_eq, Bool.or_eq_true, beq_iff_eq]
    refine ⟨⟨⟨⟨⟨?_, hL⟩, hw⟩, k.1⟩, h20⟩, ?_⟩
    · rw [hst, ← hn]; simp
    · refine Or.inr ?_
      rw [if_pos trivial, hr]
      unfold mRcv
      dsimp only
      rw [(hh.2.1 a ha).trans hk]
      simp
  refine mw_call (kd := 0) hd rfl hc hm hmay ?_
  rw [e1, e2]
  exact (k.2 h hh).mono (Nat.le_refl _) (fun r S1 ⟨T1, h1, h2, h3⟩ => by
    have := h3 S1.1 h1
    rw [← h2] at this
    exact this)
end GK2
/-- the constant at a is the text s -/
def mStr2 (lay : List mDs) (E : Nat × mH) (b a : Nat) (s : List Nat) : Prop := ∃ (va : Nat) (f : Nat → Int32) (fs : List Value), (a < b ∨ (b + lay.length ≤ a ∧ a < E.1)) ∧ (va < b ∨ (b + lay.length ≤ va ∧ va < E.1)) ∧ E.2 a = some (.inr (0, .ref va :: .int 0 :: fs)) ∧ E.2 va = some (.inl (.byte, s.length, .inl f)) ∧ s.length < 1000 ∧ ∀ i, i < s.length → s.getD i 0 < 128 ∧ f i = nI (s.getD i 0)
section GS2
variable {lay : List mDs} {b : Nat} {E : Nat × mH}
theorem c_coder2 (sa : Nat → Nat) (d : Nat) (T : gT) {a va : Nat} {fs : List Value} (ha : a < b ∨ (b + lay.length ≤ a ∧ a < E.1)) (hk : E.2 a = some (.inr (0, .ref va :: .int 0 :: fs))) : gC (tP sa) lay b E d mJ0_coder_7d493 [.ref a] T (fun r T' => r = some (.int 0) ∧ T' = T) := by
  refine ⟨Nat.le_of_ble_eq_true rfl, ?_⟩
  refine g_getstatic dJ0_coder_7d493_0 (tZ_9_38 sa) ?_
  refine g_if_no dJ0_coder_7d493_3 rfl (by decide) ?_
  refine g_aload_n dJ0_coder_7d493_6 rfl ?_
  refine g_cget2 dJ0_coder_7d493_7 tF_9_15 ha hk rfl ?_
  refine g_goto dJ0_coder_7d493_10 rfl ?_
  exact g_iret dJ0_coder_7d493_14 rfl rfl ⟨rfl, rfl⟩
theorem c_isLatin12 (sa : Nat → Nat) (d : Nat) (T : gT) {a va : Nat} {fs : List Value} (ha : a < b ∨ (b + lay.length ≤ a ∧ a < E.1)) (hk : E.2 a = some (.inr (0, .ref va :: .int 0 :: fs))) : gC (tP sa) lay b E d mJ0_isLatin1_aae02 [.ref a] T (fun r T' => r = some (.int 1) ∧ T' = T) := by
  refine ⟨Nat.le_of_ble_eq_true rfl, ?_⟩
  refine g_getstatic dJ0_isLatin1_aae02_0 (tZ_9_38 sa) ?_
  refine g_if_no dJ0_isLatin1_aae02_3 rfl (by decide) ?_
  refine g_aload_n dJ0_isLatin1_aae02_6 rfl ?_
  refine g_cget2 dJ0_isLatin1_aae02_7 tF_9_15 ha hk rfl ?_
  refine g_if_no dJ0_isLatin1_aae02_10 rfl (by decide) ?_
  refine g_iconst (v := 1) dJ0_isLatin1_aae02_13 (by decide) ?_
  refine g_goto dJ0_isLatin1_aae02_14 rfl ?_
  exact g_iret dJ0_isLatin1_aae02_18 rfl rfl ⟨rfl, rfl⟩
theorem c_length2 (sa : Nat → Nat) (d : Nat) (T : gT) {a : Nat} {s : List Nat} (hs : mStr2 lay E b a s) : gC (tP sa) lay b E (d + 1) mJ0_length_8abf5 [.ref a] T (fun r T' => r = some (.int (nI s.length)) ∧ T' = T) := by
  obtain ⟨va, f, fs, ha, hva, h1, h2, h3, h4⟩ := hs
  refine ⟨Nat.le_of_ble_eq_true rfl, ?_⟩
  refine g_aload_n dJ0_length_8abf5_0 rfl ?_
  refine g_cget2 dJ0_length_8abf5_1 tF_9_9 ha h1 rfl ?_
  refine g_clen2 dJ0_length_8abf5_4 hva h2 ?_
  refine g_aload_n dJ0_length_8abf5_5 rfl ?_
  refine g_callC2 [.ref a] [.int (nI s.length)] dJ0_length_8abf5_6 tG_9_335 tM_181 ha h1 rfl rfl rfl rfl (by decide) rfl ?_
  refine gC.mono (c_coder2 sa d T ha h1) (Nat.le_refl _) ?_
  rintro _ _ ⟨rfl, h9⟩
  obtain rfl := h9.symm
  refine g_ishr dJ0_length_8abf5_9 ?_
  exact g_iret dJ0_length_8abf5_10 rfl rfl ⟨congrArg some (congrArg Value.int (sb_shr0 _)), rfl⟩
theorem c_lcharAt2 (sa : Nat → Nat) (d : Nat) (T : gT) {va k : Nat} {f : Nat → Int32} {s : List Nat} (hva : va < b ∨ (b + lay.length ≤ va ∧ va < E.1)) (h2 : E.2 va = some (.inl (.byte, s.length, .inl f))) (h3 : s.length < 1000) (h4 : ∀ i, i < s.length → s.getD i 0 < 128 ∧ f i = nI (s.getD i 0)) (hk : k < s.length) : gC (tP sa) lay b E (d + 2) mJ1_charAt_3b067 [.ref va, .int (nI k)] T (fun r T' => r = some (.int (nI (s.getD k 0))) ∧ T' = T) := by
  refine ⟨Nat.le_of_ble_eq_true rfl, ?_⟩
  refine g_iload_n dJ1_charAt_3b067_0 rfl ?_
  refine g_aload_n dJ1_charAt_3b067_1 rfl ?_
  refine g_clen2 dJ1_charAt_3b067_2 hva h2 ?_
  refine g_callS [.int (nI k), .int (nI s.length)] [] dJ1_charAt_3b067_3 tG_10_9 tM_189 rfl rfl rfl rfl (by decide) ?_
  refine gC.mono (c_scheck sa d T hk (by omega)) (Nat.le_refl _) ?_
  rintro _ _ ⟨rfl, h9⟩
  obtain rfl := h9.symm
  refine g_aload_n dJ1_charAt_3b067_6 rfl ?_
  refine g_iload_n dJ1_charAt_3b067_7 rfl ?_
  refine g_cbald2 dJ1_charAt_3b067_8 hva h2 (mIx_nI hk (by omega)) ?_
  refine g_sipush (v := nI 255) dJ1_charAt_3b067_9 (by decide) ?_
  refine g_iand dJ1_charAt_3b067_12 ?_
  refine g_i2c dJ1_charAt_3b067_13 ?_
  rw [(h4 k hk).2, ch7 _ (h4 k hk).1]
  exact g_iret dJ1_charAt_3b067_14 rfl (chn _ (h4 k hk).1) ⟨rfl, rfl⟩
theorem c_charAt2 (sa : Nat → Nat) (d : Nat) (T : gT) {a k : Nat} {s : List Nat} (hs : mStr2 lay E b a s) (hk : k < s.length) : gC (tP sa) lay b E (d + 3) mJ0_charAt_5068e [.ref a, .int (nI k)] T (fun r T' => r = some (.int (nI (s.getD k 0))) ∧ T' = T) := by
  obtain ⟨va, f, fs, ha, hva, h1, h2, h3, h4⟩ := hs
  refine ⟨Nat.le_of_ble_eq_true rfl, ?_⟩
  refine g_aload_n dJ0_charAt_5068e_0 rfl ?_
  refine g_callC2 [.ref a] [] dJ0_charAt_5068e_1 tG_9_492 tM_182 ha h1 rfl rfl rfl rfl (by decide) rfl ?_
  refine gC.mono (c_isLatin12 sa (d + 2) T ha h1) (Nat.le_refl _) ?_
  rintro _ _ ⟨rfl, h9⟩
  obtain rfl := h9.symm
  refine g_if_no dJ0_charAt_5068e_4 rfl (by decide) ?_
  refine g_aload_n dJ0_charAt_5068e_7 rfl ?_
  refine g_cget2 dJ0_charAt_5068e_8 tF_9_9 ha h1 rfl ?_
  refine g_iload_n dJ0_charAt_5068e_11 rfl ?_
  refine g_callS [.ref va, .int (nI k)] [] dJ0_charAt_5068e_12 tG_9_495 tM_186 rfl rfl rfl rfl (by decide) ?_
  refine gC.mono (c_lcharAt2 sa d T hva h2 h3 h4 hk) (Nat.le_refl _) ?_
  rintro _ _ ⟨rfl, h9⟩
  obtain rfl := h9.symm
  exact g_iret dJ0_charAt_5068e_15 rfl (chn _ (h4 k hk).1) ⟨rfl, rfl⟩
end GS2
theorem c_charZ2 (sa : Nat → Nat) (d : Nat) (T : gT) {lay : List mDs} {b : Nat} {E : Nat × mH} {a : Nat} {z : Int} {s : List Nat} (hs : mStr2 lay E b a s) (h0 : 0 ≤ z) (h1 : z < (s.length : Int)) : gC (tP sa) lay b E (d + 3) mJ0_charAt_5068e [.ref a, .int (zI z)] T (fun r T' => r = some (.int (nI (s.getD z.toNat 0))) ∧ T' = T) := by
  rw [zn_of h0]
  exact c_charAt2 sa d T hs (by omega)

set_option maxRecDepth 4000 in
theorem y_sayWord {sa : Nat → Nat} {b : Nat} {E : Nat × mH} {d : Nat} {l1 : Nat} {l1w : List Nat} {T : gT} {Q : Option Value → gT → Prop} (hs_l1 : mStr2 lM E b l1 l1w) (h : f_X7_sayWord sa b E d l1 l1w T Q) : gC (tP sa) lM b E (d + 3 + 1) mX7_sayWord [.ref (b + 0), .ref (l1)] T Q := by
  unfold f_X7_sayWord at h
  obtain ⟨va_hs_l1, f_hs_l1, fs_hs_l1, ha_hs_l1, _, hk_hs_l1, _⟩ := id hs_l1
  refine ⟨Nat.le_of_ble_eq_true rfl, ?_⟩
  show gW (tP sa) lM b E (d + 3 + 1) mX7_sayWord 0 [some (.ref (b + 0)), some (.ref (l1)), none] [] T Q
  refine g_iconst (v := zI 0) dX7_sayWord_0 (by decide) ?_
  refine g_istore_n (L' := [some (.ref (b + 0)), some (.ref (l1)), some (.int (zI 0))]) dX7_sayWord_1 rfl ?_
  exact h
set_option maxRecDepth 4000 in
theorem y_sayWord_2 {sa : Nat → Nat} {b : Nat} {E : Nat × mH} {d : Nat} {l1 : Nat} {l1w : List Nat} {l2 : Int} {T : gT} {Q : Option Value → gT → Prop} (hs_l1 : mStr2 lM E b l1 l1w) (h : f_X7_sayWord_2 sa b E d l1 l1w l2 T Q) : gW (tP sa) lM b E (d + 3 + 1) mX7_sayWord 2 [some (.ref (b + 0)), some (.ref (l1)), some (.int (zI l2))] [] T Q := by
  unfold f_X7_sayWord_2 at h
  obtain ⟨va_hs_l1, f_hs_l1, fs_hs_l1, ha_hs_l1, _, hk_hs_l1, _⟩ := id hs_l1
  refine g_iload_n dX7_sayWord_2 rfl ?_
  refine g_aload_n dX7_sayWord_3 rfl ?_
  refine g_callC2 [.ref (l1)] [.int (zI l2)] dX7_sayWord_4 tG_7_136 tM_179 ha_hs_l1 hk_hs_l1 rfl rfl rfl rfl (by decide) rfl ?_
  refine gC.mono (c_length2 sa _ _ hs_l1) (Nat.add_le_add_left (by decide) _) ?_
  rintro _ _ ⟨rfl, h9⟩
  obtain rfl := h9.symm
  rw [zI_nat]
  obtain ⟨a1, h⟩ := h
  obtain ⟨a2, h⟩ := h
  refine g_icmp_geZ dX7_sayWord_7 rfl a1 a2 (fun c7 => ?_) (fun c7 => ?_)
  · replace h := h.1 c7
    exact g_vret dX7_sayWord_25 rfl h
  · replace h := h.2 c7
    refine g_aload_n dX7_sayWord_10 rfl ?_
    refine g_aload_n dX7_sayWord_11 rfl ?_
    refine g_iload_n dX7_sayWord_12 rfl ?_
    obtain ⟨a3, h⟩ := h
    obtain ⟨a4, h⟩ := h
    refine g_callC2 [.ref (l1), .int (zI l2)] [.ref (b + 0)] dX7_sayWord_13 tG_7_144 tM_180 ha_hs_l1 hk_hs_l1 rfl rfl rfl rfl (by decide) rfl ?_
    refine gC.mono (c_charZ2 sa _ _ hs_l1 a3 a4) (Nat.le_refl _) ?_
    rintro _ _ ⟨rfl, h9⟩
    obtain rfl := h9.symm
    rw [zI_nat]
    refine g_callV [.ref (b + 0), .int (zI ((l1w.getD l2.toNat 0 : Nat) : Int))] [] dX7_sayWord_16 tG_7_332 tM_171 lM_0 rfl rfl rfl rfl (by decide) rfl ?_
    refine gC.mono h (Nat.le_refl _) ?_
    rintro _ T16 ⟨rfl, h⟩
    refine g_iinc (x := zI l2) (v := zI (l2 + 1)) (L' := [some (.ref (b + 0)), some (.ref (l1)), some (.int (zI (l2 + 1)))]) dX7_sayWord_19 rfl (zI_add _ _) rfl ?_
    refine g_goto dX7_sayWord_22 rfl ?_
    exact h