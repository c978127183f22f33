/-! STRING CONSTANTS (below b): length and charAt -/
section GK
variable {P : mP} {lay : List mDs} {b : Nat} {E : Nat × mH} {d : Nat} {M : mM} {pc : Nat} {L : mL} {st : List Value} {T : gT} {Q : Option Value → gT → Prop}
theorem g_cget {i ci f a : Nat} {fs : List Value} {v : Value} (hd : decode (mCode M) pc = .ok (.getfield i, 3)) (hF : P.1 (mTag M) i = some (ci, f)) (ha : a < b) (hk : E.2 a = some (.inr (ci, fs))) (hv : fs[f]? = some v) (k : gW P lay b E d M (pc + 3) L (v :: st) T Q) : gW P lay b E d M pc L (.ref a :: st) T Q := by
  intro h hh
  refine mw_step hd (Or.inr rfl) (nx := (pc + 3, L, v :: st, (h, T.2.2))) ?_ (k h hh)
  have hc := (hh.2.1 a (Or.inl ha)).trans hk
  simp only [mStep, hF]
  rw [hc]
  simp only [if_true, hv]
theorem g_cbald {a n q : Nat} {f : Nat → Int32} {j : Int32} (hd : decode (mCode M) pc = .ok (.baload, 1)) (ha : a < b) (hk : E.2 a = some (.inl (.byte, n, .inl f))) (hj : mIx j n = some q) (k : gW P lay b E d M (pc + 1) L (.int (f q) :: st) T Q) : gW P lay b E d M pc L (.int j :: .ref a :: st) T Q := by
  intro h hh
  refine mw_step hd (Or.inr rfl) (nx := (pc + 1, L, .int (f q) :: st, (h, T.2.2))) ?_ (k h hh)
  have hc := (hh.2.1 a (Or.inl ha)).trans hk
  simp only [mStep, mAld]
  rw [hc]
  simp only [hj]
/-- a call on a constant -/
theorem g_callC {M' : mM} {k9 q a : Nat} {fs r : List Value} (as rest : List Value) (hd : decode (mCode M) pc = .ok (.invokevirtual k9, 3)) (hc : P.2.2.1 (mTag M) k9 = some (0, .inl q)) (hm : P.2.2.2.2.2 q = some M') (ha : a < b) (hk : E.2 a = some (.inr (mCi M', fs))) (hst : st = as.reverse ++ rest) (hn : as.length = mNa M') (hL : L.length = mMax M) (hw : mWide rest = true) (h20 : mMax M' ≤ 20) (hr : as = .ref a :: r)
    (k : gC P lay b E d M' as T (fun r T1 => gW P lay b E (d + 1) M (pc + 3) L (r.toList ++ rest) T1 Q)) : gW P lay b E (d + 1) M pc L st T Q := by
  intro h hh
  have e1 : (st.take (mNa M')).reverse = as := by
    rw [hst, ← hn, ← List.length_reverse, List.take_left, List.reverse_reverse]
  have e2 : st.drop (mNa M') = rest := by
    rw [hst, ← hn, ← List.length_reverse, List.drop_left]
  have hmay : mMay 0 M M' L st (h, T.2.2) = true := by
    unfold mMay
    rw [e1, e2]
    simp only [Bool.and_eq_true, decide_eq_true_eq, Bool.or_eq_true, beq_iff_eq]
    refine ⟨⟨⟨⟨⟨?_, hL⟩, hw⟩, k.1⟩, h20⟩, ?_⟩
    · rw [hst, ← hn]; simp
    · refine Or.inr ?_
      rw [if_pos trivial, hr]
      unfold mRcv
      dsimp only
      rw [(hh.2.1 a (Or.inl ha)).trans hk]
      simp
  refine mw_call (kd := 0) hd rfl hc hm hmay ?_
  rw [e1, e2]
  exact (k.2 h hh).mono (Nat.le_refl _) (fun r S1 ⟨T1, h1, h2, h3⟩ => by
    have := h3 S1.1 h1
    rw [← h2] at this
    exact this)
end GK
/-- the constant at a is the text s -/
def mStr (E : Nat × mH) (b a : Nat) (s : List Nat) : Prop := ∃ (va : Nat) (f : Nat → Int32) (fs : List Value), a < b ∧ va < b ∧ E.2 a = some (.inr (0, .ref va :: .int 0 :: fs)) ∧ E.2 va = some (.inl (.byte, s.length, .inl f)) ∧ s.length < 1000 ∧ ∀ i, i < s.length → s.getD i 0 < 128 ∧ f i = nI (s.getD i 0)
theorem ch7 : ∀ c, c < 128 → ((nI c &&& nI 255).toUInt32 % 65536).toInt32 = nI c := by decide +kernel
theorem chn : ∀ c, c < 128 → narrow .char (.int (nI c)) = .int (nI c) := by decide +kernel
section GS
variable {lay : List mDs} {b : Nat} {E : Nat × mH}
theorem c_coder (sa : Nat → Nat) (d : Nat) (T : gT) {a va : Nat} {fs : List Value} (ha : a < b) (hk : E.2 a = some (.inr (0, .ref va :: .int 0 :: fs))) : gC (tP sa) lay b E d mJ0_coder_7d493 [.ref a] T (fun r T' => r = some (.int 0) ∧ T' = T) := by
  refine ⟨Nat.le_of_ble_eq_true rfl, ?_⟩
  refine g_getstatic dJ0_coder_7d493_0 (tZ_9_38 sa) ?_
  refine g_if_no dJ0_coder_7d493_3 rfl (by decide) ?_
  refine g_aload_n dJ0_coder_7d493_6 rfl ?_
  refine g_cget dJ0_coder_7d493_7 tF_9_15 ha hk rfl ?_
  refine g_goto dJ0_coder_7d493_10 rfl ?_
  exact g_iret dJ0_coder_7d493_14 rfl rfl ⟨rfl, rfl⟩
theorem c_isLatin1 (sa : Nat → Nat) (d : Nat) (T : gT) {a va : Nat} {fs : List Value} (ha : a < b) (hk : E.2 a = some (.inr (0, .ref va :: .int 0 :: fs))) : gC (tP sa) lay b E d mJ0_isLatin1_aae02 [.ref a] T (fun r T' => r = some (.int 1) ∧ T' = T) := by
  refine ⟨Nat.le_of_ble_eq_true rfl, ?_⟩
  refine g_getstatic dJ0_isLatin1_aae02_0 (tZ_9_38 sa) ?_
  refine g_if_no dJ0_isLatin1_aae02_3 rfl (by decide) ?_
  refine g_aload_n dJ0_isLatin1_aae02_6 rfl ?_
  refine g_cget dJ0_isLatin1_aae02_7 tF_9_15 ha hk rfl ?_
  refine g_if_no dJ0_isLatin1_aae02_10 rfl (by decide) ?_
  refine g_iconst (v := 1) dJ0_isLatin1_aae02_13 (by decide) ?_
  refine g_goto dJ0_isLatin1_aae02_14 rfl ?_
  exact g_iret dJ0_isLatin1_aae02_18 rfl rfl ⟨rfl, rfl⟩
theorem c_length (sa : Nat → Nat) (d : Nat) (T : gT) {a : Nat} {s : List Nat} (hs : mStr E b a s) : gC (tP sa) lay b E (d + 1) mJ0_length_8abf5 [.ref a] T (fun r T' => r = some (.int (nI s.length)) ∧ T' = T) := by
  obtain ⟨va, f, fs, ha, hva, h1, h2, h3, h4⟩ := hs
  refine ⟨Nat.le_of_ble_eq_true rfl, ?_⟩
  refine g_aload_n dJ0_length_8abf5_0 rfl ?_
  refine g_cget dJ0_length_8abf5_1 tF_9_9 ha h1 rfl ?_
  refine g_clen dJ0_length_8abf5_4 hva h2 ?_
  refine g_aload_n dJ0_length_8abf5_5 rfl ?_
  refine g_callC [.ref a] [.int (nI s.length)] dJ0_length_8abf5_6 tG_9_335 tM_181 ha h1 rfl rfl rfl rfl (by decide) rfl ?_
  refine gC.mono (c_coder sa d T ha h1) (Nat.le_refl _) ?_
  rintro _ _ ⟨rfl, h9⟩
  obtain rfl := h9.symm
  refine g_ishr dJ0_length_8abf5_9 ?_
  exact g_iret dJ0_length_8abf5_10 rfl rfl ⟨congrArg some (congrArg Value.int (sb_shr0 _)), rfl⟩
theorem tSv_ref (sa : Nat → Nat) : tSv sa = .null ∨ ∃ x, tSv sa = .ref x := by
  unfold tSv
  split
  · exact Or.inl rfl
  · exact Or.inr ⟨_, rfl⟩
theorem c_pcheck (sa : Nat → Nat) (d : Nat) (T : gT) {k n : Nat} {v : Value} (hv : v = .null ∨ ∃ x, v = .ref x) (hk : k < n) (hn : n < 2 ^ 31) : gC (tP sa) lay b E d mJ3_checkIndex_8e157 [.int (nI k), .int (nI n), v] T (fun r T' => r = some (.int (nI k)) ∧ T' = T) := by
  have he : mEn [.int (nI k), .int (nI n), v] (mMax mJ3_checkIndex_8e157) = [some (.int (nI k)), some (.int (nI n)), some v] := by
    rcases hv with rfl | ⟨x, rfl⟩ <;> rfl
  refine ⟨by rcases hv with rfl | ⟨x, rfl⟩ <;> exact Nat.le_of_ble_eq_true rfl, ?_⟩
  rw [he]
  refine g_iload_n dJ3_checkIndex_8e157_0 rfl ?_
  refine g_if_lt dJ3_checkIndex_8e157_1 rfl (fun h => absurd h (nI_pos (by omega))) (fun _ => ?_)
  refine g_iload_n dJ3_checkIndex_8e157_4 rfl ?_
  refine g_iload_n dJ3_checkIndex_8e157_5 rfl ?_
  refine g_icmp_ltN dJ3_checkIndex_8e157_6 rfl (by omega) hn (fun _ => ?_) (fun h => absurd h (by omega))
  refine g_iload_n dJ3_checkIndex_8e157_16 rfl ?_
  exact g_iret dJ3_checkIndex_8e157_17 rfl rfl ⟨rfl, rfl⟩
theorem c_scheck (sa : Nat → Nat) (d : Nat) (T : gT) {k n : Nat} (hk : k < n) (hn : n < 2 ^ 31) : gC (tP sa) lay b E (d + 1) mJ0_checkIndex_df160 [.int (nI k), .int (nI n)] T (fun r T' => r = none ∧ T' = T) := by
  refine ⟨Nat.le_of_ble_eq_true rfl, ?_⟩
  refine g_iload_n dJ0_checkIndex_df160_0 rfl ?_
  refine g_iload_n dJ0_checkIndex_df160_1 rfl ?_
  refine g_getstatic dJ0_checkIndex_df160_2 (tZ_9_1053 sa) ?_
  refine g_callS [.int (nI k), .int (nI n), tSv sa] [] dJ0_checkIndex_df160_5 tG_9_1059 tM_192 rfl rfl rfl rfl (by decide) ?_
  refine gC.mono (c_pcheck sa d T (tSv_ref sa) hk hn) (Nat.le_refl _) ?_
  rintro _ _ ⟨rfl, h9⟩
  obtain rfl := h9.symm
  refine g_pop dJ0_checkIndex_df160_8 rfl ?_
  exact g_vret dJ0_checkIndex_df160_9 rfl ⟨rfl, rfl⟩
theorem c_lcharAt (sa : Nat → Nat) (d : Nat) (T : gT) {va k : Nat} {f : Nat → Int32} {s : List Nat} (hva : va < b) (h2 : E.2 va = some (.inl (.byte, s.length, .inl f))) (h3 : s.length < 1000) (h4 : ∀ i, i < s.length → s.getD i 0 < 128 ∧ f i = nI (s.getD i 0)) (hk : k < s.length) : gC (tP sa) lay b E (d + 2) mJ1_charAt_3b067 [.ref va, .int (nI k)] T (fun r T' => r = some (.int (nI (s.getD k 0))) ∧ T' = T) := by
  refine ⟨Nat.le_of_ble_eq_true rfl, ?_⟩
  refine g_iload_n dJ1_charAt_3b067_0 rfl ?_
  refine g_aload_n dJ1_charAt_3b067_1 rfl ?_
  refine g_clen dJ1_charAt_3b067_2 hva h2 ?_
  refine g_callS [.int (nI k), .int (nI s.length)] [] dJ1_charAt_3b067_3 tG_10_9 tM_189 rfl rfl rfl rfl (by decide) ?_
  refine gC.mono (c_scheck sa d T hk (by omega)) (Nat.le_refl _) ?_
  rintro _ _ ⟨rfl, h9⟩
  obtain rfl := h9.symm
  refine g_aload_n dJ1_charAt_3b067_6 rfl ?_
  refine g_iload_n dJ1_charAt_3b067_7 rfl ?_
  refine g_cbald dJ1_charAt_3b067_8 hva h2 (mIx_nI hk (by omega)) ?_
  refine g_sipush (v := nI 255) dJ1_charAt_3b067_9 (by decide) ?_
  refine g_iand dJ1_charAt_3b067_12 ?_
  refine g_i2c dJ1_charAt_3b067_13 ?_
  rw [(h4 k hk).2, ch7 _ (h4 k hk).1]
  exact g_iret dJ1_charAt_3b067_14 rfl (chn _ (h4 k hk).1) ⟨rfl, rfl⟩
theorem c_charAt (sa : Nat → Nat) (d : Nat) (T : gT) {a k : Nat} {s : List Nat} (hs : mStr E b a s) (hk : k < s.length) : gC (tP sa) lay b E (d + 3) mJ0_charAt_5068e [.ref a, .int (nI k)] T (fun r T' => r = some (.int (nI (s.getD k 0))) ∧ T' = T) := by
  obtain ⟨va, f, fs, ha, hva, h1, h2, h3, h4⟩ := hs
  refine ⟨Nat.le_of_ble_eq_true rfl, ?_⟩
  refine g_aload_n dJ0_charAt_5068e_0 rfl ?_
  refine g_callC [.ref a] [] dJ0_charAt_5068e_1 tG_9_492 tM_182 ha h1 rfl rfl rfl rfl (by decide) rfl ?_
  refine gC.mono (c_isLatin1 sa (d + 2) T ha h1) (Nat.le_refl _) ?_
  rintro _ _ ⟨rfl, h9⟩
  obtain rfl := h9.symm
  refine g_if_no dJ0_charAt_5068e_4 rfl (by decide) ?_
  refine g_aload_n dJ0_charAt_5068e_7 rfl ?_
  refine g_cget dJ0_charAt_5068e_8 tF_9_9 ha h1 rfl ?_
  refine g_iload_n dJ0_charAt_5068e_11 rfl ?_
  refine g_callS [.ref va, .int (nI k)] [] dJ0_charAt_5068e_12 tG_9_495 tM_186 rfl rfl rfl rfl (by decide) ?_
  refine gC.mono (c_lcharAt sa d T hva h2 h3 h4 hk) (Nat.le_refl _) ?_
  rintro _ _ ⟨rfl, h9⟩
  obtain rfl := h9.symm
  exact g_iret dJ0_charAt_5068e_15 rfl (chn _ (h4 k hk).1) ⟨rfl, rfl⟩
end GS
