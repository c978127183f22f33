/-! rows over naturals (nI n), and memory reads -/
theorem mIx_nI {q n : Nat} (h : q < n) (hn : n < 2 ^ 31) : mIx (nI q) n = some q := by
  unfold mIx
  rw [if_neg (nI_in h hn), nI_clamp (by omega)]
theorem gI_I {T : gT} {k j k2 j2 : Nat} {x : Int32} : (gI T k j x).1 k2 j2 = if k2 = k ∧ j2 = j then x else T.1 k2 j2 := by
  unfold gI
  dsimp only
  by_cases e : k2 = k
  · subst e
    rw [va_up_self]
    by_cases e2 : j2 = j
    · subst e2
      rw [pk_us, if_pos ⟨rfl, rfl⟩]
    · rw [pk_un e2, if_neg (fun h => e2 h.2)]
  · rw [va_up_ne _ _ e, if_neg (fun h => e h.1)]
theorem gJ_J {T : gT} {k j k2 j2 : Nat} {x : Int64} : (gJ T k j x).2.1 k2 j2 = if k2 = k ∧ j2 = j then x else T.2.1 k2 j2 := by
  unfold gJ
  dsimp only
  by_cases e : k2 = k
  · subst e
    rw [va_up_self]
    by_cases e2 : j2 = j
    · subst e2
      rw [pk_uLs, if_pos ⟨rfl, rfl⟩]
    · rw [pk_uLn e2, if_neg (fun h => e2 h.2)]
  · rw [va_up_ne _ _ e, if_neg (fun h => e h.1)]
theorem gI_J {T : gT} {k j : Nat} {x : Int32} : (gI T k j x).2 = T.2 := rfl
theorem gJ_I {T : gT} {k j : Nat} {x : Int64} : (gJ T k j x).1 = T.1 := rfl
/-- a byte array's row is kept apart from others -/
theorem gI_row {T : gT} {k j k2 : Nat} {x : Int32} (h : k2 ≠ k) : (gI T k j x).1 k2 = T.1 k2 := va_up_ne _ _ h
theorem gJ_row {T : gT} {k j k2 : Nat} {x : Int64} (h : k2 ≠ k) : (gJ T k j x).2.1 k2 = T.2.1 k2 := va_up_ne _ _ h
section GN
variable {P : mP} {lay : List mDs} {b : Nat} {E : Nat × mH} {d : Nat} {M : mM} {pc : Nat} {L : mL} {st : List Value} {T : gT} {Q : Option Value → gT → Prop}
theorem g_getIv {i ci f k9 : Nat} {fs : List Nat} {v : Int32} (hd : decode (mCode M) pc = .ok (.getfield i, 3)) (hF : P.1 (mTag M) i = some (ci, f)) (hk : lay[k9]? = some (.inr (.inl (ci, fs)))) (hf : fs[f]? = some 0) (hv : T.1 k9 f = v) (k : gW P lay b E d M (pc + 3) L (.int v :: st) T Q) : gW P lay b E d M pc L (.ref (b + k9) :: st) T Q := g_getI hd hF hk hf (by rw [hv]; exact k)
theorem g_getJv {i ci f k9 : Nat} {fs : List Nat} {v : Int64} (hd : decode (mCode M) pc = .ok (.getfield i, 3)) (hF : P.1 (mTag M) i = some (ci, f)) (hk : lay[k9]? = some (.inr (.inl (ci, fs)))) (hf : fs[f]? = some 1) (hv : T.2.1 k9 f = v) (k : gW P lay b E d M (pc + 3) L (.long v :: st) T Q) : gW P lay b E d M pc L (.ref (b + k9) :: st) T Q := g_getJ hd hF hk hf (by rw [hv]; exact k)
theorem g_ialdv {k9 n q : Nat} {v : Int32} (hd : decode (mCode M) pc = .ok (.iaload, 1)) (hk : lay[k9]? = some (.inl (0, n))) (hq : q < n) (hn : n < 2 ^ 31) (hv : T.1 k9 q = v) (k : gW P lay b E d M (pc + 1) L (.int v :: st) T Q) : gW P lay b E d M pc L (.int (nI q) :: .ref (b + k9) :: st) T Q := g_iald hd hk (mIx_nI hq hn) (by rw [hv]; exact k)
theorem g_baldv {k9 n q : Nat} {v : Int32} (hd : decode (mCode M) pc = .ok (.baload, 1)) (hk : lay[k9]? = some (.inl (1, n))) (hq : q < n) (hn : n < 2 ^ 31) (hv : T.1 k9 q = v) (k : gW P lay b E d M (pc + 1) L (.int v :: st) T Q) : gW P lay b E d M pc L (.int (nI q) :: .ref (b + k9) :: st) T Q := g_bald hd hk (mIx_nI hq hn) (by rw [hv]; exact k)
theorem g_zaldv {k9 n q : Nat} {v : Int32} (hd : decode (mCode M) pc = .ok (.baload, 1)) (hk : lay[k9]? = some (.inl (2, n))) (hq : q < n) (hn : n < 2 ^ 31) (hv : T.1 k9 q = v) (k : gW P lay b E d M (pc + 1) L (.int v :: st) T Q) : gW P lay b E d M pc L (.int (nI q) :: .ref (b + k9) :: st) T Q := g_zald hd hk (mIx_nI hq hn) (by rw [hv]; exact k)
theorem g_laldv {k9 n q : Nat} {v : Int64} (hd : decode (mCode M) pc = .ok (.laload, 1)) (hk : lay[k9]? = some (.inl (3, n))) (hq : q < n) (hn : n < 2 ^ 31) (hv : T.2.1 k9 q = v) (k : gW P lay b E d M (pc + 1) L (.long v :: st) T Q) : gW P lay b E d M pc L (.int (nI q) :: .ref (b + k9) :: st) T Q := g_lald hd hk (mIx_nI hq hn) (by rw [hv]; exact k)
theorem g_iastN {k9 n q : Nat} {x : Int32} (hd : decode (mCode M) pc = .ok (.iastore, 1)) (hk : lay[k9]? = some (.inl (0, n))) (hq : q < n) (hn : n < 2 ^ 31) (k : gW P lay b E d M (pc + 1) L st (gI T k9 q x) Q) : gW P lay b E d M pc L (.int x :: .int (nI q) :: .ref (b + k9) :: st) T Q := g_iast hd hk (mIx_nI hq hn) k
theorem g_bastN {k9 n q : Nat} {x : Int32} (hd : decode (mCode M) pc = .ok (.bastore, 1)) (hk : lay[k9]? = some (.inl (1, n))) (hq : q < n) (hn : n < 2 ^ 31) (k : gW P lay b E d M (pc + 1) L st (gI T k9 q (vp_nar .byte x)) Q) : gW P lay b E d M pc L (.int x :: .int (nI q) :: .ref (b + k9) :: st) T Q := g_bast hd hk (mIx_nI hq hn) k
theorem g_zastN {k9 n q : Nat} {x : Int32} (hd : decode (mCode M) pc = .ok (.bastore, 1)) (hk : lay[k9]? = some (.inl (2, n))) (hq : q < n) (hn : n < 2 ^ 31) (k : gW P lay b E d M (pc + 1) L st (gI T k9 q (vp_nar .boolean x)) Q) : gW P lay b E d M pc L (.int x :: .int (nI q) :: .ref (b + k9) :: st) T Q := g_zast hd hk (mIx_nI hq hn) k
theorem g_lastN {k9 n q : Nat} {x : Int64} (hd : decode (mCode M) pc = .ok (.lastore, 1)) (hk : lay[k9]? = some (.inl (3, n))) (hq : q < n) (hn : n < 2 ^ 31) (k : gW P lay b E d M (pc + 1) L st (gJ T k9 q x) Q) : gW P lay b E d M pc L (.long x :: .int (nI q) :: .ref (b + k9) :: st) T Q := g_last hd hk (mIx_nI hq hn) k
theorem g_iaddN {x y : Nat} (hd : decode (mCode M) pc = .ok (.iadd, 1)) (k : gW P lay b E d M (pc + 1) L (.int (nI (x + y)) :: st) T Q) : gW P lay b E d M pc L (.int (nI y) :: .int (nI x) :: st) T Q := g_iadd hd (by rw [nI_add]; exact k)
theorem g_isubN {x y : Nat} (hd : decode (mCode M) pc = .ok (.isub, 1)) (h : y ≤ x) (k : gW P lay b E d M (pc + 1) L (.int (nI (x - y)) :: st) T Q) : gW P lay b E d M pc L (.int (nI y) :: .int (nI x) :: st) T Q := g_isub hd (by rw [pk_sub h]; exact k)
theorem g_imulN {x y : Nat} (hd : decode (mCode M) pc = .ok (.imul, 1)) (k : gW P lay b E d M (pc + 1) L (.int (nI (x * y)) :: st) T Q) : gW P lay b E d M pc L (.int (nI y) :: .int (nI x) :: st) T Q := g_imul hd (by rw [pk_mul]; exact k)
theorem g_icmp_ltN {off : Int} {t x y : Nat} (hd : decode (mCode M) pc = .ok (.if_icmp .lt off, 3)) (ht : mTg pc off = some t) (hx : x < 2 ^ 31) (hy : y < 2 ^ 31) (kt : x < y → gW P lay b E d M t L st T Q) (kf : y ≤ x → gW P lay b E d M (pc + 3) L st T Q) : gW P lay b E d M pc L (.int (nI y) :: .int (nI x) :: st) T Q := g_icmp_lt hd ht (fun h => kt ((nI_ltI hx hy).mp h)) (fun h => kf (Nat.not_lt.mp fun z => h ((nI_ltI hx hy).mpr z)))
theorem g_icmp_geN {off : Int} {t x y : Nat} (hd : decode (mCode M) pc = .ok (.if_icmp .ge off, 3)) (ht : mTg pc off = some t) (hx : x < 2 ^ 31) (hy : y < 2 ^ 31) (kt : y ≤ x → gW P lay b E d M t L st T Q) (kf : x < y → gW P lay b E d M (pc + 3) L st T Q) : gW P lay b E d M pc L (.int (nI y) :: .int (nI x) :: st) T Q := g_icmp_ge hd ht (fun h => kt ((nI_leI hy hx).mp h)) (fun h => kf (Nat.not_le.mp fun z => h ((nI_leI hy hx).mpr z)))
theorem g_icmp_gtN {off : Int} {t x y : Nat} (hd : decode (mCode M) pc = .ok (.if_icmp .gt off, 3)) (ht : mTg pc off = some t) (hx : x < 2 ^ 31) (hy : y < 2 ^ 31) (kt : y < x → gW P lay b E d M t L st T Q) (kf : x ≤ y → gW P lay b E d M (pc + 3) L st T Q) : gW P lay b E d M pc L (.int (nI y) :: .int (nI x) :: st) T Q := g_icmp_gt hd ht (fun h => kt ((nI_ltI hy hx).mp h)) (fun h => kf (Nat.not_lt.mp fun z => h ((nI_ltI hy hx).mpr z)))
theorem g_icmp_leN {off : Int} {t x y : Nat} (hd : decode (mCode M) pc = .ok (.if_icmp .le off, 3)) (ht : mTg pc off = some t) (hx : x < 2 ^ 31) (hy : y < 2 ^ 31) (kt : x ≤ y → gW P lay b E d M t L st T Q) (kf : y < x → gW P lay b E d M (pc + 3) L st T Q) : gW P lay b E d M pc L (.int (nI y) :: .int (nI x) :: st) T Q := g_icmp_le hd ht (fun h => kt ((nI_leI hx hy).mp h)) (fun h => kf (Nat.not_le.mp fun z => h ((nI_leI hx hy).mpr z)))
theorem g_icmp_eqN {off : Int} {t x y : Nat} (hd : decode (mCode M) pc = .ok (.if_icmp .eq off, 3)) (ht : mTg pc off = some t) (hx : x < 2 ^ 31) (hy : y < 2 ^ 31) (kt : x = y → gW P lay b E d M t L st T Q) (kf : x ≠ y → gW P lay b E d M (pc + 3) L st T Q) : gW P lay b E d M pc L (.int (nI y) :: .int (nI x) :: st) T Q := g_icmp_eq hd ht (fun h => kt ((nI_eq hx hy).mp h)) (fun h => kf (fun z => h ((nI_eq hx hy).mpr z)))
theorem g_icmp_neN {off : Int} {t x y : Nat} (hd : decode (mCode M) pc = .ok (.if_icmp .ne off, 3)) (ht : mTg pc off = some t) (hx : x < 2 ^ 31) (hy : y < 2 ^ 31) (kt : x ≠ y → gW P lay b E d M t L st T Q) (kf : x = y → gW P lay b E d M (pc + 3) L st T Q) : gW P lay b E d M pc L (.int (nI y) :: .int (nI x) :: st) T Q := g_icmp_ne hd ht (fun h => kt (fun z => h ((nI_eq hx hy).mpr z))) (fun h => kf ((nI_eq hx hy).mp h))
/-- a branch whose way is known -/
theorem g_icmp_y {cd : ClassFile.Cond} {off : Int} {t : Nat} {x y : Int32} (hd : decode (mCode M) pc = .ok (.if_icmp cd off, 3)) (ht : mTg pc off = some t) (hc : mCmp cd x y = true) (k : gW P lay b E d M t L st T Q) : gW P lay b E d M pc L (.int y :: .int x :: st) T Q := g_step hd (Or.inr rfl) (fun S => by simp [mStep, ht, hc]) k
theorem g_icmp_no {cd : ClassFile.Cond} {off : Int} {t : Nat} {x y : Int32} (hd : decode (mCode M) pc = .ok (.if_icmp cd off, 3)) (ht : mTg pc off = some t) (hc : mCmp cd x y = false) (k : gW P lay b E d M (pc + 3) L st T Q) : gW P lay b E d M pc L (.int y :: .int x :: st) T Q := g_step hd (Or.inr rfl) (fun S => by simp [mStep, ht, hc]) k
theorem g_if_y {cd : ClassFile.Cond} {off : Int} {t : Nat} {x : Int32} (hd : decode (mCode M) pc = .ok (.ifCond cd off, 3)) (ht : mTg pc off = some t) (hc : mCmp cd x 0 = true) (k : gW P lay b E d M t L st T Q) : gW P lay b E d M pc L (.int x :: st) T Q := g_step hd (Or.inr rfl) (fun S => by simp [mStep, ht, hc]) k
theorem g_if_no {cd : ClassFile.Cond} {off : Int} {t : Nat} {x : Int32} (hd : decode (mCode M) pc = .ok (.ifCond cd off, 3)) (ht : mTg pc off = some t) (hc : mCmp cd x 0 = false) (k : gW P lay b E d M (pc + 3) L st T Q) : gW P lay b E d M pc L (.int x :: st) T Q := g_step hd (Or.inr rfl) (fun S => by simp [mStep, ht, hc]) k
theorem g_callV {M' : mM} {k9 q k2 : Nat} {fs : List Nat} {r : List Value} (as rest : List Value) (hd : decode (mCode M) pc = .ok (.invokevirtual k9, 3)) (hc : P.2.2.1 (mTag M) k9 = some (0, .inl q)) (hm : P.2.2.2.2.2 q = some M') (hk : lay[k2]? = some (.inr (.inl (mCi M', fs)))) (hst : st = as.reverse ++ rest) (hn : as.length = mNa M') (hL : L.length = mMax M) (hw : mWide rest = true) (h20 : mMax M' ≤ 20) (hr : as = .ref (b + k2) :: r)
    (k : gC P lay b E d M' as T (fun r T1 => gW P lay b E (d + 1) M (pc + 3) L (r.toList ++ rest) T1 Q)) : gW P lay b E (d + 1) M pc L st T Q := g_call (kd := 0) as rest hd rfl hc hm hst hn hL hw h20 (Or.inr (Or.inl ⟨rfl, k2, fs, r, hr, hk⟩)) k
theorem g_callS {M' : mM} {k9 q : Nat} (as rest : List Value) (hd : decode (mCode M) pc = .ok (.invokestatic k9, 3)) (hc : P.2.2.1 (mTag M) k9 = some (1, .inl q)) (hm : P.2.2.2.2.2 q = some M') (hst : st = as.reverse ++ rest) (hn : as.length = mNa M') (hL : L.length = mMax M) (hw : mWide rest = true) (h20 : mMax M' ≤ 20)
    (k : gC P lay b E d M' as T (fun r T1 => gW P lay b E (d + 1) M (pc + 3) L (r.toList ++ rest) T1 Q)) : gW P lay b E (d + 1) M pc L st T Q := g_call (kd := 1) as rest hd rfl hc hm hst hn hL hw h20 (Or.inl rfl) k
end GN
