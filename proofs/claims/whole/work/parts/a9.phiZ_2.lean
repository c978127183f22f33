/-! SUBSTRINGS OF ONE SIGN -/
section SUB
variable {b : Nat}
theorem m_ifT {P : mP} {d : Nat} {M : mM} {pc t : Nat} {L : mL} {st : List Value} {S : mS} {Q : Option Value → mS → Prop} {c : ClassFile.Cond} {off : Int} {x y : Int32} (hd : decode (mCode M) pc = .ok (.if_icmp c off, 3)) (ht : mTg pc off = some t) (hc : mCmp c x y = true) (k : mW P b d M t L st S Q) : mW P b d M pc L (.int y :: .int x :: st) S Q :=
  mw_step hd (Or.inr rfl) (nx := (t, L, st, S)) (by simp only [mStep, ht, hc, if_true]) k
theorem m_ifF {P : mP} {d : Nat} {M : mM} {pc t : Nat} {L : mL} {st : List Value} {S : mS} {Q : Option Value → mS → Prop} {c : ClassFile.Cond} {off : Int} {x y : Int32} (hd : decode (mCode M) pc = .ok (.if_icmp c off, 3)) (ht : mTg pc off = some t) (hc : mCmp c x y = false) (k : mW P b d M (pc + 3) L st S Q) : mW P b d M pc L (.int y :: .int x :: st) S Q :=
  mw_step hd (Or.inr rfl) (nx := (pc + 3, L, st, S)) (by simp only [mStep, ht, hc, Bool.false_eq_true, if_false]) k
theorem m_cT {P : mP} {d : Nat} {M : mM} {pc t : Nat} {L : mL} {st : List Value} {S : mS} {Q : Option Value → mS → Prop} {c : ClassFile.Cond} {off : Int} {x : Int32} (hd : decode (mCode M) pc = .ok (.ifCond c off, 3)) (ht : mTg pc off = some t) (hc : mCmp c x 0 = true) (k : mW P b d M t L st S Q) : mW P b d M pc L (.int x :: st) S Q :=
  mw_step hd (Or.inr rfl) (nx := (t, L, st, S)) (by simp only [mStep, ht, hc, if_true]) k
theorem m_cF {P : mP} {d : Nat} {M : mM} {pc t : Nat} {L : mL} {st : List Value} {S : mS} {Q : Option Value → mS → Prop} {c : ClassFile.Cond} {off : Int} {x : Int32} (hd : decode (mCode M) pc = .ok (.ifCond c off, 3)) (ht : mTg pc off = some t) (hc : mCmp c x 0 = false) (k : mW P b d M (pc + 3) L st S Q) : mW P b d M pc L (.int x :: st) S Q :=
  mw_step hd (Or.inr rfl) (nx := (pc + 3, L, st, S)) (by simp only [mStep, ht, hc, Bool.false_eq_true, if_false]) k
theorem m_len {P : mP} {d : Nat} {M : mM} {pc a n : Nat} {L : mL} {st : List Value} {S : mS} {Q : Option Value → mS → Prop} {t : FieldType} {f : vp_A} (hd : decode (mCode M) pc = .ok (.arraylength, 1)) (ha : S.1 a = some (.inl (t, f))) (hn : f.1 = n) (k : mW P b d M (pc + 1) L (.int (nI n) :: st) S Q) : mW P b d M pc L (.ref a :: st) S Q :=
  mw_step hd (Or.inr rfl) (nx := (pc + 1, L, .int (nI n) :: st, S)) (by obtain ⟨m, f⟩ := f; cases hn; simp only [mStep, ha]; rfl) k
/-- the check of a length -/
theorem x_checkLength (sa : Nat → Nat) {d k : Nat} (hk : k < 5) {S : mS} {Q : Option Value → mS → Prop} (h : Q none S) : mW (tP sa) b d mJ7_checkLength_df160 0 (mEn [.int (nI k), .int (nI (k + 1))] (mMax mJ7_checkLength_df160)) [] S Q := by
  refine mw_step dJ7_checkLength_df160_0 (Or.inr rfl) (nx := (1, [some (.int (nI k)), some (.int (nI (k + 1)))], [.int (nI (k + 1))], S)) rfl ?_
  refine mw_step dJ7_checkLength_df160_1 (Or.inr rfl) (nx := (2, [some (.int (nI k)), some (.int (nI (k + 1)))], [.int (nI k), .int (nI (k + 1))], S)) rfl ?_
  refine m_ifT dJ7_checkLength_df160_2 (t := 37) rfl ?_ ?_
  · have : ∀ k, k < 5 → mCmp .ge (nI (k + 1)) (nI k) = true := by decide +kernel
    exact this k hk
  · exact mw_ret dJ7_checkLength_df160_37 (Or.inr rfl) (Or.inl ⟨rfl, rfl, rfl⟩) rfl h
theorem m_sub {P : mP} {d : Nat} {M : mM} {pc : Nat} {L : mL} {st : List Value} {S : mS} {Q : Option Value → mS → Prop} {x y v : Int32} (hd : decode (mCode M) pc = .ok (.isub, 1)) (hv : x - y = v) (k : mW P b d M (pc + 1) L (.int v :: st) S Q) : mW P b d M pc L (.int y :: .int x :: st) S Q :=
  mw_step hd (Or.inr rfl) (nx := (pc + 1, L, .int v :: st, S)) (by subst hv; rfl) k
theorem m_add {P : mP} {d : Nat} {M : mM} {pc : Nat} {L : mL} {st : List Value} {S : mS} {Q : Option Value → mS → Prop} {x y v : Int32} (hd : decode (mCode M) pc = .ok (.iadd, 1)) (hv : x + y = v) (k : mW P b d M (pc + 1) L (.int v :: st) S Q) : mW P b d M pc L (.int y :: .int x :: st) S Q :=
  mw_step hd (Or.inr rfl) (nx := (pc + 1, L, .int v :: st, S)) (by subst hv; rfl) k
theorem k5 {p : Nat → Prop} [DecidablePred p] (h : (List.range 5).all (fun k => decide (p k)) = true) {k : Nat} (hk : k < 5) : p k := by
  rw [List.all_eq_true] at h
  exact of_decide_eq_true (h k (List.mem_range.mpr hk))
theorem x_copyByte (sa : Nat → Nat) {d k va : Nat} (hk : k < 5) {S : mS} {f : Nat → Int32} (hva : S.1 va = some (.inl (.byte, 5, .inl f))) (hne : va ≠ S.2.1) (hb : b ≤ S.2.1) (hf : fits .byte (.int (f k)) = true) {Q : Option Value → mS → Prop} (h : ∀ g : Nat → Int32, g 0 = f k → Q (some (.ref S.2.1)) (mUp (mUp S.1 S.2.1 (.inl (.byte, 1, .inl (fun _ => 0)))) S.2.1 (.inl (.byte, 1, .inl g)), S.2.1 + 1, S.2.2 + 1)) : mW (tP sa) b (d + 1) mJ7_copyOfRangeByte_39247 0 (mEn [.ref va, .int (nI k), .int (nI (k + 1))] (mMax mJ7_copyOfRangeByte_39247)) [] S Q := by
  refine mw_step dJ7_copyOfRangeByte_39247_0 (Or.inr rfl) (nx := (1, [some (.ref va), some (.int (nI k)), some (.int (nI (k + 1))), none, none], [.int (nI k)], S)) rfl ?_
  refine mw_step dJ7_copyOfRangeByte_39247_1 (Or.inr rfl) (nx := (2, [some (.ref va), some (.int (nI k)), some (.int (nI (k + 1))), none, none], [.int (nI (k + 1)), .int (nI k)], S)) rfl ?_
  refine mw_call (kd := 1) dJ7_copyOfRangeByte_39247_2 rfl tG_11_343 tM_191 rfl ?_
  refine x_checkLength sa hk ?_
  refine mw_step dJ7_copyOfRangeByte_39247_5 (Or.inr rfl) (nx := (6, [some (.ref va), some (.int (nI k)), some (.int (nI (k + 1))), none, none], [.int (nI (k + 1))], S)) rfl ?_
  refine mw_step dJ7_copyOfRangeByte_39247_6 (Or.inr rfl) (nx := (7, [some (.ref va), some (.int (nI k)), some (.int (nI (k + 1))), none, none], [.int (nI k), .int (nI (k + 1))], S)) rfl ?_
  refine m_sub (v := nI 1) dJ7_copyOfRangeByte_39247_7 (k5 (p := fun k => nI (k + 1) - nI k = nI 1) (by decide +kernel) hk) ?_
  refine mw_step dJ7_copyOfRangeByte_39247_8 (Or.inr rfl) (nx := (9, [some (.ref va), some (.int (nI k)), some (.int (nI (k + 1))), some (.int (nI 1)), none], [], S)) rfl ?_
  refine mw_step dJ7_copyOfRangeByte_39247_9 (Or.inr rfl) (nx := (10, [some (.ref va), some (.int (nI k)), some (.int (nI (k + 1))), some (.int (nI 1)), none], [.int (nI 1)], S)) rfl ?_
  refine mw_step dJ7_copyOfRangeByte_39247_10 (Or.inr rfl) (nx := (12, [some (.ref va), some (.int (nI k)), some (.int (nI (k + 1))), some (.int (nI 1)), none], [.ref S.2.1], (mUp S.1 S.2.1 (.inl (.byte, 1, .inl (fun _ => 0))), S.2.1 + 1, S.2.2 + 1))) rfl ?_
  generalize hS1 : ((mUp S.1 S.2.1 (.inl (.byte, 1, .inl (fun _ => 0))), S.2.1 + 1, S.2.2 + 1) : mS) = S1
  refine mw_step dJ7_copyOfRangeByte_39247_12 (Or.inr rfl) (nx := (14, [some (.ref va), some (.int (nI k)), some (.int (nI (k + 1))), some (.int (nI 1)), some (.ref S.2.1)], [], S1)) rfl ?_
  refine mw_step dJ7_copyOfRangeByte_39247_14 (Or.inr rfl) (nx := (15, [some (.ref va), some (.int (nI k)), some (.int (nI (k + 1))), some (.int (nI 1)), some (.ref S.2.1)], [.ref va], S1)) rfl ?_
  refine mw_step dJ7_copyOfRangeByte_39247_15 (Or.inr rfl) (nx := (16, [some (.ref va), some (.int (nI k)), some (.int (nI (k + 1))), some (.int (nI 1)), some (.ref S.2.1)], [.int (nI k), .ref va], S1)) rfl ?_
  refine mw_step dJ7_copyOfRangeByte_39247_16 (Or.inr rfl) (nx := (18, [some (.ref va), some (.int (nI k)), some (.int (nI (k + 1))), some (.int (nI 1)), some (.ref S.2.1)], [.ref S.2.1, .int (nI k), .ref va], S1)) rfl ?_
  refine mw_step dJ7_copyOfRangeByte_39247_18 (Or.inr rfl) (nx := (19, [some (.ref va), some (.int (nI k)), some (.int (nI (k + 1))), some (.int (nI 1)), some (.ref S.2.1)], [.int (nI 0), .ref S.2.1, .int (nI k), .ref va], S1)) rfl ?_
  refine mw_step dJ7_copyOfRangeByte_39247_19 (Or.inr rfl) (nx := (20, [some (.ref va), some (.int (nI k)), some (.int (nI (k + 1))), some (.int (nI 1)), some (.ref S.2.1)], [.ref va, .int (nI 0), .ref S.2.1, .int (nI k), .ref va], S1)) rfl ?_
  have hva1 : S1.1 va = some (.inl (.byte, 5, .inl f)) := by rw [← hS1]; exact (mUp_ne _ _ hne).trans hva
  have hn1 : S1.1 S.2.1 = some (.inl (.byte, 1, .inl (fun _ => 0))) := by rw [← hS1]; exact mUp_self _ _ _
  refine m_len (n := 5) dJ7_copyOfRangeByte_39247_20 hva1 rfl ?_
  refine mw_step dJ7_copyOfRangeByte_39247_21 (Or.inr rfl) (nx := (22, [some (.ref va), some (.int (nI k)), some (.int (nI (k + 1))), some (.int (nI 1)), some (.ref S.2.1)], [.int (nI k), .int (nI 5), .int (nI 0), .ref S.2.1, .int (nI k), .ref va], S1)) rfl ?_
  refine m_sub (v := nI (5 - k)) dJ7_copyOfRangeByte_39247_22 (k5 (p := fun k => nI 5 - nI k = nI (5 - k)) (by decide +kernel) hk) ?_
  refine mw_step dJ7_copyOfRangeByte_39247_23 (Or.inr rfl) (nx := (24, [some (.ref va), some (.int (nI k)), some (.int (nI (k + 1))), some (.int (nI 1)), some (.ref S.2.1)], [.int (nI 1), .int (nI (5 - k)), .int (nI 0), .ref S.2.1, .int (nI k), .ref va], S1)) rfl ?_
  refine mw_prim (kd := 1) (q := 2) (st1 := [.int (nI 1), .int (nI 0), .ref S.2.1, .int (nI k), .ref va]) (S1 := S1) dJ7_copyOfRangeByte_39247_24 rfl tG_11_304 rfl ?_ rfl ?_
  · have := k5 (p := fun k => (if nI 1 < nI (5 - k) then nI 1 else nI (5 - k)) = nI 1) (by decide +kernel) hk
    unfold mPrim
    simp only [mPrim2, this]
  refine mw_prim (kd := 1) (q := 1) (st1 := []) (S1 := (mUp S1.1 S.2.1 (.inl (.byte, 1, .inl (va_cpy f (fun _ => 0) k 0 1))), S1.2)) dJ7_copyOfRangeByte_39247_27 rfl tG_11_150 rfl ?_ rfl ?_
  · have c1 : (nI k).toNatClampNeg = k := nI_clamp (by omega)
    have c2 : ¬ nI k < 0 := k5 (p := fun k => ¬ nI k < 0) (by decide +kernel) hk
    unfold mPrim
    simp only [mPrim1, hva1, hn1, c1]
    rw [if_pos]
    · rfl
    · refine ⟨hb, c2, by decide, by decide, ?_, ?_, fun i hi => ?_⟩
      · show k + 1 ≤ 5; omega
      · show 0 + 1 ≤ 1; omega
      · have hi2 : i < 1 := hi
        obtain rfl : i = 0 := by omega
        exact hf
  refine mw_step dJ7_copyOfRangeByte_39247_30 (Or.inr rfl) (nx := (32, [some (.ref va), some (.int (nI k)), some (.int (nI (k + 1))), some (.int (nI 1)), some (.ref S.2.1)], [.ref S.2.1], (mUp S1.1 S.2.1 (.inl (.byte, 1, .inl (va_cpy f (fun _ => 0) k 0 1))), S1.2))) rfl ?_
  refine mw_ret (r := some (.ref S.2.1)) dJ7_copyOfRangeByte_39247_32 (Or.inr rfl) (Or.inr (Or.inr (Or.inr ⟨_, _, rfl, rfl, rfl, Or.inr ⟨_, rfl⟩⟩))) rfl ?_
  subst hS1
  exact h _ rfl
theorem x_copyRange (sa : Nat → Nat) {d k va : Nat} (hk : k < 5) {S : mS} {f : Nat → Int32} (hva : S.1 va = some (.inl (.byte, 5, .inl f))) (hne : va ≠ S.2.1) (hb : b ≤ S.2.1) (hf : fits .byte (.int (f k)) = true) {Q : Option Value → mS → Prop} (h : ∀ g : Nat → Int32, g 0 = f k → Q (some (.ref S.2.1)) (mUp (mUp S.1 S.2.1 (.inl (.byte, 1, .inl (fun _ => 0)))) S.2.1 (.inl (.byte, 1, .inl g)), S.2.1 + 1, S.2.2 + 1)) : mW (tP sa) b (d + 2) mJ7_copyOfRange_39247 0 (mEn [.ref va, .int (nI k), .int (nI (k + 1))] (mMax mJ7_copyOfRange_39247)) [] S Q := by
  have go : mW (tP sa) b (d + 2) mJ7_copyOfRange_39247 10 [some (.ref va), some (.int (nI k)), some (.int (nI (k + 1)))] [] S Q := by
    refine mw_step dJ7_copyOfRange_39247_10 (Or.inr rfl) (nx := (11, [some (.ref va), some (.int (nI k)), some (.int (nI (k + 1)))], [.ref va], S)) rfl ?_
    refine mw_step dJ7_copyOfRange_39247_11 (Or.inr rfl) (nx := (12, [some (.ref va), some (.int (nI k)), some (.int (nI (k + 1)))], [.int (nI k), .ref va], S)) rfl ?_
    refine mw_step dJ7_copyOfRange_39247_12 (Or.inr rfl) (nx := (13, [some (.ref va), some (.int (nI k)), some (.int (nI (k + 1)))], [.int (nI (k + 1)), .int (nI k), .ref va], S)) rfl ?_
    refine mw_call (kd := 1) dJ7_copyOfRange_39247_13 rfl tG_11_339 tM_190 rfl ?_
    refine x_copyByte sa hk hva hne hb hf (fun g hg => ?_)
    exact mw_ret (r := some (.ref S.2.1)) dJ7_copyOfRange_39247_16 (Or.inr rfl) (Or.inr (Or.inr (Or.inr ⟨_, _, rfl, rfl, rfl, Or.inr ⟨_, rfl⟩⟩))) rfl (h g hg)
  refine mw_step dJ7_copyOfRange_39247_0 (Or.inr rfl) (nx := (1, [some (.ref va), some (.int (nI k)), some (.int (nI (k + 1)))], [.int (nI k)], S)) rfl ?_
  by_cases k0 : k = 0
  · refine m_cF dJ7_copyOfRange_39247_1 (t := 10) rfl (by subst k0; decide) ?_
    refine mw_step dJ7_copyOfRange_39247_4 (Or.inr rfl) (nx := (5, [some (.ref va), some (.int (nI k)), some (.int (nI (k + 1)))], [.int (nI (k + 1))], S)) rfl ?_
    refine mw_step dJ7_copyOfRange_39247_5 (Or.inr rfl) (nx := (6, [some (.ref va), some (.int (nI k)), some (.int (nI (k + 1)))], [.ref va, .int (nI (k + 1))], S)) rfl ?_
    refine m_len (n := 5) dJ7_copyOfRange_39247_6 hva rfl ?_
    exact m_ifF dJ7_copyOfRange_39247_7 (t := 17) rfl (by subst k0; decide) go
  · exact m_cT dJ7_copyOfRange_39247_1 (t := 10) rfl (k5 (p := fun k => k ≠ 0 → mCmp .ne (nI k) 0 = true) (by decide +kernel) hk k0) go
/-- a string's constructor -/
theorem x_init (sa : Nat → Nat) {d n va : Nat} {S : mS} (hn : S.1 n = some (.inr (0, [.null, .int 0, .int 0, .int 0]))) (hb : b ≤ n) {Q : Option Value → mS → Prop} (h : ∀ S', S'.2 = S.2 → S'.1 n = some (.inr (0, [.ref va, .int 0, .int 0, .int 0])) → (∀ x, x ≠ n → S'.1 x = S.1 x) → Q none S') : mW (tP sa) b (d + 1) mJ0_init_031fb 0 (mEn [.ref n, .ref va, .int 0] (mMax mJ0_init_031fb)) [] S Q := by
  refine mw_step dJ0_init_031fb_0 (Or.inr rfl) (nx := (1, [some (.ref n), some (.ref va), some (.int 0)], [.ref n], S)) rfl ?_
  refine mw_prim (kd := 2) (q := 0) (st1 := []) (S1 := S) dJ0_init_031fb_1 rfl tG_9_1 rfl rfl rfl ?_
  refine mw_step dJ0_init_031fb_4 (Or.inr rfl) (nx := (5, [some (.ref n), some (.ref va), some (.int 0)], [.ref n], S)) rfl ?_
  refine mw_step dJ0_init_031fb_5 (Or.inr rfl) (nx := (6, [some (.ref n), some (.ref va), some (.int 0)], [.ref va, .ref n], S)) rfl ?_
  refine mw_step dJ0_init_031fb_6 (Or.inr rfl) (nx := (9, [some (.ref n), some (.ref va), some (.int 0)], [], (mUp S.1 n (.inr (0, [.ref va, .int 0, .int 0, .int 0])), S.2))) ?_ ?_
  · have hF : (tP sa).1 (mTag mJ0_init_031fb) 9 = some (0, 0) := tF_9_9
    have ht : mFt 0 0 = some (.array .byte, true) := by decide +kernel
    simp only [mStep, hF, hn, ht]
    rw [if_pos ⟨trivial, hb, by decide, rfl, rfl, fun _ => ⟨rfl, rfl⟩⟩]
    rfl
  generalize hS1 : ((mUp S.1 n (.inr (0, [.ref va, .int 0, .int 0, .int 0])), S.2) : mS) = S1
  have hn1 : S1.1 n = some (.inr (0, [.ref va, .int 0, .int 0, .int 0])) := by rw [← hS1]; exact mUp_self _ _ _
  refine mw_step dJ0_init_031fb_9 (Or.inr rfl) (nx := (10, [some (.ref n), some (.ref va), some (.int 0)], [.ref n], S1)) rfl ?_
  refine mw_step dJ0_init_031fb_10 (Or.inr rfl) (nx := (11, [some (.ref n), some (.ref va), some (.int 0)], [.int 0, .ref n], S1)) rfl ?_
  refine mw_step dJ0_init_031fb_11 (Or.inr rfl) (nx := (14, [some (.ref n), some (.ref va), some (.int 0)], [], (mUp S1.1 n (.inr (0, [.ref va, .int 0, .int 0, .int 0])), S1.2))) ?_ ?_
  · have hF : (tP sa).1 (mTag mJ0_init_031fb) 15 = some (0, 1) := tF_9_15
    have ht : mFt 0 1 = some (.byte, true) := by decide +kernel
    simp only [mStep, hF, hn1, ht]
    rw [if_pos ⟨trivial, hb, Nat.le_of_ble_eq_true rfl, by decide, by decide, fun _ => ⟨rfl, rfl⟩⟩]
    rfl
  refine mw_ret dJ0_init_031fb_14 (Or.inr rfl) (Or.inl ⟨rfl, rfl, rfl⟩) rfl (h _ (by rw [← hS1]) (mUp_self _ _ _) (fun x hx => ?_))
  rw [← hS1]
  exact (mUp_ne _ _ hx).trans (mUp_ne _ _ hx)
/-- a new string of one sign -/
theorem x_newString (sa : Nat → Nat) {d k va : Nat} (hk : k < 5) {S : mS} {f : Nat → Int32} (hva : S.1 va = some (.inl (.byte, 5, .inl f))) (hlt : va < S.2.1) (hb : b ≤ S.2.1) (hf : fits .byte (.int (f k)) = true) {Q : Option Value → mS → Prop} (h : ∀ S' (g : Nat → Int32), g 0 = f k → S'.2 = (S.2.1 + 2, S.2.2 + 5) → S'.1 S.2.1 = some (.inr (0, [.ref (S.2.1 + 1), .int 0, .int 0, .int 0])) → S'.1 (S.2.1 + 1) = some (.inl (.byte, 1, .inl g)) → (∀ x, x < S.2.1 → S'.1 x = S.1 x) → Q (some (.ref S.2.1)) S') : mW (tP sa) b (d + 3) mJ1_newString_b4f7a 0 (mEn [.ref va, .int (nI k), .int (nI 1)] (mMax mJ1_newString_b4f7a)) [] S Q := by
  refine mw_step dJ1_newString_b4f7a_0 (Or.inr rfl) (nx := (1, [some (.ref va), some (.int (nI k)), some (.int (nI 1))], [.int (nI 1)], S)) rfl ?_
  refine m_cT dJ1_newString_b4f7a_1 (t := 7) rfl (by decide) ?_
  refine mw_step dJ1_newString_b4f7a_7 (Or.inr rfl) (nx := (10, [some (.ref va), some (.int (nI k)), some (.int (nI 1))], [.ref S.2.1], (mUp S.1 S.2.1 (.inr (0, [.null, .int 0, .int 0, .int 0])), S.2.1 + 1, S.2.2 + 4))) ?_ ?_
  · have hC : (tP sa).2.1 (mTag mJ1_newString_b4f7a) 1 = some 0 := tC_10_1
    have hB : mBorn 0 = some [.null, .int 0, .int 0, .int 0] := by decide +kernel
    simp only [mStep, hC, hB]
    rfl
  generalize hS1 : ((mUp S.1 S.2.1 (.inr (0, [.null, .int 0, .int 0, .int 0])), S.2.1 + 1, S.2.2 + 4) : mS) = S1
  have q1 : S1.2 = (S.2.1 + 1, S.2.2 + 4) := by rw [← hS1]
  have q21 : S1.2.1 = S.2.1 + 1 := by rw [q1]
  have hva1 : S1.1 va = some (.inl (.byte, 5, .inl f)) := by rw [← hS1]; exact (mUp_ne _ _ (by omega)).trans hva
  have hn1 : S1.1 S.2.1 = some (.inr (0, [.null, .int 0, .int 0, .int 0])) := by rw [← hS1]; exact mUp_self _ _ _
  have hlo : ∀ x, x < S.2.1 → S1.1 x = S.1 x := fun x hx => by rw [← hS1]; exact mUp_ne _ _ (by omega)
  refine mw_step dJ1_newString_b4f7a_10 (Or.inr rfl) (nx := (11, [some (.ref va), some (.int (nI k)), some (.int (nI 1))], [.ref S.2.1, .ref S.2.1], S1)) rfl ?_
  refine mw_step dJ1_newString_b4f7a_11 (Or.inr rfl) (nx := (12, [some (.ref va), some (.int (nI k)), some (.int (nI 1))], [.ref va, .ref S.2.1, .ref S.2.1], S1)) rfl ?_
  refine mw_step dJ1_newString_b4f7a_12 (Or.inr rfl) (nx := (13, [some (.ref va), some (.int (nI k)), some (.int (nI 1))], [.int (nI k), .ref va, .ref S.2.1, .ref S.2.1], S1)) rfl ?_
  refine mw_step dJ1_newString_b4f7a_13 (Or.inr rfl) (nx := (14, [some (.ref va), some (.int (nI k)), some (.int (nI 1))], [.int (nI k), .int (nI k), .ref va, .ref S.2.1, .ref S.2.1], S1)) rfl ?_
  refine mw_step dJ1_newString_b4f7a_14 (Or.inr rfl) (nx := (15, [some (.ref va), some (.int (nI k)), some (.int (nI 1))], [.int (nI 1), .int (nI k), .int (nI k), .ref va, .ref S.2.1, .ref S.2.1], S1)) rfl ?_
  refine m_add (v := nI (k + 1)) dJ1_newString_b4f7a_15 (k5 (p := fun k => nI k + nI 1 = nI (k + 1)) (by decide +kernel) hk) ?_
  refine mw_call (kd := 1) dJ1_newString_b4f7a_16 rfl tG_10_232 tM_188 rfl ?_
  refine x_copyRange sa hk hva1 (by omega) (by omega) hf (fun g hg => ?_)
  generalize hS2 : ((mUp (mUp S1.1 S1.2.1 (.inl (.byte, 1, .inl (fun _ => 0)))) S1.2.1 (.inl (.byte, 1, .inl g)), S1.2.1 + 1, S1.2.2 + 1) : mS) = S2
  have r2 : S2.2 = (S.2.1 + 2, S.2.2 + 5) := by rw [← hS2, q1]
  have hn2 : S2.1 S.2.1 = some (.inr (0, [.null, .int 0, .int 0, .int 0])) := by rw [← hS2, q21]; exact (mUp_ne _ _ (by omega)).trans ((mUp_ne _ _ (by omega)).trans hn1)
  have hm2 : S2.1 (S.2.1 + 1) = some (.inl (.byte, 1, .inl g)) := by rw [← hS2, q21]; exact mUp_self _ _ _
  have hl2 : ∀ x, x < S.2.1 → S2.1 x = S.1 x := fun x hx => by rw [← hS2, q21]; exact (mUp_ne _ _ (by omega)).trans ((mUp_ne _ _ (by omega)).trans (hlo x hx))
  rw [q21]
  refine mw_step dJ1_newString_b4f7a_19 (Or.inr rfl) (nx := (20, [some (.ref va), some (.int (nI k)), some (.int (nI 1))], [.int 0, .ref (S.2.1 + 1), .ref S.2.1, .ref S.2.1], S2)) rfl ?_
  refine mw_call (kd := 2) dJ1_newString_b4f7a_20 rfl tG_10_112 tM_185 ?_ ?_
  · unfold mMay
    simp only [Bool.and_eq_true, decide_eq_true_eq, Bool.or_eq_true, beq_iff_eq]
    exact ⟨⟨⟨⟨⟨Nat.le_of_ble_eq_true rfl, rfl⟩, rfl⟩, Nat.le_of_ble_eq_true rfl⟩, Nat.le_of_ble_eq_true rfl⟩, Or.inr rfl⟩
  refine x_init sa hn2 hb (fun S3 e3 h3 o3 => ?_)
  refine mw_ret (r := some (.ref S.2.1)) dJ1_newString_b4f7a_23 (Or.inr rfl) (Or.inr (Or.inr (Or.inr ⟨_, _, rfl, rfl, rfl, Or.inl ⟨_, rfl⟩⟩))) rfl ?_
  exact h S3 g hg (e3.trans r2) h3 ((o3 _ (by omega)).trans hm2) (fun x hx => (o3 x (by omega)).trans (hl2 x hx))
theorem c_ftcheck (sa : Nat → Nat) {lay : List mDs} {E : Nat × mH} {d k : Nat} {T : gT} {v : Value} (hv : v = .null ∨ ∃ x, v = .ref x) (hk : k < 5) : gC (tP sa) lay b E d mJ3_checkFromToIndex_8c36e [.int (nI k), .int (nI (k + 1)), .int (nI 5), v] T (fun r T' => r = some (.int (nI k)) ∧ T' = T) := by
  have he : mEn [.int (nI k), .int (nI (k + 1)), .int (nI 5), v] (mMax mJ3_checkFromToIndex_8c36e) = [some (.int (nI k)), some (.int (nI (k + 1))), some (.int (nI 5)), some v] := by
    rcases hv with rfl | ⟨x, rfl⟩ <;> rfl
  refine ⟨by rcases hv with rfl | ⟨x, rfl⟩ <;> exact Nat.le_of_ble_eq_true rfl, ?_⟩
  rw [he]
  refine g_iload_n dJ3_checkFromToIndex_8c36e_0 rfl ?_
  refine g_if_lt dJ3_checkFromToIndex_8c36e_1 rfl (fun h => absurd h (nI_pos (by omega))) (fun _ => ?_)
  refine g_iload_n dJ3_checkFromToIndex_8c36e_4 rfl ?_
  refine g_iload_n dJ3_checkFromToIndex_8c36e_5 rfl ?_
  refine g_icmp_gt dJ3_checkFromToIndex_8c36e_6 rfl (fun h => absurd h (k5 (p := fun k => ¬ nI (k + 1) < nI k) (by decide +kernel) hk)) (fun _ => ?_)
  refine g_iload_n dJ3_checkFromToIndex_8c36e_9 rfl ?_
  refine g_iload_n dJ3_checkFromToIndex_8c36e_10 rfl ?_
  refine g_icmp_le dJ3_checkFromToIndex_8c36e_11 rfl (fun _ => ?_) (fun h => absurd (k5 (p := fun k => nI (k + 1) ≤ nI 5) (by decide +kernel) hk) h)
  refine g_iload_n dJ3_checkFromToIndex_8c36e_22 rfl ?_
  exact g_iret dJ3_checkFromToIndex_8c36e_23 rfl rfl ⟨rfl, rfl⟩
theorem c_bcheck (sa : Nat → Nat) {lay : List mDs} {E : Nat × mH} {d k : Nat} {T : gT} (hk : k < 5) : gC (tP sa) lay b E (d + 1) mJ0_checkBoundsBeginEnd_23922 [.int (nI k), .int (nI (k + 1)), .int (nI 5)] T (fun r T' => r = none ∧ T' = T) := by
  refine ⟨Nat.le_of_ble_eq_true rfl, ?_⟩
  refine g_iload_n dJ0_checkBoundsBeginEnd_23922_0 rfl ?_
  refine g_iload_n dJ0_checkBoundsBeginEnd_23922_1 rfl ?_
  refine g_iload_n dJ0_checkBoundsBeginEnd_23922_2 rfl ?_
  refine g_getstatic dJ0_checkBoundsBeginEnd_23922_3 (tZ_9_1053 sa) ?_
  refine g_callS [.int (nI k), .int (nI (k + 1)), .int (nI 5), tSv sa] [] dJ0_checkBoundsBeginEnd_23922_6 tG_9_1062 tM_193 rfl rfl rfl rfl (by decide) ?_
  refine gC.mono (c_ftcheck sa (tSv_ref sa) hk) (Nat.le_refl _) ?_
  rintro _ _ ⟨rfl, h9⟩
  obtain rfl := h9.symm
  refine g_pop dJ0_checkBoundsBeginEnd_23922_9 rfl ?_
  exact g_vret dJ0_checkBoundsBeginEnd_23922_10 rfl ⟨rfl, rfl⟩
/-- a call that only reads, at the plain machine's level -/
theorem ro_call {P : mP} {d : Nat} {M : mM} {as : List Value} {S : mS} {v : Option Value} (hb : b ≤ S.2.1) (h : ∀ T : gT, gC P [] b (S.2.1, S.1) d M as T (fun r T' => r = v ∧ T' = T)) : mW P b d M 0 (mEn as (mMax M)) [] S (fun r S1 => r = v ∧ S1.2 = S.2 ∧ ∀ x, x < S.2.1 → S1.1 x = S.1 x) := by
  have hg : gH [] b (S.2.1, S.1) (fun _ _ => 0, fun _ _ => 0, S.2) S.1 := ⟨fun k dd hk => (by cases hk), fun a _ => rfl, hb, Nat.le_refl _⟩
  refine ((h (fun _ _ => 0, fun _ _ => 0, S.2)).2 S.1 hg).mono (Nat.le_refl _) ?_
  rintro r S1 ⟨T', ⟨_, q2, _, _⟩, e2, rfl, rfl⟩
  refine ⟨rfl, e2, fun x hx => q2 x ?_⟩
  show x < b ∨ (b + 0 ≤ x ∧ x < S.2.1)
  omega
theorem x_substring (sa : Nat → Nat) {d k a : Nat} (hk : k < 5) {S : mS} {s : List Nat} (hs : mStr (S.2.1, S.1) b a s) (h5 : s.length = 5) (hb : b ≤ S.2.1) {Q : Option Value → mS → Prop} (h : ∀ S' (g : Nat → Int32), g 0 = nI (s.getD k 0) → S'.2 = (S.2.1 + 2, S.2.2 + 5) → S'.1 S.2.1 = some (.inr (0, [.ref (S.2.1 + 1), .int 0, .int 0, .int 0])) → S'.1 (S.2.1 + 1) = some (.inl (.byte, 1, .inl g)) → (∀ x, x < S.2.1 → S'.1 x = S.1 x) → Q (some (.ref S.2.1)) S') : mW (tP sa) b (d + 4) mJ0_substring_37a41 0 (mEn [.ref a, .int (nI k), .int (nI (k + 1))] (mMax mJ0_substring_37a41)) [] S Q := by
  obtain ⟨va, f, fs, ha, hva, h1, h2, h3, h4⟩ := id hs
  dsimp only at h1 h2
  rw [h5] at h2
  -- a state like the first
  have key : ∀ S1 : mS, S1.2 = S.2 → (∀ x, x < S.2.1 → S1.1 x = S.1 x) → mStr (S1.2.1, S1.1) b a s ∧ S1.1 a = some (.inr (0, .ref va :: .int 0 :: fs)) ∧ S1.1 va = some (.inl (.byte, 5, .inl f)) := fun S1 e1 e2 => by
    have q1 := (e2 a (by omega)).trans h1
    have q2 := (e2 va (by omega)).trans h2
    exact ⟨⟨va, f, fs, ha, hva, q1, by dsimp only; rw [q2, h5], h3, h4⟩, q1, q2⟩
  have may : ∀ (S1 : mS) (M' : mM) (L : mL) (r st : List Value), S1.1 a = some (.inr (0, .ref va :: .int 0 :: fs)) → mCi M' = 0 → mNa M' = 1 → mMax M' = 1 → L.length = 5 → mWide st = true → mMay 0 mJ0_substring_37a41 M' L (.ref a :: st) S1 = true := fun S1 M' L r st q1 c1 c2 c3 c4 c5 => by
    unfold mMay
    rw [c2, c3]
    simp only [Bool.and_eq_true, decide_eq_true_eq, Bool.or_eq_true, beq_iff_eq]
    refine ⟨⟨⟨⟨⟨by simp, c4⟩, c5⟩, by simp [mArg, Value.category]⟩, by decide⟩, Or.inr ?_⟩
    rw [if_pos trivial]
    show mRcv S1 (mCi M') [.ref a] = true
    unfold mRcv
    dsimp only
    rw [q1, c1]
    simp
  refine mw_step dJ0_substring_37a41_0 (Or.inr rfl) (nx := (1, [some (.ref a), some (.int (nI k)), some (.int (nI (k + 1))), none, none], [.ref a], S)) rfl ?_
  refine mw_call (kd := 0) dJ0_substring_37a41_1 rfl tG_9_505 tM_179 (may S _ _ [] _ h1 rfl rfl rfl rfl rfl) ?_
  refine (ro_call (v := some (.int (nI s.length))) hb (fun T => c_length sa (d + 2) T hs)).mono (Nat.le_refl _) ?_
  rintro _ S1 ⟨rfl, e1, f1⟩
  rw [h5]
  obtain ⟨s1, a1, v1⟩ := key S1 e1 f1
  refine mw_step dJ0_substring_37a41_4 (Or.inr rfl) (nx := (5, [some (.ref a), some (.int (nI k)), some (.int (nI (k + 1))), some (.int (nI 5)), none], [], S1)) rfl ?_
  refine mw_step dJ0_substring_37a41_5 (Or.inr rfl) (nx := (6, [some (.ref a), some (.int (nI k)), some (.int (nI (k + 1))), some (.int (nI 5)), none], [.int (nI k)], S1)) rfl ?_
  refine mw_step dJ0_substring_37a41_6 (Or.inr rfl) (nx := (7, [some (.ref a), some (.int (nI k)), some (.int (nI (k + 1))), some (.int (nI 5)), none], [.int (nI (k + 1)), .int (nI k)], S1)) rfl ?_
  refine mw_step dJ0_substring_37a41_7 (Or.inr rfl) (nx := (8, [some (.ref a), some (.int (nI k)), some (.int (nI (k + 1))), some (.int (nI 5)), none], [.int (nI 5), .int (nI (k + 1)), .int (nI k)], S1)) rfl ?_
  refine mw_call (kd := 1) dJ0_substring_37a41_8 rfl tG_9_521 tM_184 rfl ?_
  refine (ro_call (as := [.int (nI k), .int (nI (k + 1)), .int (nI 5)]) (v := none) (by rw [e1]; exact hb) (fun T => c_bcheck sa (d := d + 2) (T := T) hk)).mono (Nat.le_refl _) ?_
  rintro _ S2 ⟨rfl, e2, f2⟩
  have E2 : S2.2 = S.2 := e2.trans e1
  have F2 : ∀ x, x < S.2.1 → S2.1 x = S.1 x := fun x hx => (f2 x (by rw [e1]; exact hx)).trans (f1 x hx)
  obtain ⟨s2, a2, v2⟩ := key S2 E2 F2
  have go : mW (tP sa) b (d + 3 + 1) mJ0_substring_37a41 22 [some (.ref a), some (.int (nI k)), some (.int (nI (k + 1))), some (.int (nI 5)), none] [] S2 Q := by
    refine mw_step dJ0_substring_37a41_22 (Or.inr rfl) (nx := (23, [some (.ref a), some (.int (nI k)), some (.int (nI (k + 1))), some (.int (nI 5)), none], [.int (nI (k + 1))], S2)) rfl ?_
    refine mw_step dJ0_substring_37a41_23 (Or.inr rfl) (nx := (24, [some (.ref a), some (.int (nI k)), some (.int (nI (k + 1))), some (.int (nI 5)), none], [.int (nI k), .int (nI (k + 1))], S2)) rfl ?_
    refine m_sub (v := nI 1) dJ0_substring_37a41_24 (k5 (p := fun k => nI (k + 1) - nI k = nI 1) (by decide +kernel) hk) ?_
    refine mw_step dJ0_substring_37a41_25 (Or.inr rfl) (nx := (27, [some (.ref a), some (.int (nI k)), some (.int (nI (k + 1))), some (.int (nI 5)), some (.int (nI 1))], [], S2)) rfl ?_
    refine mw_step dJ0_substring_37a41_27 (Or.inr rfl) (nx := (28, [some (.ref a), some (.int (nI k)), some (.int (nI (k + 1))), some (.int (nI 5)), some (.int (nI 1))], [.ref a], S2)) rfl ?_
    refine mw_call (kd := 0) dJ0_substring_37a41_28 rfl tG_9_492 tM_182 (may S2 _ _ [] _ a2 rfl rfl rfl rfl rfl) ?_
    refine (ro_call (as := [.ref a]) (v := some (.int 1)) (by rw [E2]; exact hb) (fun T => c_isLatin1 sa (d + 3) T ha a2)).mono (Nat.le_refl _) ?_
    rintro _ S3 ⟨rfl, e3, f3⟩
    have E3 : S3.2 = S.2 := e3.trans E2
    have F3 : ∀ x, x < S.2.1 → S3.1 x = S.1 x := fun x hx => (f3 x (by rw [E2]; exact hx)).trans (F2 x hx)
    obtain ⟨s3, a3, v3⟩ := key S3 E3 F3
    refine m_cF dJ0_substring_37a41_31 (t := 47) rfl (by decide) ?_
    refine mw_step dJ0_substring_37a41_34 (Or.inr rfl) (nx := (35, [some (.ref a), some (.int (nI k)), some (.int (nI (k + 1))), some (.int (nI 5)), some (.int (nI 1))], [.ref a], S3)) rfl ?_
    refine mw_step dJ0_substring_37a41_35 (Or.inr rfl) (nx := (38, [some (.ref a), some (.int (nI k)), some (.int (nI (k + 1))), some (.int (nI 5)), some (.int (nI 1))], [.ref va], S3)) ?_ ?_
    · have hF : (tP sa).1 (mTag mJ0_substring_37a41) 9 = some (0, 0) := tF_9_9
      simp only [mStep, hF, a3, if_true]
      rfl
    refine mw_step dJ0_substring_37a41_38 (Or.inr rfl) (nx := (39, [some (.ref a), some (.int (nI k)), some (.int (nI (k + 1))), some (.int (nI 5)), some (.int (nI 1))], [.int (nI k), .ref va], S3)) rfl ?_
    refine mw_step dJ0_substring_37a41_39 (Or.inr rfl) (nx := (41, [some (.ref a), some (.int (nI k)), some (.int (nI (k + 1))), some (.int (nI 5)), some (.int (nI 1))], [.int (nI 1), .int (nI k), .ref va], S3)) rfl ?_
    refine mw_call (kd := 1) dJ0_substring_37a41_41 rfl tG_9_685 tM_187 rfl ?_
    have hfk := h4 k (by omega)
    refine x_newString sa hk v3 (by rw [E3]; omega) (by rw [E3]; exact hb) ?_ (fun S4 g g0 e4 n4 m4 f4 => ?_)
    · rw [hfk.2]
      have : ∀ c, c < 128 → fits .byte (.int (nI c)) = true := by decide +kernel
      exact this _ hfk.1
    rw [E3] at e4 n4 m4 f4 ⊢
    refine mw_step dJ0_substring_37a41_44 (Or.inr rfl) (nx := (57, [some (.ref a), some (.int (nI k)), some (.int (nI (k + 1))), some (.int (nI 5)), some (.int (nI 1))], [.ref S.2.1], S4)) rfl ?_
    refine mw_ret (r := some (.ref S.2.1)) dJ0_substring_37a41_57 (Or.inr rfl) (Or.inr (Or.inr (Or.inr ⟨_, _, rfl, rfl, rfl, Or.inl ⟨_, rfl⟩⟩))) rfl ?_
    exact h S4 g (g0.trans hfk.2) e4 n4 m4 (fun x hx => (f4 x hx).trans (F3 x hx))
  refine mw_step dJ0_substring_37a41_11 (Or.inr rfl) (nx := (12, [some (.ref a), some (.int (nI k)), some (.int (nI (k + 1))), some (.int (nI 5)), none], [.int (nI k)], S2)) rfl ?_
  by_cases k0 : k = 0
  · refine m_cF dJ0_substring_37a41_12 (t := 22) rfl (by subst k0; decide) ?_
    refine mw_step dJ0_substring_37a41_15 (Or.inr rfl) (nx := (16, [some (.ref a), some (.int (nI k)), some (.int (nI (k + 1))), some (.int (nI 5)), none], [.int (nI (k + 1))], S2)) rfl ?_
    refine mw_step dJ0_substring_37a41_16 (Or.inr rfl) (nx := (17, [some (.ref a), some (.int (nI k)), some (.int (nI (k + 1))), some (.int (nI 5)), none], [.int (nI 5), .int (nI (k + 1))], S2)) rfl ?_
    exact m_ifT dJ0_substring_37a41_17 (t := 22) rfl (by subst k0; decide) go
  · exact m_cT dJ0_substring_37a41_12 (t := 22) rfl (k5 (p := fun k => k ≠ 0 → mCmp .ne (nI k) 0 = true) (by decide +kernel) hk k0) go
end SUB
