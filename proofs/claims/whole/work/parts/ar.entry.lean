/-! THE LAW'S ENTRY: the desk, the model, an array of one long -/
theorem hL_nil {h : mH} {n : Nat} : hL h n [] = h := by
  funext a
  unfold hL
  rw [if_neg (fun z => by have := z.2; simp at this; omega)]
theorem hL_below {h : mH} {n a : Nat} {cs : List mC} (ha : a < n) : hL h n cs a = h a := by
  unfold hL
  rw [if_neg (fun z => by omega)]
/-- a constructor may be called -/
theorem may_I {M' : mM} {L : mL} {S : mS} {a : Nat} {rest : List Value} (hn : mNa M' = 1) (hlen : L.length = 7) (hw : mWide rest = true) (hx : mMax M' = 1) : mMay 2 M_L M' L (.ref a :: rest) S = true := by
  unfold mMay
  rw [hn, hx]
  simp only [Bool.and_eq_true, decide_eq_true_eq, Bool.or_eq_true, beq_iff_eq]
  exact ⟨⟨⟨⟨⟨by simp, hlen⟩, hw⟩, by simp [mArg, Value.category]⟩, by decide⟩, Or.inr rfl⟩
section O5
variable {p : Program} {l : Launch} {e : Env} {s : State} {m : MethodId} {below : List Frame} {meth : Method} {c : Code} {Q : State → Prop} {D : va_G} {bs Ls : Nat} {xs : Nat → Int32} {sa : Nat → Nat} {pc : Nat} {L : mL} {st rest : List Value} {h0 : mH} {n sl : Nat} {cs : List mC}
theorem o_new (C : oC p s m c bs Ls xs D sa) {k9 cj : Nat} {born : List Value} (hd : decode code pc = .ok (.new k9, 3)) (hC : tC 8 k9 = some cj) (hB : mBorn cj = some born) (hR : oR s (hL h0 n (cs ++ [(.inr (cj, born) : mC)]), n + (cs ++ [(.inr (cj, born) : mC)]).length, sl + born.length))
    (k : oW p l e s m below meth c Q D bs (pc + 3) L (.ref (n + cs.length) :: st) (hL h0 n (cs ++ [(.inr (cj, born) : mC)]), n + (cs ++ [(.inr (cj, born) : mC)]).length, sl + born.length)) : oW p l e s m below meth c Q D bs pc L st (hL h0 n cs, n + cs.length, sl) := by
  have key : ((mUp (hL h0 n cs) (n + cs.length) (.inr (cj, born)), n + cs.length + 1, sl + born.length) : mS) = (hL h0 n (cs ++ [(.inr (cj, born) : mC)]), n + (cs ++ [(.inr (cj, born) : mC)]).length, sl + born.length) := by
    rw [hL_push, List.length_append]
    rfl
  refine o_step C hd (Or.inr rfl) (nx := (pc + 3, L, .ref (n + cs.length) :: st, (hL h0 n (cs ++ [(.inr (cj, born) : mC)]), n + (cs ++ [(.inr (cj, born) : mC)]).length, sl + born.length))) ?_ hR k
  have hC' : (tP sa).2.1 (mTag M_L) k9 = some cj := hC
  simp only [mStep, hC', hB]
  exact congrArg (fun S => some (pc + 3, L, Value.ref (n + cs.length) :: st, S)) key
theorem o_con (C : oC p s m c bs Ls xs D sa) {k9 q d ci ks i : Nat} {M' : mM} {born : List Value} {F : Nat → Nat → List Value} {A : Nat → Nat → List mC} {cs' : List mC} (hK : kCon (tP sa) s.heap.size d M' ci born F A ks) (hn : s.heap.size ≤ n) (hi : cs[i]? = some (.inr (ci, born))) (hcs : kL cs i ci (F n cs.length) (A n cs.length) = cs') (hd : decode code pc = .ok (.invokespecial k9, 3)) (hc : tG 8 k9 = some (2, .inl q)) (hm : tM q = some M') (hna : mNa M' = 1) (hmx : mMax M' = 1) (hlen : L.length = 7) (hw : mWide rest = true) (hdd : d ≤ 1000)
    (hR : oR s (hL h0 n cs', n + cs'.length, sl + ks)) (k : oW p l e s m below meth c Q D bs (pc + 3) L rest (hL h0 n cs', n + cs'.length, sl + ks)) : oW p l e s m below meth c Q D bs pc L (.ref (n + i) :: rest) (hL h0 n cs, n + cs.length, sl) := by
  have hlt : i < cs.length := (List.getElem?_eq_some_iff.mp hi).1
  have hrun := hK h0 n cs i sl (fun r cs2 sl2 => r = none ∧ cs2 = cs' ∧ sl2 = sl + ks) hn hlt hi ⟨rfl, hcs, rfl⟩
  refine o_call C (kd := 2) (as := [.ref (n + i)]) (rest := rest) (d := d) hd hc hm rfl (by rw [hna]; rfl) (may_I hna hlen hw hmx) ⟨by rw [hmx]; exact Nat.le_refl _, hrun⟩ (by omega) (by omega) ?_
  rintro r S1 ⟨cs2, sl2, rfl, rfl, rfl, rfl⟩
  exact ⟨hR, k⟩
/-- what stands behind the entry -/
def csX : mC := .inl (.long, 1, .inr (.inl (fun _ => 0)))
theorem o_begin {b sl : Nat} (hj : jC sa b h0) : oI sa b (hL h0 b (csD b ++ csM b ++ [csX]), b + 95, sl) A0 0 := by
  have hlen : (csD b ++ csM b ++ [csX]).length = 95 := by rw [List.length_append, List.length_append, csD_len, csM_len]; rfl
  refine ⟨okA_0, ⟨hj.eq (fun x hx => hL_below hx), Nat.le_refl _, fun _ => 0, rfl, ?_⟩, ⟨T0D (b + 95) sl, gH_all (sz := b + 95) (ns := sl) rfl (fun k d hk => ?_) (by rw [lD_len]; omega), rfl, t0D_A⟩, ⟨T0M (b + 95) sl, gH_all (sz := b + 95) (ns := sl) rfl (fun k d hk => ?_) (by rw [lM_len]; omega), rfl, t0M_A⟩⟩
  · show hL h0 b (csD b ++ csM b ++ [csX]) (b + 94) = _
    rw [hL_get (by rw [hlen]; decide), List.getElem?_append_right (by rw [List.length_append, csD_len, csM_len]; decide), List.length_append, csD_len, csM_len]
    rfl
  · have h1 : k < 65 := by have := (List.getElem?_eq_some_iff.mp hk).1; rw [lD_len] at this; exact this
    show hL h0 b (csD b ++ csM b ++ [csX]) (b + k) = _
    rw [hL_get (by rw [hlen]; omega), List.append_assoc, List.getElem?_append_left (by rw [csD_len]; exact h1)]
    exact lay_D hk
  · have h1 : k < 29 := by have := (List.getElem?_eq_some_iff.mp hk).1; rw [lM_len] at this; exact this
    show hL h0 b (csD b ++ csM b ++ [csX]) (b + 65 + k) = _
    rw [show b + 65 + k = b + (65 + k) by omega, hL_get (by rw [hlen]; omega), List.append_assoc, List.getElem?_append_right (by rw [csD_len]; omega), csD_len, show 65 + k - 65 = k by omega, List.getElem?_append_left (by rw [csM_len]; exact h1)]
    exact lay_M hk
def bnD : List Value := [.null, .int 0, .null, .null, .null, .null, .null, .null]
def bnM : List Value := [.int 0, .null, .int 0, .int 0, .int 0, .null, .null, .null, .int 0, .null, .null, .null, .null, .null, .null, .null, .int 0, .int 0, .long 0, .null, .int 0, .int 0, .int 0, .int 0, .int 0, .null, .null, .int 0, .int 0, .null, .null, .null, .null, .null, .null, .null, .int 0, .null, .null, .null, .null, .null, .int 0, .int 0, .long 0, .int 0, .int 0, .null, .int 0, .int 0, .null, .int 0]
theorem bnD_ok : mBorn 8 = some bnD := by decide +kernel
theorem bnM_ok : mBorn 9 = some bnM := by decide +kernel
theorem cs_1 {b : Nat} : kL ([] ++ [.inr (8, bnD)]) 0 8 (fF_X6 b ([] ++ [(.inr (8, bnD) : mC)]).length) (fA_X6 b ([] ++ [(.inr (8, bnD) : mC)]).length) = csD b := rfl
theorem cs_2 {b : Nat} : kL (csD b ++ [.inr (9, bnM)]) 65 9 (fF_X7 b (csD b ++ [(.inr (9, bnM) : mC)]).length) (fA_X7 b (csD b ++ [(.inr (9, bnM) : mC)]).length) = csD b ++ csM b := by
  have e : (csD b ++ [(.inr (9, bnM) : mC)]).length = 66 := by rw [List.length_append, csD_len]; rfl
  rw [e]
  unfold kL
  rw [List.set_append_right _ _ (by rw [csD_len]; exact Nat.le_refl _), csD_len, List.append_assoc]
  rfl
theorem o_entry (C : oC p s m c bs Ls xs D sa) (hLs : Ls ≤ 2048) (hj : jC sa s.heap.size h0) (hTy : oTy p l e s m below meth c Q D bs Ls sa) (hEnd : ∀ S L, oR s S → oW p l e s m below meth c Q D bs 619 L [] S) :
    oW p l e s m below meth c Q D bs 0 [some (.ref bs), none, none, none, none, none, none] [] (h0, s.heap.size, 0) := by
  have s0 : ((h0, s.heap.size, 0) : mS) = (hL h0 s.heap.size [], s.heap.size + ([] : List mC).length, 0) := by rw [hL_nil]; rfl
  rw [s0]
  have lenM : (csD s.heap.size ++ csM s.heap.size).length = 94 := by rw [List.length_append, csD_len, csM_len]
  have hR1 : ∀ (h : mH) (k sl : Nat), k ≤ 95 → sl ≤ 70000 → oR s (h, s.heap.size + k, sl) := fun h k sl hk hs => ⟨by show s.heap.size + k - s.heap.size ≤ 601024; omega, by show sl ≤ 7293034; omega⟩
  refine o_new C (born := bnD) dL_0 tC_8_8 bnD_ok (hR1 _ _ _ (by show 1 ≤ 95; decide) (by decide)) ?_
  refine o_pure C (hR1 _ _ _ (by show 1 ≤ 95; decide) (by decide)) dL_3 (Or.inr rfl) (fun S => rfl) ?_
  refine o_con C (i := 0) (con_X6 (d := 0) sa) (Nat.le_refl _) rfl cs_1 dL_4 tG_8_17 tM_78 rfl rfl rfl rfl (by decide) (hR1 _ _ _ (by rw [csD_len]; decide) (by decide)) ?_
  refine o_pure C (hR1 _ _ _ (by rw [csD_len]; decide) (by decide)) dL_7 (Or.inr rfl) (pc' := 8) (L' := [some (.ref bs), some (.ref s.heap.size), none, none, none, none, none]) (st' := []) (fun S => rfl) ?_
  refine o_new C (born := bnM) dL_8 tC_8_18 bnM_ok (hR1 _ _ _ (by rw [List.length_append, csD_len]; decide) (by decide)) ?_
  refine o_pure C (hR1 _ _ _ (by rw [List.length_append, csD_len]; decide) (by decide)) dL_11 (Or.inr rfl) (pc' := 12) (L' := [some (.ref bs), some (.ref s.heap.size), none, none, none, none, none]) (st' := [.ref (s.heap.size + (csD s.heap.size).length), .ref (s.heap.size + (csD s.heap.size).length)]) (fun S => rfl) ?_
  rw [csD_len]
  refine o_con C (i := 65) (con_X7 (d := 0) sa) (Nat.le_refl _) (by rw [List.getElem?_append_right (by rw [csD_len]; exact Nat.le_refl _), csD_len]; rfl) cs_2 dL_12 tG_8_20 tM_110 rfl rfl rfl rfl (by decide) (hR1 _ _ _ (by rw [lenM]; decide) (by decide)) ?_
  rw [lenM]
  refine o_pure C (hR1 _ _ _ (by decide) (by decide)) dL_15 (Or.inr rfl) (pc' := 16) (L' := [some (.ref bs), some (.ref s.heap.size), some (.ref (s.heap.size + 65)), none, none, none, none]) (st' := []) (fun S => rfl) ?_
  refine o_pure C (hR1 _ _ _ (by decide) (by decide)) dL_16 (Or.inr rfl) (pc' := 17) (L' := [some (.ref bs), some (.ref s.heap.size), some (.ref (s.heap.size + 65)), none, none, none, none]) (st' := [.int 1]) (fun S => rfl) ?_
  refine o_step C dL_17 (Or.inr rfl) (nx := (19, [some (.ref bs), some (.ref s.heap.size), some (.ref (s.heap.size + 65)), none, none, none, none], [.ref (s.heap.size + 94)], (hL h0 s.heap.size (csD s.heap.size ++ csM s.heap.size ++ [csX]), s.heap.size + 95, 0 + bnD.length + 21395 + bnM.length + 38904 + 1))) ?_ (hR1 _ _ _ (by decide) (by decide)) ?_
  · have key := hL_push (h := h0) (n := s.heap.size) (cs := csD s.heap.size ++ csM s.heap.size) (c := csX)
    rw [lenM] at key
    rw [← key]
    rfl
  refine o_pure C (hR1 _ _ _ (by decide) (by decide)) dL_19 (Or.inr rfl) (pc' := 20) (L' := [some (.ref bs), some (.ref s.heap.size), some (.ref (s.heap.size + 65)), some (.ref (s.heap.size + 94)), none, none, none]) (st' := []) (fun S => rfl) ?_
  refine o_pure C (hR1 _ _ _ (by decide) (by decide)) dL_20 (Or.inr rfl) (pc' := 21) (L' := [some (.ref bs), some (.ref s.heap.size), some (.ref (s.heap.size + 65)), some (.ref (s.heap.size + 94)), none, none, none]) (st' := [.int 0]) (fun S => rfl) ?_
  refine o_pure C (hR1 _ _ _ (by decide) (by decide)) dL_21 (Or.inr rfl) (pc' := 23) (L' := lwL bs s.heap.size (4 * 0) none none) (st' := []) (fun S => rfl) ?_
  exact o_loop_open C hLs hTy hEnd 512 0 (by omega) _ A0 0 none none (o_begin hj) (Nat.le_refl _) (by show 0 + bnD.length + 21395 + bnM.length + 38904 + 1 ≤ 70000 + 1000 * 0; decide) (by decide) (Or.inl rfl) (Or.inl rfl)
end O5
