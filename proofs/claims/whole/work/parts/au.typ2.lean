/-! THE LAW'S OWN type -/
def M_T : mM := (8, cL_type, 6, some .int, 4, false, 99)
def hhT : List (Nat × Nat × Nat × Nat) := [(0, 11, 14, 13), (0, 11, 18, 15)]
def wT : Cond := Cond.codeWith yL_type cL_type 6 (some .int) hhT
set_option maxRecDepth 100000 in
theorem wT_in : wT ∈ tTs := kAt_mem (n := 944) (by decide +kernel)
set_option maxRecDepth 100000 in
theorem wT_l : Cond.methodLink "FlowDeskLaw" 23 yL_type ∈ tTs := kAt_mem (n := 942) (by decide +kernel)
set_option maxRecDepth 100000 in
theorem wT_s : Cond.static yL_type ∈ tTs := kAt_mem (n := 943) (by decide +kernel)
set_option maxRecDepth 100000 in
theorem wT_i : Cond.initialized "FlowDeskLaw" ∈ tTs := kAt_mem (n := 111) (by decide +kernel)
set_option maxRecDepth 100000 in
theorem wT_13 : Cond.classLink "FlowDeskLaw" 13 eI ∈ tTs := kAt_mem (n := 945) (by decide +kernel)
set_option maxRecDepth 100000 in
theorem wT_15 : Cond.classLink "FlowDeskLaw" 15 eU ∈ tTs := kAt_mem (n := 946) (by decide +kernel)
set_option maxRecDepth 100000 in
theorem wT_7 : Cond.methodLink "FlowDeskLaw" 7 (tY 79) ∈ tTs := kAt_mem (n := 947) (by decide +kernel)
theorem dT_0 : decode cL_type 0 = .ok (.aload 4, 2) := by decide +kernel
theorem dT_2 : decode cL_type 2 = .ok (.iconst 0, 1) := by decide +kernel
theorem dT_3 : decode cL_type 3 = .ok (.aload_n 0, 1) := by decide +kernel
theorem dT_4 : decode cL_type 4 = .ok (.lload_n 1, 1) := by decide +kernel
theorem dT_5 : decode cL_type 5 = .ok (.iload_n 3, 1) := by decide +kernel
theorem dT_6 : decode cL_type 6 = .ok (.invokevirtual 7, 3) := by decide +kernel
theorem dT_9 : decode cL_type 9 = .ok (.i2l, 1) := by decide +kernel
theorem dT_10 : decode cL_type 10 = .ok (.lastore, 1) := by decide +kernel
theorem dT_11 : decode cL_type 11 = .ok (.goto 11, 3) := by decide +kernel
theorem dT_14 : decode cL_type 14 = .ok (.astore 5, 2) := by decide +kernel
theorem dT_16 : decode cL_type 16 = .ok (.iconst 1, 1) := by decide +kernel
theorem dT_17 : decode cL_type 17 = .ok (.ireturn, 1) := by decide +kernel
theorem dT_18 : decode cL_type 18 = .ok (.astore 5, 2) := by decide +kernel
theorem dT_20 : decode cL_type 20 = .ok (.iconst 2, 1) := by decide +kernel
theorem dT_21 : decode cL_type 21 = .ok (.ireturn, 1) := by decide +kernel
theorem dT_22 : decode cL_type 22 = .ok (.iconst 0, 1) := by decide +kernel
theorem dT_23 : decode cL_type 23 = .ok (.ireturn, 1) := by decide +kernel
/-- a virtual call may be made, from any frame -/
theorem may_G {M M' : mM} {L : mL} {S : mS} {a : Nat} {r rest fs : List Value} (hn : (Value.ref a :: r).length = mNa M') (hL : L.length = mMax M) (hw : mWide rest = true) (ha : (mArg (Value.ref a :: r)).length ≤ mMax M') (h20 : mMax M' ≤ 20) (hk : S.1 a = some (.inr (mCi M', fs))) : mMay 0 M M' L ((Value.ref a :: r).reverse ++ rest) S = true := by
  have e1 : ((((Value.ref a :: r).reverse ++ rest).take (mNa M'))).reverse = Value.ref a :: r := by
    rw [← hn, ← List.length_reverse, List.take_left, List.reverse_reverse]
  have e2 : ((Value.ref a :: r).reverse ++ rest).drop (mNa M') = rest := by
    rw [← hn, ← List.length_reverse, List.drop_left]
  unfold mMay
  rw [e1, e2]
  simp only [Bool.and_eq_true, decide_eq_true_eq, Bool.or_eq_true, beq_iff_eq]
  refine ⟨⟨⟨⟨⟨?_, hL⟩, hw⟩, ha⟩, h20⟩, ?_⟩
  · rw [← hn, List.length_append, List.length_reverse]; omega
  · refine Or.inr ?_
    rw [if_pos trivial]
    unfold mRcv
    dsimp only
    rw [hk]
    simp
section TL
variable {p : Program} {l : Launch} {e : Env} {R : Room} {s : State} {m : MethodId} {args : Array Value} {below : List Frame} {meth : Method} {c : Code} {Q : State → Prop} {D : va_G} {b ns0 : Nat} {pc : Nat} {L : mL} {st : List Value} {S S1 : mS} {sa : Nat → Nat} {a o : Nat} {x : Int64} {n : Int32} {fs : List Value}
/-- its frame gives its contract -/
theorem t_met {k : Int32} (body : ∀ p e s m below meth c, tC9 p s m ([.ref a, .long x, .int n, .ref o] : List Value).toArray c M_T D b sa → c.exceptionTable.toList = tableOf hhT → s.heap.size = S.2.1 → (∀ pcr L', decode cL_type pcr = .ok (.ireturn, 1) → mOK p l e (mRm 1001 (S1.2.1 - S.2.1) (S1.2.2 - S.2.2)) s m ([.ref a, .long x, .int n, .ref o] : List Value).toArray below meth c (MQ below (mQc D b (some (.int k)) S1) ([.ref a, .long x, .int n, .ref o] : List Value).toArray s (S1.2.1 - S.2.1) (S1.2.2 - S.2.2) (fun q => b ≤ q)) D b S.2.2 pcr L' [.int k] S1) →
      mOK p l e (mRm 1001 (S1.2.1 - S.2.1) (S1.2.2 - S.2.2)) s m ([.ref a, .long x, .int n, .ref o] : List Value).toArray below meth c (MQ below (mQc D b (some (.int k)) S1) ([.ref a, .long x, .int n, .ref o] : List Value).toArray s (S1.2.1 - S.2.1) (S1.2.2 - S.2.2) (fun q => b ≤ q)) D b S.2.2 0 [some (.ref a), some (.long x), none, some (.int n), some (.ref o), none] [] S) :
    Met l yL_type (wT :: tTs) (mRm 1001 (S1.2.1 - S.2.1) (S1.2.2 - S.2.2)) (va_Pc [.ref a, .long x, .int n, .ref o] (mPre D b tNs (tRs sa) (tZs sa) S)) (mQc D b (some (.int k)) S1) (S1.2.1 - S.2.1) (S1.2.2 - S.2.2) (fun q => b ≤ q) := by
  refine va_MetW (cc := cL_type) (maxL := 6) (ret := some .int) (hh := hhT) (by decide +kernel) rfl ?_
  intro p e s m args below meth c s₁ B hml hv
  obtain ⟨rfl, hsz, hR, hk, hbs⟩ := hv
  have hts0 := atoms_spec (ws := wT :: tTs) B.pre
  have hts : ∀ w ∈ tTs, w.before ([.ref a, .long x, .int n, .ref o] : List Value).toArray s = true := fun w hw => hts0 w (List.mem_cons_of_mem _ hw)
  have hown : s.vm.findClass (tN (mTag M_T)) = some m.cls := findClass_of_methodNamed B.named
  have C : tC9 p s m ([.ref a, .long x, .int n, .ref o] : List Value).toArray c M_T D b sa := ⟨B.exec, B.bytes, hml, hown, hts, hk, hbs, rfl, fun q hq => by cases hq⟩
  have htab := vx_table (x := yL_type) B (hts _ wT_in)
  rw [lg_entry_eq]
  have key := body p e s m below meth c C htab hsz (fun pcr L' hd => by
    intro ls H locs hls hHs hRel hns hS
    have hq : ∀ t : State, t.heap = H → s.WarmedH t.vm → mQc D b (some (.int k)) S1 ([.ref a, .long x, .int n, .ref o] : List Value).toArray s (.returned (some (.int k))) t := fun t ht hW => ⟨rfl, by rw [ht]; exact hHs, by rw [ht]; exact hRel.moved hW.alike, hS.F ht⟩
    rw [hsz]
    exact W.zret B.exec B.bytes B.returns rfl hq hS.2.2 hd)
  have k2 := key _ s.heap [] (mEn_R (vs := [.ref a, .long x, .int n, .ref o]) (n := 6) (Nat.le_of_ble_eq_true rfl)) hsz hR (Nat.le_refl _) va_S.rf
  rw [hsz, Nat.sub_self, Nat.sub_self] at k2
  exact k2
set_option maxHeartbeats 4000000 in
/-- nothing is thrown -/
theorem t_lawN {r0 : Int32} {f : Nat → Int64} {S2 : mS} (hcell : S.1 a = some (.inr (8, fs))) (hrun : mCW (tP sa) b 1000 mX6_type [.ref a, .long x, .int n] S (fun r S' => r = some (.int r0) ∧ S' = S2)) (he : S2.2 = S.2) (ho : S2.1 o = some (.inl (.long, 1, .inr (.inl f)))) (hbo : b ≤ o) (hS1 : S1 = (mUp S2.1 o (.inl (.long, 1, .inr (.inl (vp_updL f 0 r0.toInt64)))), S2.2)) :
    Met l yL_type (wT :: tTs) (mRm 1001 (S1.2.1 - S.2.1) (S1.2.2 - S.2.2)) (va_Pc [.ref a, .long x, .int n, .ref o] (mPre D b tNs (tRs sa) (tZs sa) S)) (mQc D b (some (.int 0)) S1) (S1.2.1 - S.2.1) (S1.2.2 - S.2.2) (fun q => b ≤ q) := by
  have e9 : S1.2 = S.2 := by rw [hS1]; exact he
  refine t_met (fun p e s m below meth c C htab hsz ret => ?_)
  obtain ⟨hal, nn, r, S', hex, hr, hS'⟩ := hrun
  rw [hr, hS'] at hex
  have hs := (tCalls sa).1 8 7 0 79 mX6_type tG_8_7 tM_79
  have hM := mMet (l := l) (D := D) (b := b) (tPok sa) (tCalls sa) tGood (q := 79) tM_79 hs.2.1.2.2 hex hal
  have hRm : ∀ T : mS, T.2 = S.2 → T.2.1 - s.heap.size ≤ (mRm 1001 (S1.2.1 - S.2.1) (S1.2.2 - S.2.2)).cells ∧ T.2.2 - S.2.2 ≤ (mRm 1001 (S1.2.1 - S.2.1) (S1.2.2 - S.2.2)).slots := fun T hT => ⟨by rw [hT, hsz, Nat.sub_self]; exact Nat.zero_le _, by rw [hT, Nat.sub_self]; exact Nat.zero_le _⟩
  refine t_pure C (hRm S rfl) dT_0 (Or.inr rfl) (fun S => rfl) ?_
  refine t_pure C (hRm S rfl) dT_2 (Or.inr rfl) (fun S => rfl) ?_
  refine t_pure C (hRm S rfl) dT_3 (Or.inr rfl) (fun S => rfl) ?_
  refine t_pure C (hRm S rfl) dT_4 (Or.inr rfl) (fun S => rfl) ?_
  refine t_pure C (hRm S rfl) dT_5 (Or.inr rfl) (pc' := 6) (L' := [some (.ref a), some (.long x), none, some (.int n), some (.ref o), none]) (st' := ([.ref a, .long x, .int n] : List Value).reverse ++ [.int 0, .ref o]) (fun S => rfl) ?_
  obtain ⟨hx, hb, hml, hown, hts, hk, hbs, -, -⟩ := id C
  refine mg_call (M := M_T) (own := tN 8) (y := tY 79) (kd := 0) (k := 7) (d' := 1000) (r1 := some (.int r0)) (S1 := S2) hx hb hml hown hts hk hbs tGood hs (may_G (fs := fs) rfl rfl rfl (Nat.le_of_ble_eq_true rfl) (Nat.le_of_ble_eq_true rfl) hcell) (Nat.le_refl _) (Nat.le_refl _) (hRm S2 he).1 (hRm S2 he).2 ⟨by rw [he]; exact Nat.le_refl _, by rw [he]; exact Nat.le_refl _⟩ hM dT_6 ?_
  refine t_pure C (hRm S2 he) dT_9 (Or.inr rfl) (pc' := 10) (L' := [some (.ref a), some (.long x), none, some (.int n), some (.ref o), none]) (st' := [.long r0.toInt64, .int 0, .ref o]) (fun S => rfl) ?_
  refine t_step C dT_10 (Or.inr rfl) (nx := (11, [some (.ref a), some (.long x), none, some (.int n), some (.ref o), none], [], S1)) ?_ (hRm S1 e9) ?_
  · show mAst b .lastore 10 _ [.long r0.toInt64, .int 0, .ref o] S2 = _
    unfold mAst
    dsimp only
    rw [ho]
    dsimp only
    rw [if_neg (Nat.not_lt.mpr hbo), hS1]
    rfl
  refine t_pure C (hRm S1 e9) dT_11 (Or.inr rfl) (pc' := 22) (L' := [some (.ref a), some (.long x), none, some (.int n), some (.ref o), none]) (st' := []) (fun S => rfl) ?_
  refine t_pure C (hRm S1 e9) dT_22 (Or.inr rfl) (pc' := 23) (L' := [some (.ref a), some (.long x), none, some (.int n), some (.ref o), none]) (st' := [.int 0]) (fun S => rfl) ?_
  exact ret 23 _ dT_23
set_option maxHeartbeats 4000000 in
/-- it is thrown, and caught -/
theorem t_lawX (hl : l.stackTraces = false) {v1 k : Int32} {E9 : String} (hcell : S.1 a = some (.inr (8, fs))) (hf : fs[1]? = some (.int v1)) (hcase : (E9 = eI ∧ k = 1 ∧ (n < 0 ∨ 8 < n)) ∨ (E9 = eU ∧ k = 2 ∧ ¬ n < 0 ∧ ¬ 8 < n ∧ 400 < v1 + n)) (hS1 : S1 = (S.1, S.2.1 + 1, S.2.2 + 6)) :
    Met l yL_type (wT :: tTs) (mRm 1001 (S1.2.1 - S.2.1) (S1.2.2 - S.2.2)) (va_Pc [.ref a, .long x, .int n, .ref o] (mPre D b tNs (tRs sa) (tZs sa) S)) (mQc D b (some (.int k)) S1) (S1.2.1 - S.2.1) (S1.2.2 - S.2.2) (fun q => b ≤ q) := by
  have c1 : S1.2.1 - S.2.1 = 1 := by rw [hS1]; show S.2.1 + 1 - S.2.1 = 1; omega
  have c2 : S1.2.2 - S.2.2 = 6 := by rw [hS1]; show S.2.2 + 6 - S.2.2 = 6; omega
  refine t_met (fun p e s m below meth c C htab hsz ret => ?_)
  rw [c1, c2] at ret ⊢
  have hM := t_throw (l := l) (D := D) (b := b) (sa := sa) (x := x) hl hcell hf (show (E9 = eI ∧ (n < 0 ∨ 8 < n)) ∨ (E9 = eU ∧ ¬ n < 0 ∧ ¬ 8 < n ∧ 400 < v1 + n) from hcase.imp (fun z => ⟨z.1, z.2.2⟩) (fun z => ⟨z.1, z.2.2⟩))
  have hs := (tCalls sa).1 8 7 0 79 mX6_type tG_8_7 tM_79
  have hRm : S.2.1 - s.heap.size ≤ (mRm 1001 1 6).cells ∧ S.2.2 - S.2.2 ≤ (mRm 1001 1 6).slots := ⟨by show _ ≤ 1; omega, by show _ ≤ 6; omega⟩
  have hRm1 : S1.2.1 - s.heap.size ≤ (mRm 1001 1 6).cells ∧ S1.2.2 - S.2.2 ≤ (mRm 1001 1 6).slots := ⟨by show _ ≤ 1; omega, by show _ ≤ 6; omega⟩
  refine t_pure C hRm dT_0 (Or.inr rfl) (fun S => rfl) ?_
  refine t_pure C hRm dT_2 (Or.inr rfl) (fun S => rfl) ?_
  refine t_pure C hRm dT_3 (Or.inr rfl) (fun S => rfl) ?_
  refine t_pure C hRm dT_4 (Or.inr rfl) (fun S => rfl) ?_
  refine t_pure C hRm dT_5 (Or.inr rfl) (pc' := 6) (L' := [some (.ref a), some (.long x), none, some (.int n), some (.ref o), none]) (st' := [.int n, .long x, .ref a, .int 0, .ref o]) (fun S => rfl) ?_
  obtain ⟨hx, hb, hml, hown, hts, hk, hbs, -, -⟩ := id C
  obtain ⟨⟨s1, s2⟩, ⟨s3, s4, s5⟩, s6, s7, s8, s9⟩ := hs
  rcases s9 with ⟨-, v1', v2, q, v3, v4⟩ | ⟨z, -⟩ | ⟨z, -⟩
  case inr.inl => cases z
  case inr.inr => cases z
  intro ls H locs hls hszH hRel hns hS
  have hGI := mGoodIn tGood s1
  have F : CallFix p m c cL_type 6 s ([.ref a, .long x, .int n, .ref o] : List Value).toArray tTs (tN 8) := ⟨hx, hb, hml, hown, hts⟩
  have cw : CallW (mRm 1001 1 6) s ([.ref a, .long x, .int n, .ref o] : List Value).toArray (tN 8) (tY 79).cls 7 (tY 79) (mCode mX6_type) (mMax mX6_type) (mRet mX6_type) (Cond.code (tY 79) (mCode mX6_type) (mMax mX6_type) (mRet mX6_type) :: tTs) (mRm 20 1 6) 1 6 (mNa mX6_type - 1) :=
    ⟨callB_of _ hts hGI rfl rfl rfl (hts _ s2) (hts _ wT_7) ⟨s3, s4, s6⟩ ⟨by decide, by decide⟩, hts _ v1', hts _ v2⟩
  obtain ⟨q', cell, g1, g2, g3, g4, -⟩ := hRel a _ hcell
  have hrecv : ∃ cellB : Cell, H[a]? = some cellB ∧ cellB.vm.isStatics = false ∧ s.vm.findClass (tY 79).cls = some cellB.cls := ⟨cell, g2, g4.1, by
    cases v3.symm.trans g1
    rw [g3, ← v4]; exact (hk.1 _ _ v3).2.1⟩
  have hp : PreV s H (tY 79).cls a (va_Pc (Value.ref a :: [.long x, .int n]) (mPre D b tNs (tRs sa) (tZs sa) S)) [.long x, .int n] := ⟨mPre_blind tGood _ S, hrecv, mPre_at tGood hk hbs hszH hRel hS _⟩
  refine vx_calli (A0 := fun q => b ≤ q) (A1 := fun q => b ≤ q) (AX := fun q => b ≤ q) (H0 := s.heap) (vx_runV (g := F0 m 6 ls [.int n, .long x, .ref a, .int 0, .ref o]) (rest := [.int 0, .ref o]) F hM cw hp rfl rfl (hls.1.trans rfl) rfl (lv_room (Nat.le_of_ble_eq_true rfl)) dT_6 ⟨?_, ?_⟩) hS (fun q _ h => h) (fun q h => h) (fun q _ h => h) (fun E ce q9 u t H1 locs1 ht ha _ hB hz1 hkeep hS1' hce hcv hcl => ?_) (fun r u t H1 locs1 _ _ hF => hF.elim)
  · show S.2.1 - s.heap.size + 1 ≤ 1
    omega
  · show S.2.2 - S.2.2 + 6 ≤ 6
    omega
  · obtain ⟨rfl, hz, hrel⟩ := hB
    have go : ∀ pch : Nat, mOK p l e (mRm 1001 1 6) s m ([.ref a, .long x, .int n, .ref o] : List Value).toArray below meth c (MQ below (mQc D b (some (.int k)) S1) ([.ref a, .long x, .int n, .ref o] : List Value).toArray s 1 6 (fun q => b ≤ q)) D b S.2.2 pch [some (.ref a), some (.long x), none, some (.int n), some (.ref o), none] [.ref q9] S1 → W p l e (mRm 1001 1 6) s m ([.ref a, .long x, .int n, .ref o] : List Value).toArray below meth c H1 locs1 (S.2.1 - s.heap.size + 1) (S.2.2 - S.2.2 + 6) (MQ below (mQc D b (some (.int k)) S1) ([.ref a, .long x, .int n, .ref o] : List Value).toArray s 1 6 (fun q => b ≤ q)) (F0 m pch ls [.ref q9]) := by
      intro pch hok
      have hW := hok ls H1 locs1 hls (by rw [← ht, hz, hS1]) (by rw [hS1, ← ht]; exact hrel.moved ha.symm) (by rw [hS1]; exact Nat.le_add_right _ _) hS1'
      rw [hS1] at hW
      have x1 : S.2.1 + 1 - s.heap.size = S.2.1 - s.heap.size + 1 := by omega
      have x2 : S.2.2 + 6 - S.2.2 = S.2.2 - S.2.2 + 6 := by omega
      dsimp only at hW
      rw [x1, x2] at hW
      rw [hS1]
      exact hW
    rcases hcase with ⟨rfl, rfl, hc⟩ | ⟨rfl, rfl, hc⟩
    · refine vx_catch (own := "FlowDeskLaw") (name := eI) hown [] ⟨0, 11, 14, 13⟩ [⟨0, 11, 18, 15⟩] (htab.trans rfl) (fun z hz => nomatch hz) (by decide) (by decide) (hts _ wT_13) (va_Nw.use rfl hk.2.2.2.2.2.2.2.1) hce hcv hcl (go 14 ?_)
      refine t_pure C hRm1 dT_14 (Or.inr rfl) (pc' := 16) (L' := [some (.ref a), some (.long x), none, some (.int n), some (.ref o), some (.ref q9)]) (st' := []) (fun S => rfl) ?_
      refine t_pure C hRm1 dT_16 (Or.inr rfl) (pc' := 17) (L' := [some (.ref a), some (.long x), none, some (.int n), some (.ref o), some (.ref q9)]) (st' := [.int 1]) (fun S => rfl) ?_
      exact ret 17 _ dT_17
    · refine vx_catch (own := "FlowDeskLaw") (name := eU) hown [⟨0, 11, 14, 13⟩] ⟨0, 11, 18, 15⟩ [] (htab.trans rfl) (fun z hz => ?_) (by decide) (by decide) (hts _ wT_15) (va_Nw.use rfl hk.2.2.2.2.2.2.2.2.1) hce hcv hcl (go 18 ?_)
      · obtain rfl := List.mem_singleton.mp hz
        exact Or.inr ⟨by decide, eI, hts _ wT_13, hk.2.2.2.2.2.2.2.2.2⟩
      refine t_pure C hRm1 dT_18 (Or.inr rfl) (pc' := 20) (L' := [some (.ref a), some (.long x), none, some (.int n), some (.ref o), some (.ref q9)]) (st' := []) (fun S => rfl) ?_
      refine t_pure C hRm1 dT_20 (Or.inr rfl) (pc' := 21) (L' := [some (.ref a), some (.long x), none, some (.int n), some (.ref o), some (.ref q9)]) (st' := [.int 2]) (fun S => rfl) ?_
      exact ret 21 _ dT_21
end TL
