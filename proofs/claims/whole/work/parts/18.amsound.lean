/-! calls, primitives, and the whole run -/
section MCL
variable {p : Program} {l : Launch} {e : Env} {R : Room} {s : State} {m : MethodId} {args : Array Value} {below : List Frame} {meth : Method} {c : Code} {Q : State → Prop} {D : va_G} {b ns0 : Nat} {pc : Nat} {L : mL} {S S1 : mS} {Ts Ns : List Cond} {Rs : List (String × Nat × String × Nat)} {Zs : List (String × String × String × Value)} {cc : ByteArray} {r1 : Option Value} {st rest : List Value}
/-- behind a call -/
theorem mg_after {H : Heap} {locs : List Loc} {ls : Array Slot} {aa : Array Value} (hr : va_Run p l e R s m args below meth c H locs (S.2.1 - s.heap.size) (S.2.2 - ns0) (S1.2.1 - S.2.1) (S1.2.2 - S.2.2) (F0 m pc ls st) rest (mQc D b r1 S1 aa) (fun q => b ≤ q)) (hl : mLR ls L) (hS : va_S (fun q => b ≤ q) s.heap H locs) (hsz : H.size = S.2.1) (hns : ns0 ≤ S.2.2) (hm : S.2.1 ≤ S1.2.1 ∧ S.2.2 ≤ S1.2.2)
    (kk : mOK p l e R s m args below meth c Q D b ns0 (pc + 3) L (r1.toList ++ rest) S1) : W p l e R s m args below meth c H locs (S.2.1 - s.heap.size) (S.2.2 - ns0) Q (F0 m pc ls st) := by
  intro T hT X
  obtain ⟨v, st₀, t, T', L1, h0, X', hL, e1, e2, ⟨hv, hz, hRel, hF⟩, stp⟩ := hr T hT X
  cases hv
  obtain ⟨f1, f2⟩ := hF
  rw [h0] at f1 f2
  have hle : s.heap.size ≤ S.2.1 := by rw [← hsz]; exact hS.1
  have ha : t.vm.Alike s.vm := by rw [← e2]; exact X'.warmed.alike.symm
  rw [show S.2.1 - s.heap.size + (S1.2.1 - S.2.1) = S1.2.1 - s.heap.size by omega, show S.2.2 - ns0 + (S1.2.2 - S.2.2) = S1.2.2 - ns0 by omega] at X'
  obtain ⟨t2, a1, b1⟩ := kk ls T'.heap (locs ++ L1) hl (by rw [e1]; exact hz) (by rw [e1]; exact hRel.moved ha) (Nat.le_trans hns hm.2)
    ⟨Nat.le_trans hS.1 (by rw [e1]; exact f1), fun q h1 h2 => by rw [e1, f2 q (Nat.lt_of_lt_of_le h1 hS.1) h2]; exact hS.2.1 q h1 h2, fun q hq => by
      rcases List.mem_append.mp hq with h | h
      · exact hS.2.2 q h
      · exact hL q h⟩ T' rfl X'
  exact ⟨t2, stp t2 a1, b1⟩
theorem mPre_blind (hG : mGood Ts Ns) (as : List Value) (S : mS) : FrameBlind (va_Pc as (mPre D b Ns Rs Zs S)) := by
  intro a U g mk q
  obtain ⟨q0, q1, q2, q3, q4⟩ := q
  exact ⟨q0, q1, mRel.moved (u := U) (U := U.calling g mk a) (Vm.Alike.refl U.vm) q2, mKn.same (u := U) (U := U.calling g mk a) hG rfl rfl q3, q4⟩
theorem mPre_at (hG : mGood Ts Ns) (hk : mKn D b Ns Rs Zs s s.heap) (hbs : b ≤ s.heap.size) {H : Heap} {locs : List Loc} (hsz : H.size = S.2.1) (hR : mRel D s H S.1) (hS : va_S (fun q => b ≤ q) s.heap H locs) (as : List Value) : ∀ U : State, U.heap = H → s.WarmedH U.vm → va_Pc as (mPre D b Ns Rs Zs S) as.toArray U := by
  intro U hU hW
  refine ⟨rfl, by rw [hU]; exact hsz, by rw [hU]; exact hR.moved hW.alike, by rw [hU]; exact mKn.warm hG hW hS.2.1 hk, by rw [hU]; exact Nat.le_trans hbs hS.1⟩
theorem mGoodIn (hG : mGood Ts Ns) {w0 : Cond} (hw : w0 ∈ Ts) : GoodIn Ts (w0 :: Ts) := by
  intro w hw1
  rcases List.mem_cons.mp hw1 with rfl | h
  · exact ⟨hw, hG.1 _ hw⟩
  · exact ⟨h, hG.1 _ h⟩
set_option maxHeartbeats 4000000 in
/-- a call of a method -/
theorem mg_call {M M' : mM} {own : String} {y : MethodName} {kd k d' : Nat} (hx : p.tables.exec = Jvm.exec) (hb : c.code = mCode M) (hml : c.maxLocals = mMax M) (hown : s.vm.findClass own = some m.cls) (hts : ∀ w ∈ Ts, w.before args s = true) (hk : mKn D b Ns Rs Zs s s.heap) (hbs : b ≤ s.heap.size) (hG : mGood Ts Ns) (hs : mSok Ts Ns own kd k y M') (hmay : mMay kd M M' L st S = true)
    (hRf : d' + 1 ≤ R.frames) (hRl : 40 * (d' + 1) ≤ R.locals) (hRc : S1.2.1 - s.heap.size ≤ R.cells) (hRs : S1.2.2 - ns0 ≤ R.slots) (hm : S.2.1 ≤ S1.2.1 ∧ S.2.2 ≤ S1.2.2)
    (hM : Met l y (Cond.code y (mCode M') (mMax M') (mRet M') :: Ts) (mRm d' (S1.2.1 - S.2.1) (S1.2.2 - S.2.2)) (va_Pc (st.take (mNa M')).reverse (mPre D b Ns Rs Zs S)) (mQc D b r1 S1) (S1.2.1 - S.2.1) (S1.2.2 - S.2.2) (fun q => b ≤ q))
    (hdg : decode (mCode M) pc = .ok (mIn kd k, 3)) (kk : mOK p l e R s m args below meth c Q D b ns0 (pc + 3) L (r1.toList ++ st.drop (mNa M')) S1) : mOK p l e R s m args below meth c Q D b ns0 pc L st S := by
  intro ls H locs hls hsz hR hns hS
  unfold mMay at hmay
  simp only [Bool.and_eq_true, decide_eq_true_eq, mWide] at hmay
  obtain ⟨⟨⟨⟨⟨m1, m2⟩, m3⟩, m4⟩, m5⟩, m6⟩ := hmay
  obtain ⟨⟨s1, s2⟩, ⟨s3, s4, s5⟩, s6, s7, s8, s9⟩ := hs
  have hle : s.heap.size ≤ S.2.1 := by rw [← hsz]; exact hS.1
  have hst : st = ((st.take (mNa M')).reverse).reverse ++ st.drop (mNa M') := by rw [List.reverse_reverse, List.take_append_drop]
  have hlen : (st.take (mNa M')).reverse.length = mNa M' := by rw [List.length_reverse, List.length_take]; omega
  have hsize : (F0 m pc ls st).locals.size = mMax M := hls.1.trans m2
  have hW : 2 * (F0 m pc ls st).monitorRoom + ((st.drop (mNa M')).map fun v => v.category).sum ≤ 8 := lv_room m3
  have hfit : S.2.1 - s.heap.size + (S1.2.1 - S.2.1) ≤ R.cells ∧ S.2.2 - ns0 + (S1.2.2 - S.2.2) ≤ R.slots := ⟨by omega, by omega⟩
  have hroom : (mRm d' (S1.2.1 - S.2.1) (S1.2.2 - S.2.2)).frames + 1 ≤ R.frames ∧ 8 + (mMax M' + 11) + (mRm d' (S1.2.1 - S.2.1) (S1.2.2 - S.2.2)).locals ≤ R.locals := ⟨hRf, by show 8 + (mMax M' + 11) + 40 * d' ≤ R.locals; omega⟩
  have F : CallFix p m c (mCode M) (mMax M) s args Ts own := ⟨hx, hb, hml, hown, hts⟩
  have hGI := mGoodIn hG s1
  generalize (st.take (mNa M')).reverse = al at *
  rcases s9 with ⟨rfl, v1, v2, q, v3, v4⟩ | ⟨rfl, v1⟩ | ⟨rfl, v1, v2, v3⟩
  · -- virtual
    simp only [Bool.or_eq_true] at m6
    have m7 : mRcv S (mCi M') al = true := by
      rcases m6 with z | z
      · cases z
      · exact z
    cases al with
    | nil => cases m7
    | cons a0 As =>
      cases a0 with
      | ref a =>
        unfold mRcv at m7
        dsimp only at m7
        have hcell : ∃ fs, S.1 a = some (.inr (mCi M', fs)) := by
          cases ha : S.1 a with
          | none => rw [ha] at m7; cases m7
          | some x =>
            rw [ha] at m7
            cases x with
            | inl x => cases m7
            | inr x =>
              obtain ⟨ci, fs⟩ := x
              have : ci = mCi M' := by simpa using m7
              subst this
              exact ⟨fs, rfl⟩
        obtain ⟨fs, ha⟩ := hcell
        obtain ⟨q', cell, g1, g2, g3, g4, -⟩ := hR a _ ha
        cases v3.symm.trans g1
        have hrecv : ∃ cellB : Cell, H[a]? = some cellB ∧ cellB.vm.isStatics = false ∧ s.vm.findClass y.cls = some cellB.cls := ⟨cell, g2, g4.1, by rw [g3, ← v4]; exact (hk.1 _ _ v3).2.1⟩
        have hp : PreV s H y.cls a (va_Pc (Value.ref a :: As) (mPre D b Ns Rs Zs S)) As := ⟨mPre_blind hG _ S, hrecv, mPre_at hG hk hbs hsz hR hS _⟩
        have hst' : (F0 m pc ls st).stack = As.reverse ++ .ref a :: st.drop (mNa M') := by
          show st = _
          conv => lhs; rw [hst]
          simp
        have hn : As.length = mNa M' - 1 := by simp only [List.length_cons] at hlen; omega
        rw [if_neg (by decide)] at s6
        rcases s8 with s8 | ⟨host, s8⟩
        · have cw : CallW R s args own y.cls k y (mCode M') (mMax M') (mRet M') (Cond.code y (mCode M') (mMax M') (mRet M') :: Ts) (mRm d' (S1.2.1 - S.2.1) (S1.2.2 - S.2.2)) (S1.2.1 - S.2.1) (S1.2.2 - S.2.2) (mNa M' - 1) :=
            ⟨callB_of _ hts hGI rfl rfl rfl (hts _ s2) (hts _ s8) ⟨s3, s4, s6⟩ hroom, hts _ v1, hts _ v2⟩
          exact mg_after (va_runV (g := F0 m pc ls st) (rest := st.drop (mNa M')) F hM cw hp rfl hn hsize hst' hW hdg hfit) hls hS hsz hns hm kk
        · have cw := va_cnB (R := R) (own := own) (index := k) (host := host) (mNa M' - 1) hts hGI rfl (rm := mRm d' (S1.2.1 - S.2.1) (S1.2.2 - S.2.2)) rfl rfl (hk.2.1 _ s8) (hts _ s2) ⟨s3, s4, s6⟩ hroom
          exact mg_after (va_runVN (g := F0 m pc ls st) (rest := st.drop (mNa M')) (C := y.cls) F hM ⟨cw, hts _ v1, hts _ v2⟩ hp rfl hn hsize hst' hW hdg hfit) hls hS hsz hns hm kk
      | _ => cases m7
  · -- static
    have hp : PreS s H (va_Pc al (mPre D b Ns Rs Zs S)) al := ⟨mPre_blind hG _ S, mPre_at hG hk hbs hsz hR hS _⟩
    rw [if_pos rfl] at s6
    rcases s8 with s8 | ⟨host, s8⟩
    · have cw := callB_of (R := R) (own := own) (index := k) (mNa M') hts hGI rfl (rm := mRm d' (S1.2.1 - S.2.1) (S1.2.2 - S.2.2)) rfl rfl (hts _ s2) (hts _ s8) ⟨s3, s4, s6⟩ hroom
      exact mg_after (va_runS (g := F0 m pc ls st) (rest := st.drop (mNa M')) F hM ⟨cw, hts _ v1⟩ hp rfl hlen hsize hst hW hdg hfit) hls hS hsz hns hm kk
    · have cw := va_cnB (R := R) (own := own) (index := k) (host := host) (mNa M') hts hGI rfl (rm := mRm d' (S1.2.1 - S.2.1) (S1.2.2 - S.2.2)) rfl rfl (hk.2.1 _ s8) (hts _ s2) ⟨s3, s4, s6⟩ hroom
      exact mg_after (va_runSN (g := F0 m pc ls st) (rest := st.drop (mNa M')) F hM ⟨cw, hts _ v1, trivial⟩ hp rfl hlen hsize hst hW hdg hfit) hls hS hsz hns hm kk
  · -- a constructor
    simp only [Bool.or_eq_true] at m6
    have m7 : mIsRef al = true := by
      rcases m6 with z | z
      · cases z
      · exact z
    cases al with
    | nil => cases m7
    | cons a0 As =>
      cases a0 with
      | ref a =>
        have hp : PreS s H (va_Pc (Value.ref a :: As) (mPre D b Ns Rs Zs S)) (.ref a :: As) := ⟨mPre_blind hG _ S, mPre_at hG hk hbs hsz hR hS _⟩
        have hst' : (F0 m pc ls st).stack = As.reverse ++ .ref a :: st.drop (mNa M') := by
          show st = _
          conv => lhs; rw [hst]
          simp
        have hn : As.length = mNa M' - 1 := by simp only [List.length_cons] at hlen; omega
        rw [if_neg (by decide)] at s6
        rw [v3] at hM s1 hGI
        rcases s8 with s8 | ⟨host, s8⟩
        · have cw := callB_of (R := R) (own := own) (index := k) (mNa M' - 1) hts hGI rfl (rm := mRm d' (S1.2.1 - S.2.1) (S1.2.2 - S.2.2)) rfl rfl (hts _ s2) (hts _ s8) ⟨s3, s4, s6⟩ hroom
          exact mg_after (va_runI (g := F0 m pc ls st) (rest := st.drop (mNa M')) F hM ⟨cw, v2, hts _ v1⟩ hp rfl hn hsize hst' hW hdg hfit) hls hS hsz hns hm kk
        · have cw := va_cnB (R := R) (own := own) (index := k) (host := host) (mNa M' - 1) hts hGI rfl (rm := mRm d' (S1.2.1 - S.2.1) (S1.2.2 - S.2.2)) rfl rfl (hk.2.1 _ s8) (hts _ s2) ⟨s3, s4, s6⟩ hroom
          exact mg_after (va_runIN (g := F0 m pc ls st) (rest := st.drop (mNa M')) F hM ⟨cw, v2, hts _ v1⟩ hp rfl hn hsize hst' hW hdg hfit) hls hS hsz hns hm kk
      | _ => cases m7
end MCL
