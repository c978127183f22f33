/-! the primitives, and: every run of the plain machine is a run of the real one -/
section MPR
variable {p : Program} {l : Launch} {e : Env} {R : Room} {s : State} {m : MethodId} {args : Array Value} {below : List Frame} {meth : Method} {c : Code} {Q : State → Prop} {D : va_G} {b ns0 : Nat} {pc : Nat} {L : mL} {S : mS} {Ts Ns : List Cond} {Rs : List (String × Nat × String × Nat)} {Zs : List (String × String × String × Value)} {cc : ByteArray} {st rest : List Value}
set_option maxHeartbeats 4000000 in
/-- arraycopy of bytes -/
theorem mg_copy {own : String} {k : Nat} (hx : p.tables.exec = Jvm.exec) (hb : c.code = cc) (hDb : D.2 1000 0 ≤ b) (hml : c.maxLocals = L.length) (hown : s.vm.findClass own = some m.cls) (hlink : (Cond.methodLink own k arraycopyName).before args s = true) (hnat : (Cond.native arraycopyName).before args s = true) (hstat : (Cond.static arraycopyName).before args s = true) (hini : (Cond.initialized "java/lang/System").before args s = true)
    {a a0 n0 n1 : Nat} {f g : Nat → Int32} {sp dp n : Int32} (ha0 : S.1 a0 = some (.inl (.byte, n0, .inl f))) (ha : S.1 a = some (.inl (.byte, n1, .inl g))) (hba : b ≤ a) (h1 : ¬ sp < 0) (h2 : ¬ dp < 0) (h3 : ¬ n < 0) (h4 : sp.toNatClampNeg + n.toNatClampNeg ≤ n0) (h5 : dp.toNatClampNeg + n.toNatClampNeg ≤ n1) (hfit : ∀ i, i < n.toNatClampNeg → fits .byte (.int (f (sp.toNatClampNeg + i))) = true)
    (hframes : 1 ≤ R.frames) (hlocals : (rest.map fun v => v.category).sum + (nativeFrameWords "java/lang/System" "arraycopy" 5 + 11) ≤ R.locals) (hdg : decode cc pc = .ok (.invokestatic k, 3))
    (kk : mOK p l e R s m args below meth c Q D b ns0 (pc + 3) L rest (mUp S.1 a (.inl (.byte, n1, .inl (va_cpy f g sp.toNatClampNeg dp.toNatClampNeg n.toNatClampNeg))), S.2)) : mOK p l e R s m args below meth c Q D b ns0 pc L (.int n :: .int dp :: .ref a :: .int sp :: .ref a0 :: rest) S := by
  have nn : ∀ z : Int32, ¬ z < 0 → z.toInt = (z.toNatClampNeg : Int) := by
    intro z hz
    have hz0 : (0 : Int) ≤ z.toInt := by
      have := Int32.not_lt.mp hz
      simpa using Int32.le_iff_toInt_le.mp this
    show z.toInt = ((z.toInt.toNat : Nat) : Int)
    omega
  intro ls H locs hls hsz hR hns hS T hT X
  obtain ⟨scr, hc0, ⟨hs6, k0, hk0, cm0, hkk0⟩, hs3, hs4, hs5⟩ := (hR a0 _ ha0).rd
  obtain ⟨c1, A1, hc1⟩ := (hR a _ ha).str hDb hba
  dsimp only at A1 hc1
  obtain ⟨-, k1, hk1, cm1, hkk1⟩ := A1.1 n1 (fun j => .int (g j))
  obtain ⟨vm', X', step⟩ := X.arraycopy hx hown hlink hnat hstat hini (src := a0) (dst := a) (cs := scr) (cd := vp_cell c1 (n1, .inl g)) (srcPos := sp) (destPos := dp) (n := n) (by rw [hT]; exact hc0) (by rw [hT]; exact hc1)
    hs6 (fun _ h => by cases h) hs3 (fun h => by cases h) hk0 hk1 hkk0 hkk1 (by simp [refKind]) h1 h2 h3
    (by rw [nn sp h1, nn n h3]; omega)
    (by rw [nn dp h2, nn n h3]; show ¬ _ > ((arrV c1 n1 (fun j => .int (g j))).slots.size : Int); rw [arrV_size]; omega)
    (fun vm₁ _ i hi => by
      have e9 : scr.slots.getD (sp.toNatClampNeg + i) .null = .int (f (sp.toNatClampNeg + i)) := by
        rw [Array.getD_eq_getD_getElem?, hs5 _ (by omega)]
        rfl
      refine ⟨?_, ?_⟩
      · rw [e9]
        exact hfit i hi
      · rw [e9]
        exact trivial)
    (g := F0 m pc ls (.int n :: .int dp :: .ref a :: .int sp :: .ref a0 :: rest)) rfl (by rw [hml]; exact hls.1) (rest := rest) rfl (by rw [hb]; exact hdg) hframes (by show 2 * 0 + _ + _ ≤ _; omega)
  have e1 : copied scr (vp_cell c1 (n1, .inl g)) sp dp n = vp_cell c1 (n1, .inl (va_cpy f g sp.toNatClampNeg dp.toNatClampNeg n.toNatClampNeg)) := va_copiedX (fun z => .int z) scr c1 f g hs5 h4
  rw [e1] at X' step
  have hl : a < H.size := (Array.getElem?_eq_some_iff.mp hc1).1
  have hheap : ((T.setVm vm').setCell a (vp_cell c1 (n1, .inl (va_cpy f g sp.toNatClampNeg dp.toNatClampNeg n.toNatClampNeg)))).heap = H.setIfInBounds a (vp_cell c1 (n1, .inl (va_cpy f g sp.toNatClampNeg dp.toNatClampNeg n.toNatClampNeg))) := by rw [← hT]; rfl
  have oq : ∀ q : Nat, q ≠ a → (H.setIfInBounds a (vp_cell c1 (n1, .inl (va_cpy f g sp.toNatClampNeg dp.toNatClampNeg n.toNatClampNeg))))[q]? = H[q]? := fun q hq => by simp [Array.getElem?_setIfInBounds, Ne.symm hq]
  obtain ⟨t, a1, b1⟩ := kk ls _ _ hls (by simp; exact hsz) (hR.put oq (Or.inl ⟨c1, A1, show (H.setIfInBounds a _)[a]? = some _ by simp [Array.getElem?_setIfInBounds, hl]⟩)) hns ⟨by simp; exact hS.1, fun q g1 g2 => by
      rw [oq q (fun e => g2 (by rw [e]; exact hba))]
      exact hS.2.1 q g1 g2, fun q hq => by
      rcases List.mem_append.mp hq with h | h
      · exact hS.2.2 q h
      · obtain ⟨z, -, hz⟩ := List.mem_map.mp h
        rw [← hz]
        exact hba⟩ _ hheap X'
  exact ⟨t, step t a1, b1⟩
end MPR
section MAL
variable {l : Launch} {D : va_G} {b : Nat} {Ts Ns : List Cond} {Rs : List (String × Nat × String × Nat)} {Zs : List (String × String × String × Value)} {P : mP} {tn : Nat → String} {yn : Nat → MethodName}
set_option maxHeartbeats 4000000 in
theorem mExec_ok (hP : mPok P tn Ts Ns Rs Zs) (hC : mCalls P tn yn Ts Ns) (hG : mGood Ts Ns) : ∀ n : Nat, mRuns l D b Ts Ns Rs Zs P tn n := by
  intro n
  induction n with
  | zero => intro d M pc L st S r S' h; cases h
  | succ n ih =>
    intro d M pc L st S r S' h p e R s m args below meth c Q ns0 hx hb hml hown hts hk hbs hini hci hRf hRl hRc hRs hret
    obtain ⟨i, len, hd, hl, hw⟩ := mExec_inv h
    rcases hw with ⟨hr, rfl, rfl⟩ | ⟨nx, hs, h2⟩ | ⟨kd, k, q, d', st1, S1, rfl, rfl, hc, hL, hp, hwd, h2⟩ | ⟨kd, k, q, d', M', r1, S1, rfl, rfl, hc, hm, hmay, h1, h2⟩
    · exact hret pc len i L hd hl hr
    · have mo := mExec_mono P b _ _ _ _ _ _ _ _ _ h2
      exact mStep_ok hx hb hown hts hk hP hbs hini hci hd hl hs ⟨by omega, by omega⟩ (ih d M _ _ _ _ r S' h2 p e R s m args below meth c Q ns0 hx hb hml hown hts hk hbs hini hci hRf hRl hRc hRs hret)
    · have kk := ih (d' + 1) M _ _ _ _ r S' h2 p e R s m args below meth c Q ns0 hx hb hml hown hts hk hbs hini hci hRf hRl hRc hRs hret
      have hwd' : (st1.map fun v => v.category).sum ≤ 8 := by simpa [mWide] using hwd
      rcases hC.2.1 _ _ _ _ hc with ⟨rfl, rfl, w1, w2, w3⟩ | ⟨rfl, rfl, w1, w2, w3, w4⟩ | ⟨rfl, w0, wq⟩
      · obtain rfl := mLen_of hl (n := 2) rfl
        replace hp : mPrim0 st S = some (st1, S1) := hp
        unfold mPrim0 at hp
        split at hp
        · rename_i a r0
          cases hp
          intro ls H locs hls hsz hR hns hS
          refine W.objInit hx hb hown (hts _ w1) (hts _ w2) (hts _ w3) rfl (by rw [hml]; exact hls.1.trans hL) rfl hd (by omega) ?_ (kk ls H locs hls hsz hR hns hS)
          have hz := lv_room (m := m) (pc := pc) (ls := ls) (rest := .ref a :: st1) hwd'
          exact Nat.le_trans (Nat.add_le_add_right hz 12) (by omega)
        · cases hp
      · obtain rfl := mLen_of hl (n := 2) rfl
        replace hp : mPrim1 b st S = some (st1, S1) := hp
        unfold mPrim1 at hp
        split at hp
        · split at hp
          · rename_i n0 f n1 g ha0 ha
            split at hp
            · rename_i hcond
              cases hp
              obtain ⟨q1, q2, q3, q4, q5, q6, q7⟩ := hcond
              have h7 : nativeFrameWords "java/lang/System" "arraycopy" 5 = 7 := by decide +kernel
              exact mg_copy hx hb hk.2.2.2.2.2.1 (hml.trans hL.symm) hown (hts _ w1) (hts _ w2) (hts _ w3) (hts _ w4) ha0 ha q1 q2 q3 q4 q5 q6 q7 (by omega) (by rw [h7]; omega) hd kk
            · cases hp
          · cases hp
        · cases hp
      · obtain rfl := mLen_of hl (n := 2) rfl
        have mo := mExec_mono P b _ _ _ _ _ _ _ _ _ h2
        have mp := mPrim_mono hp
        rw [mp] at mo
        rcases wq with ⟨rfl, w1, w2, w3⟩ | ⟨rfl, w1, w2, w3⟩ | ⟨rfl, w1, w2, w3⟩
        · replace hp : mPrim2 st S = some (st1, S1) := hp
          unfold mPrim2 at hp
          split at hp
          · rename_i y x r
            cases hp
            intro ls H locs hls hsz hR hns hS
            simp only [List.map_cons, List.sum_cons] at hwd'
            exact va_mmin hx hb (by rw [hml, ← hL]; exact hls.1.symm) hown (hts _ w1) (hts _ w2) (hts _ w0) (hts _ w3) (by omega) (by omega) (by omega) (by omega) hd (kk ls H locs hls hsz hR hns hS)
          · cases hp
        · replace hp : mPrim3 st S = some (st1, S1) := hp
          unfold mPrim3 at hp
          split at hp
          · rename_i y x r
            cases hp
            intro ls H locs hls hsz hR hns hS
            simp only [List.map_cons, List.sum_cons] at hwd'
            exact va_mmax hx hb (by rw [hml, ← hL]; exact hls.1.symm) hown (hts _ w1) (hts _ w2) (hts _ w0) (hts _ w3) (by omega) (by omega) (by omega) (by omega) hd (kk ls H locs hls hsz hR hns hS)
          · cases hp
        · replace hp : mPrim4 st S = some (st1, S1) := hp
          unfold mPrim4 at hp
          split at hp
          · rename_i x r
            cases hp
            intro ls H locs hls hsz hR hns hS
            simp only [List.map_cons, List.sum_cons] at hwd'
            exact va_mabs hx hb (by rw [hml, ← hL]; exact hls.1.symm) hown (hts _ w1) (hts _ w2) (hts _ w0) (hts _ w3) (by omega) (by omega) (by omega) (by omega) hd (kk ls H locs hls hsz hR hns hS)
          · cases hp
    · have mo1 := mExec_mono P b _ _ _ _ _ _ _ _ _ h1
      have mo2 := mExec_mono P b _ _ _ _ _ _ _ _ _ h2
      have kk := ih (d' + 1) M _ _ _ _ r S' h2 p e R s m args below meth c Q ns0 hx hb hml hown hts hk hbs hini hci hRf hRl hRc hRs hret
      have hs := hC.1 _ _ _ _ _ hc hm
      obtain ⟨t1, t2, t3⟩ := hC.2.2 _ _ hm
      have hmay2 := hmay
      unfold mMay at hmay2
      simp only [Bool.and_eq_true, decide_eq_true_eq] at hmay2
      obtain ⟨⟨⟨⟨-, -⟩, m4⟩, -⟩, -⟩ := hmay2
      have hM := mMet_of (y := yn q) hG ih h1 m4 hs.2.1.2.2 t1 t2 t3
      have hl3 : len = 3 := by
        rcases hs.2.2.2.2.2 with ⟨rfl, -⟩ | ⟨rfl, -⟩ | ⟨rfl, -⟩
        · exact mLen_of hl (n := 2) rfl
        · exact mLen_of hl (n := 2) rfl
        · exact mLen_of hl (n := 2) rfl
      subst hl3
      exact mg_call hx hb hml hown hts hk hbs hG hs hmay hRf hRl (by omega) (by omega) mo1 hM hd kk
/-- a method's contract, out of a run of the plain machine -/
theorem mMet (hP : mPok P tn Ts Ns Rs Zs) (hC : mCalls P tn yn Ts Ns) (hG : mGood Ts Ns) {n d q : Nat} {M : mM} {as : List Value} {S S' : mS} {r : Option Value} (hq : P.2.2.2.2.2 q = some M) (hpl : plainFor (yn q) = true) (h : mExec P b n d M 0 (mEn as (mMax M)) [] S = some (r, S')) (ha : (mArg as).length ≤ mMax M) :
    Met l (yn q) (Cond.code (yn q) (mCode M) (mMax M) (mRet M) :: Ts) (mRm d (S'.2.1 - S.2.1) (S'.2.2 - S.2.2)) (va_Pc as (mPre D b Ns Rs Zs S)) (mQc D b r S') (S'.2.1 - S.2.1) (S'.2.2 - S.2.2) (fun q => b ≤ q) :=
  mMet_of hG (mExec_ok hP hC hG n) h ha hpl (hC.2.2 _ _ hq).1 (hC.2.2 _ _ hq).2.1 (hC.2.2 _ _ hq).2.2
end MAL
