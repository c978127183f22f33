/-! a string constant by ldc_w -/
theorem mz_ldcwS {p : Program} {l : Launch} {e : Env} {R : Room} {s : State} {m : MethodId} {args : Array Value} {below : List Frame} {meth : Method} {c : Code} {H : Heap} {locs : List Loc} {cells slots : Nat} {Q : State → Prop} {cc : ByteArray} {pc : Nat} {ls : Array Slot} {rest : List Value} (hexec : p.tables.exec = Jvm.exec) (hb : c.code = cc) {own tx : String} {index q : Nat} (hown : s.vm.findClass own = some m.cls) (hZ : vk_R own index tx q s) (hdg : decode cc pc = .ok (.ldc_w index, 3))
    (k : W p l e R s m args below meth c H locs cells slots Q (F0 m (pc + 3) ls (.ref q :: rest))) : W p l e R s m args below meth c H locs cells slots Q (F0 m pc ls rest) := by
  intro T hT X
  obtain ⟨t, a1, b1⟩ := k T hT X
  refine ⟨t, ?_, b1⟩
  have hd2 : decode c.code pc = .ok (.ldc_w index, 3) := by rw [hb]; exact hdg
  obtain ⟨kc, cf, i, a', hk, hcf, hcp, -, hr, hev'⟩ := Cond.stringRef_spec hown hZ.1
  cases hZ.2.symm.trans hev'
  obtain ⟨k', hk', he⟩ := X.warmed.alike.2.2 _ _ hk
  have hr' : k'.resolved[index]? = some (some (.string q)) := by
    rcases X.warmed.entry hk hk' index with h | ⟨h, -⟩
    · rw [h]; exact hr
    · rw [hr] at h; cases h
  have key : ∀ target, Steps p.tables e below (T.setTop { (F0 m pc ls rest) with pc := (F0 m pc ls rest).pc + 3, stack := .ref q :: (F0 m pc ls rest).stack }) target → Steps p.tables e below (T.setTop (F0 m pc ls rest)) target := by
    have hg : (F0 m pc ls rest).method = m := rfl
    have hdg2 : decode c.code (F0 m pc ls rest).pc = .ok (.ldc_w index, 3) := hd2
    generalize F0 m pc ls rest = g at hg hdg2 ⊢
    intro target hrest
    subst hg
    jvm_step X.here [hexec, hdg2, ldc_w.wp_string (e := e) (s := T) (f := g) X.here.top hk' (by rw [he]; exact hcf) hcp hr']
    exact hrest
  exact key t a1
/-! one step of the plain machine, but calls and returns -/
section MSO
variable {p : Program} {l : Launch} {e : Env} {R : Room} {s : State} {m : MethodId} {args : Array Value} {below : List Frame} {meth : Method} {c : Code} {Q : State → Prop} {D : va_G} {b ns0 : Nat} {pc len : Nat} {L : mL} {st : List Value} {S : mS} {Ts Ns : List Cond} {Rs : List (String × Nat × String × Nat)} {Zs : List (String × String × String × Value)} {P : mP} {M : mM} {tn : Nat → String}
set_option maxHeartbeats 4000000 in
theorem mStep_ok (hx : p.tables.exec = Jvm.exec) (hb : c.code = mCode M) (hown : s.vm.findClass (tn (mTag M)) = some m.cls) (hts : ∀ w ∈ Ts, w.before args s = true) (hk : mKn D b Ns Rs Zs s s.heap) (hP : mPok P tn Ts Ns Rs Zs) (hbs : b ≤ s.heap.size) (hini : mIni M = true → meth.name = "<init>") (hci : ∀ q : vw_C, vwCl[mCi M]? = some q → q.1 = tn (mTag M))
    {i : Instr} (hdg : decode (mCode M) pc = .ok (i, len)) (hlen : mLen i = 0 ∨ mLen i = len) {nx : Nat × mL × List Value × mS} (h : mStep P b M i pc L st S = some nx) (hr : nx.2.2.2.2.1 - s.heap.size ≤ R.cells ∧ nx.2.2.2.2.2 - ns0 ≤ R.slots) (kk : mOK p l e R s m args below meth c Q D b ns0 nx.1 nx.2.1 nx.2.2.1 nx.2.2.2) : mOK p l e R s m args below meth c Q D b ns0 pc L st S := by
  obtain ⟨hV, hPf, hPc, hPk, hPz, hPa⟩ := hP
  obtain ⟨hK, hN, hRs, hZs, hAO, hDb, -⟩ := hk
  cases i with
  | iconst n =>
    obtain rfl := mLen_of hlen (n := 0) rfl
    cases h
    exact fun ls H locs hl hsz hR hns hS => lv_iconst hx hb hdg rfl (kk ls H locs hl hsz hR hns hS)
  | bipush n =>
    obtain rfl := mLen_of hlen (n := 1) rfl
    cases h
    exact fun ls H locs hl hsz hR hns hS => lv_bipush hx hb hdg rfl (kk ls H locs hl hsz hR hns hS)
  | sipush n =>
    obtain rfl := mLen_of hlen (n := 2) rfl
    cases h
    exact fun ls H locs hl hsz hR hns hS => lv_sipush hx hb hdg rfl (kk ls H locs hl hsz hR hns hS)
  | lconst n =>
    obtain rfl := mLen_of hlen (n := 0) rfl
    cases h
    exact fun ls H locs hl hsz hR hns hS => lv_lconst hx hb hdg rfl (kk ls H locs hl hsz hR hns hS)
  | ldc k =>
    obtain rfl := mLen_of hlen (n := 1) rfl
    simp only [mStep] at h
    cases hv : P.2.2.2.1 (mTag M) k with
    | none => rw [hv] at h; cases h
    | some v =>
      rw [hv] at h
      rcases hPk _ _ _ hv with ⟨x, rfl, hw⟩ | ⟨x, rfl, hw⟩ | ⟨tx, a, rfl, hw⟩
      · cases h
        exact fun ls H locs hl hsz hR hns hS => lv_ldc hx hb hown (hts _ hw) hdg (kk ls H locs hl hsz hR hns hS)
      · cases h
      · cases h
        exact fun ls H locs hl hsz hR hns hS => va_ldcS hx hb hown (hRs _ hw) hdg (kk ls H locs hl hsz hR hns hS)
  | ldc_w k =>
    obtain rfl := mLen_of hlen (n := 2) rfl
    simp only [mStep] at h
    cases hv : P.2.2.2.1 (mTag M) k with
    | none => rw [hv] at h; cases h
    | some v =>
      rw [hv] at h
      rcases hPk _ _ _ hv with ⟨x, rfl, hw⟩ | ⟨x, rfl, hw⟩ | ⟨tx, a, rfl, hw⟩
      · cases h
        exact fun ls H locs hl hsz hR hns hS => lv_ldcw hx hb hown (hts _ hw) hdg (kk ls H locs hl hsz hR hns hS)
      · cases h
      · cases h
        exact fun ls H locs hl hsz hR hns hS => mz_ldcwS hx hb hown (hRs _ hw) hdg (kk ls H locs hl hsz hR hns hS)
  | ldc2_w k =>
    obtain rfl := mLen_of hlen (n := 2) rfl
    simp only [mStep] at h
    split at h
    · rename_i v hv
      cases h
      rcases hPk _ _ _ hv with ⟨x, hx2, hw⟩ | ⟨x, hx2, hw⟩ | ⟨tx, a, hx2, hw⟩
      · cases hx2
      · cases hx2
        exact fun ls H locs hl hsz hR hns hS => lv_ldc2 hx hb hown (hts _ hw) hdg (kk ls H locs hl hsz hR hns hS)
      · cases hx2
    · cases h
  | getstatic k =>
    obtain rfl := mLen_of hlen (n := 2) rfl
    simp only [mStep] at h
    cases hv : P.2.2.2.2.1 (mTag M) k with
    | none => rw [hv] at h; cases h
    | some v =>
      rw [hv] at h; cases h
      obtain ⟨C, n, d, hz, hw | ⟨host, hw⟩⟩ := hPz _ _ _ hv
      · exact fun ls H locs hl hsz hR hns hS => va_gets hx hb (hZs _ hz) hS hown (hts _ hw) (fun _ h9 => h9) hdg (kk ls H locs hl hsz hR hns hS)
      · exact fun ls H locs hl hsz hR hns hS => va_getsN hx hb (hZs _ hz) hS hown (va_Nw.use rfl (hN _ hw)) (fun _ h9 => h9) hdg (kk ls H locs hl hsz hR hns hS)
  | iload k =>
    obtain rfl := mLen_of hlen (n := 1) rfl
    exact mg_load hx hb h kk (fun ls H locs cells slots x _ g w => lv_iload hx hb hdg g w) (fun ls H locs cells slots x q => by cases q) (fun ls H locs cells slots x q => by cases q)
  | iload_n k =>
    obtain rfl := mLen_of hlen (n := 0) rfl
    exact mg_load hx hb h kk (fun ls H locs cells slots x _ g w => lv_iload_n hx hb hdg rfl g w) (fun ls H locs cells slots x q => by cases q) (fun ls H locs cells slots x q => by cases q)
  | lload k =>
    obtain rfl := mLen_of hlen (n := 1) rfl
    exact mg_load hx hb h kk (fun ls H locs cells slots x q => by cases q) (fun ls H locs cells slots x _ g w => lv_lload hx hb hdg g w) (fun ls H locs cells slots x q => by cases q)
  | lload_n k =>
    obtain rfl := mLen_of hlen (n := 0) rfl
    exact mg_load hx hb h kk (fun ls H locs cells slots x q => by cases q) (fun ls H locs cells slots x _ g w => lv_lload_n hx hb hdg rfl g w) (fun ls H locs cells slots x q => by cases q)
  | aload k =>
    obtain rfl := mLen_of hlen (n := 1) rfl
    exact mg_load hx hb h kk (fun ls H locs cells slots x q => by cases q) (fun ls H locs cells slots x q => by cases q) (fun ls H locs cells slots x _ g w => lv_aload hx hb hdg g w)
  | aload_n k =>
    obtain rfl := mLen_of hlen (n := 0) rfl
    exact mg_load hx hb h kk (fun ls H locs cells slots x q => by cases q) (fun ls H locs cells slots x q => by cases q) (fun ls H locs cells slots x _ g w => lv_aload_n hx hb hdg rfl g w)
  | istore k =>
    obtain rfl := mLen_of hlen (n := 1) rfl
    exact mg_store hx hb h kk (fun ls H locs cells slots x r _ g1 g2 w => lv_istore hx hb hdg g1 g2 rfl w) (fun ls H locs cells slots x r q => by cases q) (fun ls H locs cells slots x r q => by cases q)
  | istore_n k =>
    obtain rfl := mLen_of hlen (n := 0) rfl
    exact mg_store hx hb h kk (fun ls H locs cells slots x r _ g1 g2 w => lv_istore_n hx hb hdg rfl g1 g2 rfl w) (fun ls H locs cells slots x r q => by cases q) (fun ls H locs cells slots x r q => by cases q)
  | lstore k =>
    obtain rfl := mLen_of hlen (n := 1) rfl
    exact mg_store hx hb h kk (fun ls H locs cells slots x r q => by cases q) (fun ls H locs cells slots x r _ g1 g2 w => lv_lstore hx hb hdg g1 g2 rfl w) (fun ls H locs cells slots x r q => by cases q)
  | lstore_n k =>
    obtain rfl := mLen_of hlen (n := 0) rfl
    exact mg_store hx hb h kk (fun ls H locs cells slots x r q => by cases q) (fun ls H locs cells slots x r _ g1 g2 w => lv_lstore_n hx hb hdg rfl g1 g2 rfl w) (fun ls H locs cells slots x r q => by cases q)
  | astore k =>
    obtain rfl := mLen_of hlen (n := 1) rfl
    exact mg_store hx hb h kk (fun ls H locs cells slots x r q => by cases q) (fun ls H locs cells slots x r q => by cases q) (fun ls H locs cells slots x r _ g1 g2 w => lv_astore hx hb hdg g1 g2 rfl w)
  | astore_n k =>
    obtain rfl := mLen_of hlen (n := 0) rfl
    exact mg_store hx hb h kk (fun ls H locs cells slots x r q => by cases q) (fun ls H locs cells slots x r q => by cases q) (fun ls H locs cells slots x r _ g1 g2 w => lv_astore_n hx hb hdg rfl g1 g2 rfl w)
  | iinc k n =>
    obtain rfl := mLen_of hlen (n := 2) rfl
    simp only [mStep] at h
    split at h
    · rename_i x hv
      cases hL : mSt L k (.int (x + Int32.ofInt n)) with
      | none => rw [hL] at h; cases h
      | some L' =>
        rw [hL] at h; cases h
        obtain ⟨g1, g2, g3⟩ := mSt_mem1 rfl hL
        intro ls H locs hl hsz hR hns hS
        obtain ⟨j, hj⟩ := List.getElem?_of_mem (mPr_mem.mpr hv)
        exact lv_iinc hx hb hdg hl.has hj rfl g1 rfl (fun ls' h' => kk ls' H locs (mLR.of h' g2 g3) hsz hR hns hS)
    · cases h
  | ineg =>
    obtain rfl := mLen_of hlen (n := 0) rfl
    simp only [mStep] at h
    split at h
    · cases h
      exact fun ls H locs hl hsz hR hns hS => lv_ineg hx hb hdg (kk ls H locs hl hsz hR hns hS)
    · cases h
  | i2l =>
    obtain rfl := mLen_of hlen (n := 0) rfl
    simp only [mStep] at h
    split at h
    · cases h
      exact fun ls H locs hl hsz hR hns hS => lv_i2l hx hb hdg rfl (kk ls H locs hl hsz hR hns hS)
    · cases h
  | l2i =>
    obtain rfl := mLen_of hlen (n := 0) rfl
    simp only [mStep] at h
    split at h
    · cases h
      exact fun ls H locs hl hsz hR hns hS => lv_l2i hx hb hdg rfl (kk ls H locs hl hsz hR hns hS)
    · cases h
  | i2b =>
    obtain rfl := mLen_of hlen (n := 0) rfl
    simp only [mStep] at h
    split at h
    · cases h
      exact fun ls H locs hl hsz hR hns hS => lv_i2b hx hb hdg rfl (kk ls H locs hl hsz hR hns hS)
    · cases h
  | i2c =>
    obtain rfl := mLen_of hlen (n := 0) rfl
    simp only [mStep] at h
    split at h
    · cases h
      exact fun ls H locs hl hsz hR hns hS => lv_i2c hx hb hdg rfl (kk ls H locs hl hsz hR hns hS)
    · cases h
  | lcmp =>
    obtain rfl := mLen_of hlen (n := 0) rfl
    simp only [mStep] at h
    split at h
    · cases h
      exact fun ls H locs hl hsz hR hns hS => W.lcmp hx hb hdg (kk ls H locs hl hsz hR hns hS)
    · cases h
  | dup =>
    obtain rfl := mLen_of hlen (n := 0) rfl
    simp only [mStep] at h
    split at h
    · rename_i v r
      by_cases q : v.category = 1
      · rw [if_pos q] at h; cases h
        exact fun ls H locs hl hsz hR hns hS => lv_dup hx hb hdg q (kk ls H locs hl hsz hR hns hS)
      · rw [if_neg q] at h; cases h
    · cases h
  | pop =>
    obtain rfl := mLen_of hlen (n := 0) rfl
    simp only [mStep] at h
    split at h
    · rename_i v r
      by_cases q : v.category = 1
      · rw [if_pos q] at h; cases h
        exact fun ls H locs hl hsz hR hns hS => lv_pop hx hb hdg q (kk ls H locs hl hsz hR hns hS)
      · rw [if_neg q] at h; cases h
    · cases h
  | dup2 =>
    obtain rfl := mLen_of hlen (n := 0) rfl
    simp only [mStep] at h
    split at h
    · rename_i v w r
      by_cases q : v.category = 2
      · rw [if_pos q] at h; cases h
        exact fun ls H locs hl hsz hR hns hS => lv_dup2_2 hx hb hdg q (kk ls H locs hl hsz hR hns hS)
      · rw [if_neg q] at h
        have q1 : v.category = 1 := (lv_cat v).resolve_right q
        by_cases q2 : w.category = 1
        · rw [if_pos q2] at h; cases h
          exact fun ls H locs hl hsz hR hns hS => lv_dup2_11 hx hb hdg q1 q2 (kk ls H locs hl hsz hR hns hS)
        · rw [if_neg q2] at h; cases h
    · cases h
  | dup_x1 =>
    obtain rfl := mLen_of hlen (n := 0) rfl
    simp only [mStep] at h
    split at h
    · rename_i v w r
      by_cases q : v.category = 1 ∧ w.category = 1
      · rw [if_pos q] at h; cases h
        exact fun ls H locs hl hsz hR hns hS => lv_dup_x1 hx hb hdg q.1 q.2 (kk ls H locs hl hsz hR hns hS)
      · rw [if_neg q] at h; cases h
    · cases h
  | if_icmp cd off =>
    obtain rfl := mLen_of hlen (n := 2) rfl
    simp only [mStep] at h
    split at h
    · exact mg_icmp hx hb hdg h kk
    · cases h
  | ifCond cd off =>
    obtain rfl := mLen_of hlen (n := 2) rfl
    simp only [mStep] at h
    split at h
    · exact mg_if hx hb hdg h kk
    · cases h
  | goto off =>
    obtain rfl := mLen_of hlen (n := 2) rfl
    simp only [mStep] at h
    cases ht : mTg pc off with
    | none => rw [ht] at h; cases h
    | some t =>
      rw [ht] at h; cases h
      exact fun ls H locs hl hsz hR hns hS => lv_goto hx hb hdg (mTg_some ht) (kk ls H locs hl hsz hR hns hS)
  | tableswitch d lo hi offs =>
    simp only [mStep] at h
    split at h
    · rename_i x r
      by_cases q : x.toInt < lo ∨ hi < x.toInt
      · rw [if_pos q] at h
        cases ht : mTg pc d with
        | none => rw [ht] at h; cases h
        | some t =>
          rw [ht] at h; cases h
          exact fun ls H locs hl hsz hR hns hS => lv_tableOut hx hb hdg q (mTg_some ht) (kk ls H locs hl hsz hR hns hS)
      · rw [if_neg q] at h
        cases ho : offs[(x.toInt - lo).toNat]? with
        | none => rw [ho] at h; cases h
        | some off =>
          rw [ho] at h
          dsimp only at h
          cases ht : mTg pc off with
          | none => rw [ht] at h; cases h
          | some t =>
            rw [ht] at h; cases h
            exact fun ls H locs hl hsz hR hns hS => lv_tableIn hx hb hdg (fun z => q (Or.inl z)) (fun z => q (Or.inr z)) ho (mTg_some ht) (kk ls H locs hl hsz hR hns hS)
    · cases h
  | arraylength =>
    obtain rfl := mLen_of hlen (n := 0) rfl
    simp only [mStep] at h
    split at h
    · rename_i a r
      split at h
      · rename_i ty n f ha
        cases h
        exact mg_alen hx hb ha hdg kk
      · cases h
    · cases h
  | getfield k =>
    obtain rfl := mLen_of hlen (n := 2) rfl
    simp only [mStep] at h
    split at h
    · rename_i ci f a r hf
      split at h
      · rename_i c2 fs ha
        by_cases q : c2 = ci
        · rw [if_pos q] at h
          subst q
          cases hv : fs[f]? with
          | none => rw [hv] at h; cases h
          | some v =>
            rw [hv] at h; cases h
            exact mg_get hx hb hown hts hN hK hV (hPf _ _ _ _ hf) ha hv hdg kk
        · rw [if_neg q] at h; cases h
      · cases h
    · cases h
  | putfield k =>
    obtain rfl := mLen_of hlen (n := 2) rfl
    simp only [mStep] at h
    split at h
    · rename_i ci f v a r hf
      split at h
      · rename_i c2 fs ty fin ha hft
        by_cases q : c2 = ci ∧ b ≤ a ∧ f < fs.length ∧ narrow ty v = v ∧ fits ty v = true ∧ (fin = true → mIni M = true ∧ mCi M = ci)
        · rw [if_pos q] at h
          obtain ⟨q1, q2, q3, q4, q5, q6⟩ := q
          subst q1
          cases h
          exact mg_put hx hb hDb hown hts hN hK hV (hPf _ _ _ _ hf) ha q2 q3 hft q4 q5 (fun z => ⟨hini (q6 z).1, fun q hq => hci q (by rw [(q6 z).2]; exact hq)⟩) hdg kk
        · rw [if_neg q] at h; cases h
      · cases h
    · cases h
  | new k =>
    obtain rfl := mLen_of hlen (n := 2) rfl
    simp only [mStep] at h
    cases hc : P.2.1 (mTag M) k with
    | none => rw [hc] at h; cases h
    | some ci =>
      rw [hc] at h
      dsimp only at h
      cases hf : mBorn ci with
      | none => rw [hf] at h; cases h
      | some fs =>
        rw [hf] at h; cases h
        obtain ⟨q, g1, g2, g3, g4⟩ := hPc _ _ _ hc
        exact mg_new hx hb hown hts hK hV g1 g2 g3 g4 hf hr.1 hr.2 hdg kk
  | multianewarray k dm =>
    obtain rfl := mLen_of hlen (n := 3) rfl
    simp only [mStep] at h
    split at h
    · rename_i kk2 n r
      by_cases q : mTag M = 3 ∧ k = 45 ∧ dm = 2 ∧ ¬ n < 0 ∧ ¬ kk2 < 0 ∧ n.toNatClampNeg ≤ 1000 ∧ kk2.toNatClampNeg ≤ 60000
      · rw [if_pos q] at h; cases h
        obtain ⟨q1, rfl, rfl, q4, q5, q6, q7⟩ := q
        rw [q1] at hown
        exact mg_multi hx hb hown (hts _ hPa.2.2.2.2) hAO (hts _ hPa.2.2.1) q4 q5 q6 q7 hr.1 hr.2 hdg kk
      · rw [if_neg q] at h; cases h
    · cases h
  | newarray t =>
    obtain rfl := mLen_of hlen (n := 1) rfl
    simp only [mStep] at h
    split at h
    · rename_i n r ty z hz
      by_cases q : n < 0 ∨ 60000 < n.toNatClampNeg
      · rw [if_pos q] at h; cases h
      · rw [if_neg q] at h; cases h
        refine mg_newa hx hb hbs hz (hts _ ?_) q hr.1 hr.2 hdg kk
        cases t <;> simp only [mZero] at hz <;> cases hz
        · exact hPa.2.1
        · exact hPa.1
        · exact hPa.2.2.1
        · exact hPa.2.2.2.1
    · cases h
  | iaload => obtain rfl := mLen_of hlen (n := 0) rfl; exact mg_ld hx hb hdg h kk
  | baload => obtain rfl := mLen_of hlen (n := 0) rfl; exact mg_ld hx hb hdg h kk
  | laload => obtain rfl := mLen_of hlen (n := 0) rfl; exact mg_ld hx hb hdg h kk
  | aaload => obtain rfl := mLen_of hlen (n := 0) rfl; exact mg_ld hx hb hdg h kk
  | iastore => obtain rfl := mLen_of hlen (n := 0) rfl; exact mg_st hx hb hDb hdg h kk
  | bastore => obtain rfl := mLen_of hlen (n := 0) rfl; exact mg_st hx hb hDb hdg h kk
  | lastore => obtain rfl := mLen_of hlen (n := 0) rfl; exact mg_st hx hb hDb hdg h kk
  | iadd => obtain rfl := mLen_of hlen (n := 0) rfl; exact mg_ari hx hb hdg h kk
  | isub => obtain rfl := mLen_of hlen (n := 0) rfl; exact mg_ari hx hb hdg h kk
  | imul => obtain rfl := mLen_of hlen (n := 0) rfl; exact mg_ari hx hb hdg h kk
  | iand => obtain rfl := mLen_of hlen (n := 0) rfl; exact mg_ari hx hb hdg h kk
  | ior => obtain rfl := mLen_of hlen (n := 0) rfl; exact mg_ari hx hb hdg h kk
  | ixor => obtain rfl := mLen_of hlen (n := 0) rfl; exact mg_ari hx hb hdg h kk
  | ishl => obtain rfl := mLen_of hlen (n := 0) rfl; exact mg_ari hx hb hdg h kk
  | ishr => obtain rfl := mLen_of hlen (n := 0) rfl; exact mg_ari hx hb hdg h kk
  | iushr => obtain rfl := mLen_of hlen (n := 0) rfl; exact mg_ari hx hb hdg h kk
  | idiv => obtain rfl := mLen_of hlen (n := 0) rfl; exact mg_ari hx hb hdg h kk
  | irem => obtain rfl := mLen_of hlen (n := 0) rfl; exact mg_ari hx hb hdg h kk
  | ladd => obtain rfl := mLen_of hlen (n := 0) rfl; exact mg_ari hx hb hdg h kk
  | lsub => obtain rfl := mLen_of hlen (n := 0) rfl; exact mg_ari hx hb hdg h kk
  | lmul => obtain rfl := mLen_of hlen (n := 0) rfl; exact mg_ari hx hb hdg h kk
  | land => obtain rfl := mLen_of hlen (n := 0) rfl; exact mg_ari hx hb hdg h kk
  | lor => obtain rfl := mLen_of hlen (n := 0) rfl; exact mg_ari hx hb hdg h kk
  | lxor => obtain rfl := mLen_of hlen (n := 0) rfl; exact mg_ari hx hb hdg h kk
  | lshl => obtain rfl := mLen_of hlen (n := 0) rfl; exact mg_ari hx hb hdg h kk
  | lshr => obtain rfl := mLen_of hlen (n := 0) rfl; exact mg_ari hx hb hdg h kk
  | lushr => obtain rfl := mLen_of hlen (n := 0) rfl; exact mg_ari hx hb hdg h kk
  | _ => cases h
end MSO
