/-! THE CLAIM OUT OF ONE WALK OF THE LAW'S BODY. Your part is whole_start (and what it stands on); all else here is the same for every law, but numbers. -/
def R_law : String := "FlowDeskLaw"
def lw_P (b : Addr) (xs : List Int32) (args : Array Value) (s : State) : Prop := args = #[.ref b] ∧ s.IntsAt b xs ∧ xs.length ≤ 2048 ∧ (Jvm.Cond.and given_1 narrow_1).before args s = true
def lw_Q (_ : Array Value) (s : State) (o : Outcome) (t : State) : Prop := o = .returned (some (.int 1)) ∧ Framed s o t [] 601024 7293034
def lw_Z (below : List Frame) (a : Array Value) (s : State) : State → Prop := fun t => ∃ o, t.status = .running ∧ Ended t below o ∧ lw_Q a s o t
/-- the law's own end, with 1 on the stack, nothing written that was there before, its room as the claim has it -/
theorem lw_ret {p : Program} {l : Launch} {e : Env} {s : State} {m : MethodId} {below : List Frame} {meth : Method} {c : Code} {b : Nat} (hx : p.tables.exec = Jvm.exec) (hb : c.code = code) (hr : meth.sig.returnType = ret) (hlocks : meth.locks = false) {pc : Nat} {H : Heap} {ls : Array Slot} (hdg : decode code pc = .ok (.ireturn, 1)) : W p l e room_1 s m #[Value.ref b] below meth c H [] 601024 7293034 (lw_Z below #[Value.ref b] s) (F0 m pc ls [.int 1]) := by
  intro T hT X
  obtain ⟨fs, hret, hrun, hended, hW, hframe⟩ := X.leave (v := some (.int 1)) (hlocks := hlocks) (fun h => by rw [hr] at h; cases h)
  have hmeth' : T.vm.method? m = some meth := X.method'
  refine ⟨T.setFrames fs, ?_, .returned (some (.int 1)), hrun, hended, rfl, ⟨_, rfl⟩, hW, hframe⟩
  jvm_step X.here [X.here.top, hx, hb, hdg, hmeth', hr, ret, narrow_b1]
  (try refine ⟨rfl, ?_⟩); (try refine ⟨rfl, ?_⟩)
  first | (intro acts; rw [hret _ acts rfl rfl rfl]) | rw [hret _ _ rfl rfl rfl]
  exact Steps.refl _
/-- what holds at the law's entry: the machine, the code, the tables' words (any of lw_tbl by 'hts w (by decide +kernel)'), the script of L ints xs at the cell b, what the Statement gives of the start (any of its parts by flat_of_before) -/
def lw_At (p : Program) (s : State) (m : MethodId) (meth : Method) (c : Code) (b L : Nat) (xs : Nat → Int32) : Prop :=
  p.tables.exec = Jvm.exec ∧ c.code = code ∧ meth.sig.returnType = ret ∧ c.maxLocals = 7 ∧ s.vm.findClass R_law = some m.cls ∧ (∀ w ∈ lw_tbl, w.before #[Value.ref b] s = true) ∧ va_X b L xs s s.heap ∧ b < s.heap.size ∧ meth.locks = false ∧ (Jvm.Cond.and given_1 narrow_1).before #[Value.ref b] s = true
theorem w_start {p : Program} {s : State} {m : MethodId} {meth : Method} {c : Code} {b L : Nat} {xs : Nat → Int32} (C0 : lw_At p s m meth c b L xs) : ∃ (D : va_G) (sa : Nat → Nat), oC p s m c b L xs D sa ∧ mRel D s s.heap (kH D s) ∧ jC sa s.heap.size (kH D s) := by
  obtain ⟨hx, hb, hr, hml, hown, hts, hX, hbl, hlocks, hgv⟩ := C0
  have hn : ∀ w ∈ nW, w.before #[Value.ref b] s = true := flat_of_before _ hgv
  have hA : ∀ a : Nat, a < s.heap.size → ¬ s.heap.size ≤ a := fun a h => Nat.not_le.mpr h
  have htT : ∀ w ∈ tTs, w.before #[Value.ref b] s = true := fun w hw => hts w (List.mem_filter.mp hw).1
  have hcl : ∀ k : Nat, ∃ z : ClassId × (Nat → Nat), ∀ q : vw_C, vwCl[k]? = some q → u_Kn s q.1 q.2.1 q.2.2 z.1 z.2 := by
    intro k
    cases hq : vwCl[k]? with
    | none => exact ⟨(0, fun _ => 0), fun q h => by cases h⟩
    | some q =>
      have hk : k < 10 := (List.getElem?_eq_some_iff.mp hq).1
      have h1 := List.all_eq_true.mp nI_all k (List.mem_range.mpr hk)
      rw [hq] at h1
      obtain ⟨cC, iS, h⟩ := u_known (n := q.2.2) htT ((tPok (fun _ => 0)).1 k q hq).1 (htT _ (kAt_mem h1))
      exact ⟨(cC, iS), fun q' h' => by cases h'; exact h⟩
  obtain ⟨ch, hch⟩ := Classical.axiomOfChoice hcl
  obtain ⟨D, hD0, hDk⟩ : ∃ D : va_G, D.2 1000 0 = s.heap.size ∧ ∀ (k : Nat) (q : vw_C), vwCl[k]? = some q → u_Kn s q.1 q.2.1 q.2.2 (D.1 k) (D.2 k) := by
    refine ⟨(fun k => (ch k).1, fun k j => if k = 1000 then s.heap.size else (ch k).2 j), (show (if (1000 : Nat) = 1000 then s.heap.size else (ch 1000).2 0) = s.heap.size from if_pos rfl), fun k q hq => ?_⟩
    have hk : k < 10 := (List.getElem?_eq_some_iff.mp hq).1
    have e : (fun j => if k = 1000 then s.heap.size else (ch k).2 j) = (ch k).2 := funext fun j => if_neg (by omega)
    show u_Kn s q.1 q.2.1 q.2.2 (ch k).1 (fun j => if k = 1000 then s.heap.size else (ch k).2 j)
    rw [e]
    exact hch k q hq
  obtain ⟨a0, v0, t0⟩ := s_T (D := D) (hDk 0 _ rfl) (fun w hw => hn w (nW_in nS_0 w hw)) (by decide) (by decide)
  obtain ⟨a1, v1, t1⟩ := s_T (D := D) (hDk 0 _ rfl) (fun w hw => hn w (nW_in nS_1 w hw)) (by decide) (by decide)
  obtain ⟨a2, v2, t2⟩ := s_T (D := D) (hDk 0 _ rfl) (fun w hw => hn w (nW_in nS_2 w hw)) (by decide) (by decide)
  obtain ⟨a3, v3, t3⟩ := s_T (D := D) (hDk 0 _ rfl) (fun w hw => hn w (nW_in nS_3 w hw)) (by decide) (by decide)
  obtain ⟨a4, v4, t4⟩ := s_T (D := D) (hDk 0 _ rfl) (fun w hw => hn w (nW_in nS_4 w hw)) (by decide) (by decide)
  obtain ⟨a5, v5, t5⟩ := s_T (D := D) (hDk 0 _ rfl) (fun w hw => hn w (nW_in nS_5 w hw)) (by decide) (by decide)
  obtain ⟨a6, v6, t6⟩ := s_T (D := D) (hDk 0 _ rfl) (fun w hw => hn w (nW_in nS_6 w hw)) (by decide) (by decide)
  obtain ⟨a7, v7, t7⟩ := s_T (D := D) (hDk 0 _ rfl) (fun w hw => hn w (nW_in nS_7 w hw)) (by decide) (by decide)
  obtain ⟨a8, v8, t8⟩ := s_T (D := D) (hDk 0 _ rfl) (fun w hw => hn w (nW_in nS_8 w hw)) (by decide) (by decide)
  obtain ⟨a9, v9, t9⟩ := s_T (D := D) (hDk 0 _ rfl) (fun w hw => hn w (nW_in nS_9 w hw)) (by decide) (by decide)
  obtain ⟨a10, v10, t10⟩ := s_T (D := D) (hDk 0 _ rfl) (fun w hw => hn w (nW_in nS_10 w hw)) (by decide) (by decide)
  obtain ⟨a11, v11, t11⟩ := s_T (D := D) (hDk 0 _ rfl) (fun w hw => hn w (nW_in nS_11 w hw)) (by decide) (by decide)
  obtain ⟨a12, v12, t12⟩ := s_T (D := D) (hDk 0 _ rfl) (fun w hw => hn w (nW_in nS_12 w hw)) (by decide) (by decide)
  obtain ⟨a13, v13, t13⟩ := s_T (D := D) (hDk 0 _ rfl) (fun w hw => hn w (nW_in nS_13 w hw)) (by decide) (by decide)
  obtain ⟨a14, v14, t14⟩ := s_T (D := D) (hDk 0 _ rfl) (fun w hw => hn w (nW_in nS_14 w hw)) (by decide) (by decide)
  obtain ⟨a15, v15, t15⟩ := s_T (D := D) (hDk 0 _ rfl) (fun w hw => hn w (nW_in nS_15 w hw)) (by decide) (by decide)
  obtain ⟨a16, v16, t16⟩ := s_T (D := D) (hDk 0 _ rfl) (fun w hw => hn w (nW_in nS_16 w hw)) (by decide) (by decide)
  obtain ⟨p0, e0, T0⟩ := a_T (fun w hw => hn w (nW_in nA_0 w hw)) (by decide)
  obtain ⟨p1, e1, T1⟩ := a_T (fun w hw => hn w (nW_in nA_1 w hw)) (by decide)
  obtain ⟨l0, f0, g0, k0⟩ := kH_i (D := D) T0 (by decide)
  obtain ⟨l1, f1, g1, k1⟩ := kH_i (D := D) T1 (by decide)
  obtain ⟨z0, hz0⟩ : ∃ z : Nat, va_Z "jdk/internal/util/Preconditions" "SIOOBE_FORMATTER" "Ljava/util/function/BiFunction;" (tSv (fun _ => z)) (fun q => s.heap.size ≤ q) s s.heap := by
    rcases va_Zqof (A := fun q => s.heap.size ≤ q) (hts _ lS_3) (hts _ lI_2) (hn _ (List.mem_of_getElem? nZ_1)) hA with h | ⟨t, h⟩
    · exact ⟨0, h⟩
    · exact ⟨t + 1, h⟩
  obtain ⟨sa, rfl, rfl, rfl, rfl, rfl, rfl, rfl, rfl, rfl, rfl, rfl, rfl, rfl, rfl, rfl, rfl, rfl, rfl, rfl, rfl⟩ : ∃ sa : Nat → Nat, sa 0 = a0 ∧ sa 1 = a1 ∧ sa 2 = a2 ∧ sa 3 = a3 ∧ sa 4 = a4 ∧ sa 5 = a5 ∧ sa 6 = a6 ∧ sa 7 = a7 ∧ sa 8 = a8 ∧ sa 9 = a9 ∧ sa 10 = a10 ∧ sa 11 = a11 ∧ sa 12 = a12 ∧ sa 13 = a13 ∧ sa 14 = a14 ∧ sa 15 = a15 ∧ sa 16 = a16 ∧ sa 100 = p0 ∧ sa 101 = p1 ∧ sa 102 = z0 := ⟨fun i => if i = 100 then p0 else if i = 101 then p1 else if i = 102 then z0 else [a0, a1, a2, a3, a4, a5, a6, a7, a8, a9, a10, a11, a12, a13, a14, a15, a16].getD i 0, rfl, rfl, rfl, rfl, rfl, rfl, rfl, rfl, rfl, rfl, rfl, rfl, rfl, rfl, rfl, rfl, rfl, rfl, rfl, rfl⟩
  refine ⟨D, sa, ⟨hx, hb, hml, hown, htT, ⟨hDk, fun w hw => ?_, fun r hr => ?_, fun z hz => ?_, fun args => hts _ lO_0, Nat.le_of_eq hD0, ⟨vx_Zqof (hts _ lS_4) (hts _ lI_3) (hn _ (List.mem_of_getElem? nZ_2)) hA, vx_Zqof (hts _ lS_5) (hts _ lI_3) (hn _ (List.mem_of_getElem? nZ_3)) hA⟩, va_tabs rfl rfl (hts _ lC_0), va_tabs rfl rfl (hts _ lC_1), va_Nc.of (hn _ (List.mem_of_getElem? nZ_4))⟩, hX, hbl⟩, kH_rel hD0, fun n => ⟨⟨⟨l0, f0, g0, k0⟩, l1, f1, g1, k1⟩, ⟨t0 n, t1 n, t2 n⟩, ⟨t3 n, t4 n, t5 n⟩, ⟨t8 n, t9 n, t10 n⟩, ⟨t11 n, t12 n, t13 n, t14 n⟩⟩⟩
  · have h1 := hts w (List.mem_filter.mp hw).1
    rcases tGood.2 w hw with ⟨_, _, _, _, _, _, rfl⟩ | ⟨_, _, _, _, rfl⟩
    · exact va_tabs rfl rfl h1
    · exact va_tabs rfl rfl h1
  · simp only [tRs, List.mem_cons, List.not_mem_nil, or_false] at hr
    rcases hr with rfl | rfl | rfl | rfl | rfl | rfl | rfl | rfl | rfl | rfl | rfl | rfl | rfl | rfl | rfl | rfl | rfl
    · exact vk_R.of (hts _ (List.mem_of_getElem? nR_0)) v0
    · exact vk_R.of (hts _ (List.mem_of_getElem? nR_1)) v1
    · exact vk_R.of (hts _ (List.mem_of_getElem? nR_2)) v2
    · exact vk_R.of (hts _ (List.mem_of_getElem? nR_3)) v3
    · exact vk_R.of (hts _ (List.mem_of_getElem? nR_4)) v4
    · exact vk_R.of (hts _ (List.mem_of_getElem? nR_5)) v5
    · exact vk_R.of (hts _ (List.mem_of_getElem? nR_6)) v6
    · exact vk_R.of (hts _ (List.mem_of_getElem? nR_7)) v7
    · exact vk_R.of (hts _ (List.mem_of_getElem? nR_8)) v8
    · exact vk_R.of (hts _ (List.mem_of_getElem? nR_9)) v9
    · exact vk_R.of (hts _ (List.mem_of_getElem? nR_10)) v10
    · exact vk_R.of (hts _ (List.mem_of_getElem? nR_11)) v11
    · exact vk_R.of (hts _ (List.mem_of_getElem? nR_12)) v12
    · exact vk_R.of (hts _ (List.mem_of_getElem? nR_13)) v13
    · exact vk_R.of (hts _ (List.mem_of_getElem? nR_14)) v14
    · exact vk_R.of (hts _ (List.mem_of_getElem? nR_15)) v15
    · exact vk_R.of (hts _ (List.mem_of_getElem? nR_16)) v16
  · simp only [tZs, List.mem_cons, List.not_mem_nil, or_false] at hz
    rcases hz with rfl | rfl | rfl | rfl
    · exact va_Zof (hts _ lS_0) (hts _ lI_0) e0 hA
    · exact va_Zof (hts _ lS_1) (hts _ lI_0) e1 hA
    · exact va_Zof (hts _ lS_2) (hts _ lI_1) (va_eqt (hn _ (List.mem_of_getElem? nZ_0))) hA
    · exact hz0
/-- from the entry, for every script of at most 2048 ints, the law comes to its end with true -/
theorem whole_start {p : Program} {e : Env} {s : State} {m : MethodId} {below : List Frame} {meth : Method} {c : Code} (l : Launch) (hl : l.stackTraces = false) {b L : Nat} {xs : Nat → Int32} (hL : L ≤ 2048) (C0 : lw_At p s m meth c b L xs) : W p l e room_1 s m #[Value.ref b] below meth c s.heap [] 0 0 (lw_Z below #[Value.ref b] s) (entryFrame m ([Value.ref b] : List Value).toArray 7) := by
  obtain ⟨D, sa, C, hrel, hj⟩ := w_start C0
  obtain ⟨hx, hb, hr, hml, hown, hts, hX, hbl, hlocks, hgv⟩ := C0
  have hEnd : ∀ S L, oR s S → oW p l e s m below meth c (lw_Z below #[Value.ref b] s) D b 619 L [] S := by
    intro S L hR
    refine o_pure C hR dL_619 (Or.inr rfl) (pc' := 620) (L' := L) (st' := [.int 1]) (fun S => rfl) ?_
    intro ls H locs hls hsz hRel hns hS
    exact va_forget (fun q hq => hS.2.2 q hq) (W.widen (k := 601024) (n := 7293034) hR.1 (by have := hR.2; show S.2.2 - 0 ≤ 7293034; omega) (lw_ret hx hb hr hlocks dL_620))
  have K := o_entry C hL hj (o_ty C hl hL) hEnd
  rw [lg_entry_eq]
  have k2 := K _ s.heap [] (mEn_R (vs := [.ref b]) (n := 7) (Nat.le_of_ble_eq_true rfl)) rfl hrel (Nat.le_refl _) va_S.rf
  rw [show (((kH D s, s.heap.size, 0) : mS).2.1 - s.heap.size) = 0 from Nat.sub_self _] at k2
  exact k2
