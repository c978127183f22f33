theorem all_go {α : Type} {p : α → Bool} {l : List α} {n k m : Nat} (hm : m = n + k) (h1 : ((l.drop n).take k).all p = true) (h2 : (l.drop m).all p = true) : (l.drop n).all p = true := by
  subst hm
  rw [← List.take_append_drop k (l.drop n), List.all_append, h1, List.drop_drop]
  rw [h2]
  rfl
theorem tGall_end : (tCl.drop 240).all tGchk = true := rfl
theorem tGall : tCl.all tGchk = true := by
  have h : (tCl.drop 0).all tGchk = true := (all_go (m := 60) rfl tGall_0 (all_go (m := 120) rfl tGall_1 (all_go (m := 180) rfl tGall_2 (all_go (m := 240) rfl tGall_3 tGall_end))))
  rw [List.drop_zero] at h
  exact h
theorem tG_inv {t i kd : Nat} {c : Nat ⊕ Nat} (h : tG t i = some (kd, c)) : ∃ pr q w1 nb w2 w3 w4 w5, tGchk (t, i, kd, pr, q, w1, nb, w2, w3, w4, w5) = true ∧ c = (if pr = 1 then .inr q else .inl q) := by
  unfold tG at h
  cases he : tCl.find? (fun e => e.1 == t && e.2.1 == i) with
  | none => rw [he] at h; cases h
  | some e =>
    rw [he] at h
    obtain ⟨h1, h2⟩ := tFind tGall he
    obtain ⟨t', i', kd', pr, q, w1, nb, w2, w3, w4, w5⟩ := e
    simp only [Bool.and_eq_true, beq_iff_eq] at h2
    obtain ⟨rfl, rfl⟩ := h2
    cases h
    exact ⟨pr, q, w1, nb, w2, w3, w4, w5, h1, rfl⟩
set_option maxRecDepth 100000 in
theorem tPrims : (decide (Cond.instanceMethod Lib.objectInit ∈ tTs) && decide (Cond.native arraycopyName ∈ tTs) && decide (Cond.static arraycopyName ∈ tTs) && decide (Cond.initialized "java/lang/System" ∈ tTs) && decide (Cond.code Lib.objectInit ⟨#[0xb1]⟩ 1 none ∈ tTs)) = true := by decide +kernel
set_option maxRecDepth 100000 in
theorem tMath : (decide (Cond.initialized "java/lang/Math" ∈ tTs) && decide (Cond.static Lib.Math.min.name ∈ tTs) && decide (Cond.static Lib.Math.max.name ∈ tTs) && decide (Cond.static Lib.Math.abs.name ∈ tTs) && decide (Cond.code Lib.Math.min.name Lib.Math.min.code 2 (some .int) ∈ tTs) && decide (Cond.code Lib.Math.max.name Lib.Math.max.code 2 (some .int) ∈ tTs) && decide (Cond.code Lib.Math.abs.name Lib.Math.abs.code 1 (some .int) ∈ tTs)) = true := by decide +kernel
/-- methods: their class and name -/
def tMchk (x : MethodName × mM) : Bool := decide (tN (mTag x.2) = x.1.cls) && ((!mIni x.2 || decide (x.1.name = "<init>")) && (match vwCl[mCi x.2]? with | some z => decide (z.1 = x.1.cls) | none => true))
set_option maxRecDepth 100000 in
theorem tMall : tCq.all tMchk = true := by decide +kernel
theorem tCalls (sa : Nat → Nat) : mCalls (tP sa) tN tY tTs tNs := by
  have hp := tPrims
  simp only [Bool.and_eq_true, decide_eq_true_eq] at hp
  obtain ⟨⟨⟨⟨p1, p2⟩, p3⟩, p4⟩, p5⟩ := hp
  refine ⟨fun t k kd q M' h hm => ?_, fun t k kd q h => ?_, fun q M' hm => ?_⟩
  · obtain ⟨pr, q', w1, nb, w2, w3, w4, w5, hc, e⟩ := tG_inv h
    by_cases hpr : pr = 1
    · rw [if_pos hpr] at e; cases e
    · rw [if_neg hpr] at e
      cases e
      replace hm : tM q = some M' := hm
      unfold tGchk at hc
      dsimp only at hc
      rw [if_neg hpr, hm] at hc
      simp only [Bool.and_eq_true, decide_eq_true_eq] at hc
      obtain ⟨c1, c2, ⟨c3, c4, c5⟩, c6, c7, c8⟩ := hc
      refine ⟨⟨tCode hm, kAt_mem c2⟩, ⟨c3, c4, plainFor_of_name c5⟩, c6, c7, ?_, ?_⟩
      · by_cases hn : nb = 1
        · rw [if_pos hn] at c1
          exact Or.inr ⟨_, kNt_mem c1⟩
        · rw [if_neg hn] at c1
          exact Or.inl (kAt_mem c1)
      · by_cases k0 : kd = 0
        · rw [if_pos k0] at c8
          simp only [Bool.and_eq_true] at c8
          refine Or.inl ⟨k0, kAt_mem c8.1, kAt_mem c8.2.1, ?_⟩
          have c9 := c8.2.2
          cases hz : vwCl[mCi M']? with
          | none => rw [hz] at c9; cases c9
          | some z =>
            rw [hz] at c9
            exact ⟨z, rfl, by simpa using c9⟩
        · rw [if_neg k0] at c8
          by_cases k1 : kd = 1
          · rw [if_pos k1] at c8
            exact Or.inr (Or.inl ⟨k1, kAt_mem c8⟩)
          · rw [if_neg k1] at c8
            simp only [Bool.and_eq_true, decide_eq_true_eq] at c8
            exact Or.inr (Or.inr ⟨c8.1, kAt_mem c8.2.1, c8.2.2.1, c8.2.2.2⟩)
  · obtain ⟨pr, q', w1, nb, w2, w3, w4, w5, hc, e⟩ := tG_inv h
    by_cases hpr : pr = 1
    · rw [if_pos hpr] at e
      cases e
      unfold tGchk at hc
      dsimp only at hc
      rw [if_pos hpr] at hc
      by_cases q0 : q = 0
      · rw [if_pos q0] at hc
        simp only [Bool.and_eq_true, decide_eq_true_eq] at hc
        exact Or.inl ⟨q0, hc.1, kAt_mem hc.2, p1, p5⟩
      · rw [if_neg q0] at hc
        simp only [Bool.and_eq_true, decide_eq_true_eq] at hc
        obtain ⟨k1, hc⟩ := hc
        by_cases q1 : q = 1
        · rw [if_pos q1] at hc
          exact Or.inr (Or.inl ⟨q1, k1, kAt_mem hc, p2, p3, p4⟩)
        · rw [if_neg q1] at hc
          have hM := tMath
          simp only [Bool.and_eq_true, decide_eq_true_eq] at hM
          obtain ⟨⟨⟨⟨⟨⟨m0, m1⟩, m2⟩, m3⟩, m4⟩, m5⟩, m6⟩ := hM
          refine Or.inr (Or.inr ⟨k1, m0, ?_⟩)
          by_cases q2 : q = 2
          · rw [if_pos q2] at hc
            exact Or.inl ⟨q2, kAt_mem hc, m1, m4⟩
          · rw [if_neg q2] at hc
            by_cases q3 : q = 3
            · rw [if_pos q3] at hc
              exact Or.inr (Or.inl ⟨q3, kAt_mem hc, m2, m5⟩)
            · rw [if_neg q3] at hc
              simp only [Bool.and_eq_true, decide_eq_true_eq] at hc
              exact Or.inr (Or.inr ⟨hc.1, kAt_mem hc.2, m3, m6⟩)
    · rw [if_neg hpr] at e; cases e
  · replace hm : tM q = some M' := hm
    have hq : q < tMl.length := (List.getElem?_eq_some_iff.mp hm).1
    have hy : tYl[q]? = some (tY q) := by
      have h2 : q < tYl.length := by rw [show tYl.length = tMl.length from rfl]; exact hq
      unfold tY
      rw [List.getD_eq_getElem?_getD, List.getElem?_eq_getElem h2]
      rfl
    have : (tY q, M') ∈ tCq := by
      rw [tCq_eq]
      refine List.mem_of_getElem? (i := q) ?_
      rw [List.getElem?_zip_eq_some]
      exact ⟨hy, hm⟩
    have hc := List.all_eq_true.mp tMall _ this
    unfold tMchk at hc
    simp only [Bool.and_eq_true, Bool.or_eq_true, decide_eq_true_eq, Bool.not_eq_true'] at hc
    refine ⟨hc.1, fun hi => ?_, fun z hz => ?_⟩
    · rcases hc.2.1 with h | h
      · rw [h] at hi; cases hi
      · exact h
    · have c9 := hc.2.2
      rw [hz] at c9
      simpa using c9

