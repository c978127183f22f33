/-! THE PLAIN MACHINE'S STEPS ARE THE REAL ONE'S (all but calls and returns). -/
/-- the known locals, as a list -/
def mPr (L : mL) : List (Nat × Value) := (List.range L.length).filterMap (fun i => (mLd L i).map (fun v => (i, v)))
theorem mLd_lt {L : mL} {i : Nat} {v : Value} (h : mLd L i = some v) : i < L.length := by
  unfold mLd at h
  cases hi : L[i]? with
  | none => rw [hi] at h; cases h
  | some o => exact (List.getElem?_eq_some_iff.mp hi).1
theorem mPr_mem {L : mL} {i : Nat} {v : Value} : (i, v) ∈ mPr L ↔ mLd L i = some v := by
  unfold mPr
  rw [List.mem_filterMap]
  constructor
  · rintro ⟨j, -, hj⟩
    cases hl : mLd L j with
    | none => rw [hl] at hj; cases hj
    | some w => rw [hl] at hj; cases hj; exact hl
  · intro h
    exact ⟨i, List.mem_range.mpr (mLd_lt h), by rw [h]; rfl⟩
/-- what the real locals hold -/
def mLR (ls : Array Slot) (L : mL) : Prop := ls.size = L.length ∧ lv_wf ls ∧ ∀ (i : Nat) (v : Value), mLd L i = some v → ls[i]? = some (.val v)
theorem mLR.has {ls : Array Slot} {L : mL} (h : mLR ls L) : lv_has ls L.length (mPr L) := ⟨h.1, h.2.1, fun q hq => h.2.2 q.1 q.2 (mPr_mem.mp hq)⟩
theorem mLd_set_ne {L : mL} {i j : Nat} {o : Option Value} (h : i ≠ j) : mLd (L.set i o) j = mLd L j := by
  unfold mLd
  rw [List.getElem?_set_ne h]
theorem mLd_set_self {L : mL} {i : Nat} {o : Option Value} (h : i < L.length) : mLd (L.set i o) i = o := by
  unfold mLd
  rw [List.getElem?_set_self h]
theorem mKill_len (L : mL) (i : Nat) : (mKill L i).length = L.length := by
  unfold mKill
  cases i with
  | zero => rfl
  | succ j =>
    dsimp only
    cases mLd L j with
    | none => rfl
    | some v =>
      dsimp only
      split <;> simp
theorem mKill_ld {L : mL} {i j : Nat} {w : Value} (h : mLd (mKill L i) j = some w) : mLd L j = some w ∧ ¬ (j + 1 = i ∧ w.category = 2) := by
  unfold mKill at h
  cases i with
  | zero => exact ⟨h, fun q => by omega⟩
  | succ k =>
    dsimp only at h
    cases hk : mLd L k with
    | none =>
      rw [hk] at h
      refine ⟨h, fun q => ?_⟩
      have e : j = k := by omega
      rw [e, hk] at h
      cases h
    | some v =>
      rw [hk] at h
      dsimp only at h
      by_cases hc : v.category = 2
      · rw [if_pos hc] at h
        by_cases e : k = j
        · subst e
          rw [mLd_set_self (mLd_lt hk)] at h
          cases h
        · rw [mLd_set_ne e] at h
          exact ⟨h, fun q => e (by omega)⟩
      · rw [if_neg hc] at h
        refine ⟨h, fun q => ?_⟩
        have e : j = k := by omega
        rw [e, hk] at h
        cases h
        exact hc q.2
theorem mSt_mem1 {L L' : mL} {i : Nat} {v : Value} (hc : v.category = 1) (h : mSt L i v = some L') : i < L.length ∧ L'.length = L.length ∧ ∀ (j : Nat) (w : Value), mLd L' j = some w → (j, w) ∈ (i, v) :: (mPr L).filter (fun q => !(q.1 == i) && !(q.1 + 1 == i && q.2.category == 2)) := by
  unfold mSt at h
  rw [if_neg (by rw [hc]; decide)] at h
  by_cases hi : i < L.length
  · rw [if_pos hi] at h
    cases h
    refine ⟨hi, by simp [mKill_len], fun j w hj => ?_⟩
    by_cases e : i = j
    · subst e
      rw [mLd_set_self (by rw [mKill_len]; exact hi)] at hj
      cases hj
      exact List.mem_cons_self
    · rw [mLd_set_ne e] at hj
      obtain ⟨h1, h2⟩ := mKill_ld hj
      refine List.mem_cons_of_mem _ (List.mem_filter.mpr ⟨mPr_mem.mpr h1, ?_⟩)
      have e2 : ¬ j = i := fun q => e q.symm
      simp only [Bool.and_eq_true, Bool.not_eq_true', beq_eq_false_iff_ne, ne_eq, Bool.and_eq_false_iff]
      refine ⟨e2, ?_⟩
      by_cases e3 : j + 1 = i
      · exact Or.inr (fun q => h2 ⟨e3, q⟩)
      · exact Or.inl e3
  · rw [if_neg hi] at h
    cases h
theorem mSt_mem2 {L L' : mL} {i : Nat} {v : Value} (hc : v.category = 2) (h : mSt L i v = some L') : i + 1 < L.length ∧ L'.length = L.length ∧ ∀ (j : Nat) (w : Value), mLd L' j = some w → (j, w) ∈ (i, v) :: (mPr L).filter (fun q => !(q.1 == i) && (!(q.1 == i + 1) && !(q.1 + 1 == i && q.2.category == 2))) := by
  unfold mSt at h
  rw [if_pos hc] at h
  by_cases hi : i + 1 < L.length
  · rw [if_pos hi] at h
    cases h
    refine ⟨hi, by simp [mKill_len], fun j w hj => ?_⟩
    by_cases e1 : i + 1 = j
    · subst e1
      rw [mLd_set_self (by simp [mKill_len]; exact hi)] at hj
      cases hj
    · rw [mLd_set_ne e1] at hj
      by_cases e : i = j
      · subst e
        rw [mLd_set_self (by rw [mKill_len]; omega)] at hj
        cases hj
        exact List.mem_cons_self
      · rw [mLd_set_ne e] at hj
        obtain ⟨h1, h2⟩ := mKill_ld hj
        refine List.mem_cons_of_mem _ (List.mem_filter.mpr ⟨mPr_mem.mpr h1, ?_⟩)
        have e2 : ¬ j = i := fun q => e q.symm
        have e4 : ¬ j = i + 1 := fun q => e1 q.symm
        simp only [Bool.and_eq_true, Bool.not_eq_true', beq_eq_false_iff_ne, ne_eq, Bool.and_eq_false_iff]
        refine ⟨e2, e4, ?_⟩
        by_cases e3 : j + 1 = i
        · exact Or.inr (fun q => h2 ⟨e3, q⟩)
        · exact Or.inl e3
  · rw [if_neg hi] at h
    cases h
theorem mLR.of {ls : Array Slot} {L L' : mL} {lv : List (Nat × Value)} (h : lv_has ls L.length lv) (hl : L'.length = L.length) (hm : ∀ (j : Nat) (w : Value), mLd L' j = some w → (j, w) ∈ lv) : mLR ls L' := ⟨h.1.trans hl.symm, h.2.1, fun j w hj => h.2.2 (j, w) (hm j w hj)⟩
/-- the locals at the entry -/
theorem mArg_len (vs : List Value) : (mArg vs).length = (lg_sl vs).length := by
  induction vs with
  | nil => rfl
  | cons v r ih =>
    unfold mArg
    by_cases h : v.category = 2
    · rw [if_pos h]; simp [lg_sl, h] at ih ⊢; omega
    · rw [if_neg h]; simp [lg_sl, h] at ih ⊢; omega
theorem mArg_mem (vs : List Value) : ∀ (o j : Nat) (w : Value), mLd (mArg vs) j = some w → (o + j, w) ∈ lv_args o vs := by
  induction vs with
  | nil => intro o j w h; simp [mArg, mLd] at h
  | cons v r ih =>
    intro o j w h
    unfold mArg at h
    unfold lv_args
    by_cases hc : v.category = 2
    · rw [if_pos hc] at h
      rw [if_pos hc]
      match j, h with
      | 0, h =>
        have e : v = w := by simpa [mLd] using h
        subst e
        exact List.mem_cons_self
      | 1, h => simp [mLd] at h
      | k + 2, h =>
        have h2 : mLd (mArg r) k = some w := by simpa [mLd] using h
        have := ih (o + 2) k w h2
        rw [show o + (k + 2) = o + 2 + k by omega]
        exact List.mem_cons_of_mem _ this
    · rw [if_neg hc] at h
      rw [if_neg hc]
      match j, h with
      | 0, h =>
        have e : v = w := by simpa [mLd] using h
        subst e
        exact List.mem_cons_self
      | k + 1, h =>
        have h2 : mLd (mArg r) k = some w := by simpa [mLd] using h
        have := ih (o + 1) k w h2
        rw [show o + (k + 1) = o + 1 + k by omega]
        exact List.mem_cons_of_mem _ this
theorem mEn_len {vs : List Value} {n : Nat} (h : (mArg vs).length ≤ n) : (mEn vs n).length = n := by
  unfold mEn
  simp
  omega
theorem mEn_R {vs : List Value} {n : Nat} (h : (mArg vs).length ≤ n) : mLR ((lg_sl vs ++ List.replicate (n - (lg_sl vs).length) Slot.unset).toArray) (mEn vs n) := by
  have h0 := lv_entry vs (n := n) (by rw [← mArg_len]; exact h)
  refine ⟨h0.1.trans (mEn_len h).symm, h0.2.1, fun j w hj => h0.2.2 (j, w) ?_⟩
  have h1 : mLd (mArg vs) j = some w := by
    unfold mEn mLd at hj
    unfold mLd
    by_cases q : j < (mArg vs).length
    · rw [List.getElem?_append_left q] at hj
      exact hj
    · rw [List.getElem?_append_right (by omega)] at hj
      cases hz : (List.replicate (n - (mArg vs).length) (none : Option Value))[j - (mArg vs).length]? with
      | none => rw [hz] at hj; cases hj
      | some o =>
        rw [hz] at hj
        have : o = none := by
          have := List.mem_of_getElem? hz
          exact List.eq_of_mem_replicate this
        rw [this] at hj
        cases hj
  have := mArg_mem vs 0 j w h1
  rwa [Nat.zero_add] at this
