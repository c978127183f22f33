/-! WHAT MAY WRITE FROM b2 ON MAY WRITE FROM b ON -/
theorem mAst_base {b b2 : Nat} (hb : b ≤ b2) {i : Instr} {pc : Nat} {L : mL} {st : List Value} {S : mS} {nx : Nat × mL × List Value × mS} (h : mAst b2 i pc L st S = some nx) : mAst b i pc L st S = some nx := by
  unfold mAst at h ⊢
  split at h
  · rename_i x j a r
    cases hc : S.1 a with
    | none => rw [hc] at h; cases h
    | some c =>
      rw [hc] at h
      cases c with
      | inr y => cases h
      | inl y =>
        obtain ⟨ty, n, f⟩ := y
        dsimp only at h ⊢
        by_cases q : a < b2
        · rw [if_pos q] at h; cases h
        · rw [if_neg q] at h; rw [if_neg (Nat.not_lt.mpr (Nat.le_trans hb (Nat.not_lt.mp q)))]; exact h
  · rename_i x j a r
    cases hc : S.1 a with
    | none => rw [hc] at h; cases h
    | some c =>
      rw [hc] at h
      split at h
      · rename_i n f e
        cases e
        by_cases q : a < b2
        · rw [if_pos q] at h; cases h
        · rw [if_neg q] at h; rw [if_neg (Nat.not_lt.mpr (Nat.le_trans hb (Nat.not_lt.mp q)))]; exact h
      · cases h
  · cases h
theorem mPut_base {P : mP} {b b2 : Nat} (hb : b ≤ b2) {M : mM} {k : Nat} {pc : Nat} {L : mL} {st : List Value} {S : mS} {nx : Nat × mL × List Value × mS} (h : mStep P b2 M (.putfield k) pc L st S = some nx) : mStep P b M (.putfield k) pc L st S = some nx := by
  simp only [mStep] at h ⊢
  split at h
  · rename_i ci f v a r hF
    split at h
    · rename_i c2 fs ty fin hc hm
      split at h
      · rename_i q
        rw [if_pos ⟨q.1, Nat.le_trans hb q.2.1, q.2.2⟩]
        exact h
      · cases h
    · cases h
  · cases h
set_option maxHeartbeats 4000000 in
theorem mStep_base {P : mP} {b b2 : Nat} (hb : b ≤ b2) {M : mM} {i : Instr} {pc : Nat} {L : mL} {st : List Value} {S : mS} {nx : Nat × mL × List Value × mS} (h : mStep P b2 M i pc L st S = some nx) : mStep P b M i pc L st S = some nx := by
  cases i
  case putfield k => exact mPut_base hb h
  case iastore => exact mAst_base hb h
  case bastore => exact mAst_base hb h
  case lastore => exact (show mAst b .lastore pc L st S = some nx from mAst_base hb (show mAst b2 .lastore pc L st S = some nx from h))
  all_goals exact h
theorem mPrim1_base {b b2 : Nat} (hb : b ≤ b2) {st st1 : List Value} {S S1 : mS} (h : mPrim1 b2 st S = some (st1, S1)) : mPrim1 b st S = some (st1, S1) := by
  unfold mPrim1 at h ⊢
  split at h
  · rename_i n dp a sp a0 r
    split at h
    · rename_i n0 f n1 g h0 h1
      split at h
      · rename_i q
        rw [if_pos ⟨Nat.le_trans hb q.1, q.2⟩]
        exact h
      · cases h
    · cases h
  · cases h
theorem mPrim_base {b b2 k : Nat} (hb : b ≤ b2) {st st1 : List Value} {S S1 : mS} (h : mPrim b2 k st S = some (st1, S1)) : mPrim b k st S = some (st1, S1) := by
  unfold mPrim at h ⊢
  split at h
  · exact h
  · exact mPrim1_base hb h
  · exact h
  · exact h
  · exact h
  · exact h
theorem mExec_base {P : mP} {b b2 : Nat} (hb : b ≤ b2) : ∀ (n d : Nat) (M : mM) (pc : Nat) (L : mL) (st : List Value) (S : mS) (x : Option Value × mS), mExec P b2 n d M pc L st S = some x → mExec P b n d M pc L st S = some x := by
  intro n
  induction n with
  | zero => intro d M pc L st S x h; cases h
  | succ n ih =>
    intro d M pc L st S x h
    obtain ⟨r, S'⟩ := x
    obtain ⟨i, len, hdg, hl, hw⟩ := mExec_inv h
    rw [mx_one hdg hl]
    rcases hw with ⟨hr, rfl, rfl⟩ | ⟨nx, hs, h2⟩ | ⟨kd, k9, q, d1, st1, S1, rfl, rfl, hc, hL, hp, hwd, h2⟩ | ⟨kd, k9, q, d1, M', r1, S1, rfl, rfl, hc, hm, hmay, h1, h2⟩
    · exact mx_ret hr
    · rw [mx_step (mStep_base hb hs)]
      exact ih _ _ _ _ _ _ _ h2
    · rw [mx_prim hc hL (mPrim_base hb hp) hwd]
      exact ih _ _ _ _ _ _ _ h2
    · rw [mx_call hc hm hmay (ih _ _ _ _ _ _ _ h1)]
      exact ih _ _ _ _ _ _ _ h2
theorem mW.base {P : mP} {b b2 : Nat} (hb : b ≤ b2) {d : Nat} {M : mM} {pc : Nat} {L : mL} {st : List Value} {S : mS} {Q : Option Value → mS → Prop} (h : mW P b2 d M pc L st S Q) : mW P b d M pc L st S Q := by
  obtain ⟨n, r, S', h1, h2⟩ := h
  exact ⟨n, r, S', mExec_base hb n d M pc L st S _ h1, h2⟩
