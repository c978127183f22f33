/-! CALLS of the plain machine -/
/-- sizes only grow -/
theorem mAri_mono {i : Instr} {pc : Nat} {L : mL} {st : List Value} {S : mS} {nx : Nat × mL × List Value × mS} (h : mAri i pc L st S = some nx) : nx.2.2.2 = S := by
  unfold mAri at h
  split at h
  · split at h
    · cases h; rfl
    · cases h
  · split at h
    · cases h; rfl
    · cases h
  · split at h
    · cases h; rfl
    · cases h
  · cases h
theorem mAld_mono {i : Instr} {pc : Nat} {L : mL} {st : List Value} {S : mS} {nx : Nat × mL × List Value × mS} (h : mAld i pc L st S = some nx) : nx.2.2.2 = S := by
  unfold mAld at h
  repeat' (split at h)
  all_goals first | (cases h; done) | (cases h; rfl)
theorem mAst_mono {b : Nat} {i : Instr} {pc : Nat} {L : mL} {st : List Value} {S : mS} {nx : Nat × mL × List Value × mS} (h : mAst b i pc L st S = some nx) : nx.2.2.2.2 = S.2 := by
  unfold mAst at h
  repeat' (split at h)
  all_goals first | (cases h; done) | (cases h; rfl)
theorem mLoad_mono {x y : Bool} {k n pc : Nat} {L : mL} {st : List Value} {S : mS} {nx : Nat × mL × List Value × mS} (h : mLoad x y k pc n L st S = some nx) : nx.2.2.2 = S := by
  unfold mLoad at h
  repeat' (split at h)
  all_goals first | (cases h; done) | (cases h; rfl)
theorem mStore_mono {x y : Bool} {k n pc : Nat} {L : mL} {st : List Value} {S : mS} {nx : Nat × mL × List Value × mS} (h : mStore x y k pc n L st S = some nx) : nx.2.2.2 = S := by
  unfold mStore at h
  repeat' (split at h)
  all_goals first | (cases h; done) | (cases h; rfl)
set_option maxHeartbeats 4000000 in
theorem mStep_mono {P : mP} {b : Nat} {M : mM} {i : Instr} {pc : Nat} {L : mL} {st : List Value} {S : mS} {nx : Nat × mL × List Value × mS} (h : mStep P b M i pc L st S = some nx) : S.2.1 ≤ nx.2.2.2.2.1 ∧ S.2.2 ≤ nx.2.2.2.2.2 := by
  unfold mStep at h
  split at h
  all_goals first
    | (cases h; done)
    | (rw [mAri_mono h]; exact ⟨Nat.le_refl _, Nat.le_refl _⟩)
    | (rw [mAld_mono h]; exact ⟨Nat.le_refl _, Nat.le_refl _⟩)
    | (rw [mAst_mono h]; exact ⟨Nat.le_refl _, Nat.le_refl _⟩)
    | (rw [mLoad_mono h]; exact ⟨Nat.le_refl _, Nat.le_refl _⟩)
    | (rw [mStore_mono h]; exact ⟨Nat.le_refl _, Nat.le_refl _⟩)
    | (repeat' (split at h)
       all_goals first | (cases h; done) | (cases h; exact ⟨Nat.le_refl _, Nat.le_refl _⟩) | (cases h; exact ⟨Nat.le_succ _, Nat.le_add_right _ _⟩) | (cases h; exact ⟨by dsimp only; omega, by dsimp only; omega⟩))
theorem mPrim_mono {b k : Nat} {st : List Value} {S : mS} {nx : List Value × mS} (h : mPrim b k st S = some nx) : nx.2.2 = S.2 := by
  unfold mPrim at h
  split at h
  · unfold mPrim0 at h
    repeat' (split at h)
    all_goals first | (cases h; done) | (cases h; rfl)
  · unfold mPrim1 at h
    repeat' (split at h)
    all_goals first | (cases h; done) | (cases h; rfl)
  · unfold mPrim2 at h
    split at h
    · cases h; rfl
    · cases h
  · unfold mPrim3 at h
    split at h
    · cases h; rfl
    · cases h
  · unfold mPrim4 at h
    split at h
    · cases h; rfl
    · cases h
  · cases h
/-- an instruction that returns r -/
def mIsRet (M : mM) (i : Instr) (r : Option Value) : Prop :=
  (i = .return_ ∧ r = none ∧ mRet M = none) ∨ (∃ v ty, i = .ireturn ∧ r = some (.int v) ∧ mRet M = some ty ∧ narrow ty (.int v) = .int v) ∨
  (∃ v, i = .lreturn ∧ r = some (.long v) ∧ mRet M = some .long) ∨ (∃ v rt, i = .areturn ∧ r = some (.ref v) ∧ mRet M = some rt ∧ ((∃ n, rt = .object n) ∨ ∃ t, rt = .array t))
theorem mRetn_inv {M : mM} {i : Instr} {st : List Value} {S S' : mS} {r : Option Value} (h : mRetn M i st S = some (r, S')) : mIsRet M i r ∧ st = r.toList ∧ S' = S := by
  unfold mRetn at h
  split at h
  · rename_i h0
    cases h
    exact ⟨Or.inl ⟨rfl, rfl, h0⟩, rfl, rfl⟩
  · rename_i v ty h0
    split at h
    · rename_i h1
      cases h
      exact ⟨Or.inr (Or.inl ⟨v, ty, rfl, rfl, h0, h1⟩), rfl, rfl⟩
    · cases h
  · rename_i v h0
    cases h
    exact ⟨Or.inr (Or.inr (Or.inl ⟨v, rfl, rfl, h0⟩)), rfl, rfl⟩
  · rename_i v n h0
    cases h
    exact ⟨Or.inr (Or.inr (Or.inr ⟨v, _, rfl, rfl, h0, Or.inl ⟨n, rfl⟩⟩)), rfl, rfl⟩
  · rename_i v n h0
    cases h
    exact ⟨Or.inr (Or.inr (Or.inr ⟨v, _, rfl, rfl, h0, Or.inr ⟨n, rfl⟩⟩)), rfl, rfl⟩
  · cases h
/-- what one instruction was -/
def mWas (P : mP) (b : Nat) (rec : mF) (d : Nat) (M : mM) (i : Instr) (pc : Nat) (L : mL) (st : List Value) (S : mS) (r : Option Value) (S' : mS) : Prop :=
  (mIsRet M i r ∧ st = r.toList ∧ S' = S) ∨
  (∃ nx, mStep P b M i pc L st S = some nx ∧ rec d M nx.1 nx.2.1 nx.2.2.1 nx.2.2.2 = some (r, S')) ∨
  (∃ kd k q d' st1 S1, d = d' + 1 ∧ i = mIn kd k ∧ P.2.2.1 (mTag M) k = some (kd, .inr q) ∧ L.length = mMax M ∧ mPrim b q st S = some (st1, S1) ∧ mWide st1 = true ∧ rec d M (pc + 3) L st1 S1 = some (r, S')) ∨
  (∃ kd k q d' M' r1 S1, d = d' + 1 ∧ i = mIn kd k ∧ P.2.2.1 (mTag M) k = some (kd, .inl q) ∧ P.2.2.2.2.2 q = some M' ∧ mMay kd M M' L st S = true ∧ rec d' M' 0 (mEn (st.take (mNa M')).reverse (mMax M')) [] S = some (r1, S1) ∧ rec d M (pc + 3) L (r1.toList ++ st.drop (mNa M')) S1 = some (r, S'))
theorem mGo_inv {P : mP} {b : Nat} {rec : mF} {d : Nat} {M : mM} {i : Instr} {k pc : Nat} {L : mL} {st : List Value} {S : mS} {r : Option Value} {S' : mS} (h : mGo P b rec d M i k pc L st S = some (r, S')) : mWas P b rec d M i pc L st S r S' := by
  unfold mGo at h
  cases d with
  | zero => cases h
  | succ d' =>
    dsimp only at h
    cases hc : P.2.2.1 (mTag M) k with
    | none => rw [hc] at h; cases h
    | some x =>
      obtain ⟨kd, q | q⟩ := x
      · rw [hc] at h
        dsimp only at h
        split at h
        · rename_i hi
          cases hm : P.2.2.2.2.2 q with
          | none => rw [hm] at h; cases h
          | some M' =>
            rw [hm] at h
            dsimp only at h
            split at h
            · rename_i hmay
              cases hr : rec d' M' 0 (mEn (st.take (mNa M')).reverse (mMax M')) [] S with
              | none => rw [hr] at h; cases h
              | some x =>
                obtain ⟨r1, S1⟩ := x
                rw [hr] at h
                exact Or.inr (Or.inr (Or.inr ⟨kd, k, q, d', M', r1, S1, rfl, hi, hc, hm, hmay, hr, h⟩))
            · cases h
        · cases h
      · rw [hc] at h
        dsimp only at h
        split at h
        · rename_i hi
          cases hp : mPrim b q st S with
          | none => rw [hp] at h; cases h
          | some x =>
            obtain ⟨st1, S1⟩ := x
            rw [hp] at h
            dsimp only at h
            split at h
            · rename_i hw
              exact Or.inr (Or.inr (Or.inl ⟨kd, k, q, d', st1, S1, rfl, hi.1, hc, hi.2, hp, hw, h⟩))
            · cases h
        · cases h
theorem mOne_inv {P : mP} {b : Nat} {rec : mF} {d : Nat} {M : mM} {i : Instr} {pc : Nat} {L : mL} {st : List Value} {S : mS} {r : Option Value} {S' : mS} (h : mOne P b rec d M i pc L st S = some (r, S')) : mWas P b rec d M i pc L st S r S' := by
  unfold mOne at h
  split at h
  · exact Or.inl (mRetn_inv h)
  · exact Or.inl (mRetn_inv h)
  · exact Or.inl (mRetn_inv h)
  · exact Or.inl (mRetn_inv h)
  · exact mGo_inv h
  · exact mGo_inv h
  · exact mGo_inv h
  · split at h
    · rename_i nx hs
      exact Or.inr (Or.inl ⟨nx, hs, h⟩)
    · cases h
theorem mExec_inv {P : mP} {b n d : Nat} {M : mM} {pc : Nat} {L : mL} {st : List Value} {S : mS} {r : Option Value} {S' : mS} (h : mExec P b (n + 1) d M pc L st S = some (r, S')) : ∃ i len, decode (mCode M) pc = .ok (i, len) ∧ (mLen i = 0 ∨ mLen i = len) ∧ mWas P b (mExec P b n) d M i pc L st S r S' := by
  unfold mExec at h
  split at h
  · cases h
  · rename_i i len hd
    split at h
    · rename_i hl
      exact ⟨i, len, hd, hl, mOne_inv h⟩
    · cases h
theorem mExec_mono (P : mP) (b : Nat) : ∀ (n d : Nat) (M : mM) (pc : Nat) (L : mL) (st : List Value) (S : mS) (r : Option Value) (S' : mS), mExec P b n d M pc L st S = some (r, S') → S.2.1 ≤ S'.2.1 ∧ S.2.2 ≤ S'.2.2 := by
  intro n
  induction n with
  | zero => intro d M pc L st S r S' h; cases h
  | succ n ih =>
    intro d M pc L st S r S' h
    obtain ⟨i, len, -, -, hw⟩ := mExec_inv h
    rcases hw with ⟨-, -, rfl⟩ | ⟨nx, hs, h2⟩ | ⟨kd, k, q, d', st1, S1, -, -, -, -, hp, -, h2⟩ | ⟨kd, k, q, d', M', r1, S1, -, -, -, -, -, h1, h2⟩
    · exact ⟨Nat.le_refl _, Nat.le_refl _⟩
    · have a := mStep_mono hs
      have c := ih _ _ _ _ _ _ _ _ h2
      exact ⟨Nat.le_trans a.1 c.1, Nat.le_trans a.2 c.2⟩
    · have c := ih _ _ _ _ _ _ _ _ h2
      rw [mPrim_mono hp] at c
      exact c
    · have a := ih _ _ _ _ _ _ _ _ h1
      have c := ih _ _ _ _ _ _ _ _ h2
      exact ⟨Nat.le_trans a.1 c.1, Nat.le_trans a.2 c.2⟩
