/-! THE PLAIN MACHINE WITHOUT FUEL: mW .. Q: from here it comes to an end with Q -/
section MWP
variable {P : mP} {b : Nat}
theorem mx_step {rec : mF} {d : Nat} {M : mM} {i : Instr} {pc : Nat} {L : mL} {st : List Value} {S : mS} {nx : Nat × mL × List Value × mS} (hs : mStep P b M i pc L st S = some nx) : mOne P b rec d M i pc L st S = rec d M nx.1 nx.2.1 nx.2.2.1 nx.2.2.2 := by
  unfold mOne
  split
  · cases hs
  · cases hs
  · cases hs
  · cases hs
  · cases hs
  · cases hs
  · cases hs
  · rw [hs]
theorem mx_ret {rec : mF} {d : Nat} {M : mM} {i : Instr} {pc : Nat} {L : mL} {r : Option Value} {S : mS} (h : mIsRet M i r) : mOne P b rec d M i pc L r.toList S = some (r, S) := by
  rcases h with ⟨rfl, rfl, h0⟩ | ⟨v, ty, rfl, rfl, h0, h1⟩ | ⟨v, rfl, rfl, h0⟩ | ⟨v, rt, rfl, rfl, h0, ⟨n, rfl⟩ | ⟨n, rfl⟩⟩
  · simp [mOne, mRetn, h0]
  · simp [mOne, mRetn, h0, h1]
  · simp [mOne, mRetn, h0]
  · simp [mOne, mRetn, h0]
  · simp [mOne, mRetn, h0]
theorem mx_in {rec : mF} {d : Nat} {M : mM} {kd k pc : Nat} {L : mL} {st : List Value} {S : mS} : mOne P b rec d M (mIn kd k) pc L st S = mGo P b rec d M (mIn kd k) k pc L st S := by
  unfold mIn
  split <;> rfl
theorem mx_prim {rec : mF} {d' : Nat} {M : mM} {kd k q pc : Nat} {L : mL} {st st1 : List Value} {S S1 : mS} (hc : P.2.2.1 (mTag M) k = some (kd, .inr q)) (hL : L.length = mMax M) (hp : mPrim b q st S = some (st1, S1)) (hw : mWide st1 = true) : mOne P b rec (d' + 1) M (mIn kd k) pc L st S = rec (d' + 1) M (pc + 3) L st1 S1 := by
  rw [mx_in]
  simp [mGo, hc, hL, hp, hw]
theorem mx_call {rec : mF} {d' : Nat} {M M' : mM} {kd k q pc : Nat} {L : mL} {st : List Value} {S S1 : mS} {r1 : Option Value} (hc : P.2.2.1 (mTag M) k = some (kd, .inl q)) (hm : P.2.2.2.2.2 q = some M') (hmay : mMay kd M M' L st S = true) (hr : rec d' M' 0 (mEn (st.take (mNa M')).reverse (mMax M')) [] S = some (r1, S1)) : mOne P b rec (d' + 1) M (mIn kd k) pc L st S = rec (d' + 1) M (pc + 3) L (r1.toList ++ st.drop (mNa M')) S1 := by
  rw [mx_in]
  simp [mGo, hc, hm, hmay, hr]
theorem mx_one {n d : Nat} {M : mM} {i : Instr} {len pc : Nat} {L : mL} {st : List Value} {S : mS} (hd : decode (mCode M) pc = .ok (i, len)) (hl : mLen i = 0 ∨ mLen i = len) : mExec P b (n + 1) d M pc L st S = mOne P b (mExec P b n) d M i pc L st S := by
  show (match decode (mCode M) pc with
    | .error _ => none
    | .ok (i, len) => if mLen i = 0 ∨ mLen i = len then mOne P b (mExec P b n) d M i pc L st S else none) = _
  rw [hd]
  exact if_pos hl
/-- more fuel and more depth do no harm -/
theorem mExec_more : ∀ (n n' d d' : Nat) (M : mM) (pc : Nat) (L : mL) (st : List Value) (S : mS) (x : Option Value × mS), n ≤ n' → d ≤ d' → mExec P b n d M pc L st S = some x → mExec P b n' d' M pc L st S = some x := by
  intro n
  induction n with
  | zero => intro n' d d' M pc L st S x _ _ h; cases h
  | succ n ih =>
    intro n' d d' M pc L st S x hn hd h
    obtain ⟨r, S'⟩ := x
    obtain ⟨i, len, hdg, hl, hw⟩ := mExec_inv h
    obtain ⟨k, rfl⟩ : ∃ k, n' = k + 1 := ⟨n' - 1, by omega⟩
    rw [mx_one hdg hl]
    rcases hw with ⟨hr, rfl, rfl⟩ | ⟨nx, hs, h2⟩ | ⟨kd, k9, q, d1, st1, S1, rfl, rfl, hc, hL, hp, hwd, h2⟩ | ⟨kd, k9, q, d1, M', r1, S1, rfl, rfl, hc, hm, hmay, h1, h2⟩
    · exact mx_ret hr
    · rw [mx_step hs]
      exact ih _ _ _ _ _ _ _ _ _ (by omega) hd h2
    · obtain ⟨d2, rfl⟩ : ∃ k, d' = k + 1 := ⟨d' - 1, by omega⟩
      rw [mx_prim hc hL hp hwd]
      exact ih _ _ _ _ _ _ _ _ _ (by omega) hd h2
    · obtain ⟨d2, rfl⟩ : ∃ k, d' = k + 1 := ⟨d' - 1, by omega⟩
      rw [mx_call hc hm hmay (ih _ _ _ _ _ _ _ _ _ (by omega) (by omega) h1)]
      exact ih _ _ _ _ _ _ _ _ _ (by omega) hd h2
/-- it comes to an end, with Q of the answer and of the heap -/
def mW (P : mP) (b d : Nat) (M : mM) (pc : Nat) (L : mL) (st : List Value) (S : mS) (Q : Option Value → mS → Prop) : Prop := ∃ (n : Nat) (r : Option Value) (S' : mS), mExec P b n d M pc L st S = some (r, S') ∧ Q r S'
/-- a call -/
def mCW (P : mP) (b d : Nat) (M : mM) (as : List Value) (S : mS) (Q : Option Value → mS → Prop) : Prop := (mArg as).length ≤ mMax M ∧ mW P b d M 0 (mEn as (mMax M)) [] S Q
theorem mW.mono {d d' : Nat} {M : mM} {pc : Nat} {L : mL} {st : List Value} {S : mS} {Q Q' : Option Value → mS → Prop} (h : mW P b d M pc L st S Q) (hd : d ≤ d') (hq : ∀ r S', Q r S' → Q' r S') : mW P b d' M pc L st S Q' := by
  obtain ⟨n, r, S', h1, h2⟩ := h
  exact ⟨n, r, S', mExec_more n n d d' M pc L st S _ (Nat.le_refl _) hd h1, hq r S' h2⟩
theorem mCW.mono {d d' : Nat} {M : mM} {as : List Value} {S : mS} {Q Q' : Option Value → mS → Prop} (h : mCW P b d M as S Q) (hd : d ≤ d') (hq : ∀ r S', Q r S' → Q' r S') : mCW P b d' M as S Q' := ⟨h.1, h.2.mono hd hq⟩
variable {d : Nat} {M : mM} {pc : Nat} {L : mL} {st : List Value} {S : mS} {Q : Option Value → mS → Prop}
theorem mw_step {i : Instr} {len : Nat} {nx : Nat × mL × List Value × mS} (hd : decode (mCode M) pc = .ok (i, len)) (hl : mLen i = 0 ∨ mLen i = len) (hs : mStep P b M i pc L st S = some nx) (k : mW P b d M nx.1 nx.2.1 nx.2.2.1 nx.2.2.2 Q) : mW P b d M pc L st S Q := by
  obtain ⟨n, r, S', h1, h2⟩ := k
  exact ⟨n + 1, r, S', by rw [mx_one hd hl, mx_step hs]; exact h1, h2⟩
theorem mw_ret {i : Instr} {len : Nat} {r : Option Value} (hd : decode (mCode M) pc = .ok (i, len)) (hl : mLen i = 0 ∨ mLen i = len) (hr : mIsRet M i r) (hst : st = r.toList) (hq : Q r S) : mW P b d M pc L st S Q := by
  subst hst
  exact ⟨1, r, S, by rw [mx_one hd hl]; exact mx_ret hr, hq⟩
theorem mw_call {M' : mM} {kd k q : Nat} (hd : decode (mCode M) pc = .ok (mIn kd k, 3)) (hl : mLen (mIn kd k) = 3) (hc : P.2.2.1 (mTag M) k = some (kd, .inl q)) (hm : P.2.2.2.2.2 q = some M') (hmay : mMay kd M M' L st S = true)
    (k : mW P b d M' 0 (mEn (st.take (mNa M')).reverse (mMax M')) [] S (fun r S1 => mW P b (d + 1) M (pc + 3) L (r.toList ++ st.drop (mNa M')) S1 Q)) : mW P b (d + 1) M pc L st S Q := by
  obtain ⟨n, r, S1, h1, n2, r2, S2, h2, hq⟩ := k
  refine ⟨n + n2 + 1, r2, S2, ?_, hq⟩
  rw [mx_one hd (Or.inr hl), mx_call hc hm hmay (mExec_more n (n + n2) d d M' _ _ _ _ _ (by omega) (Nat.le_refl _) h1)]
  exact mExec_more n2 (n + n2) _ _ _ _ _ _ _ _ (by omega) (Nat.le_refl _) h2
theorem mw_prim {kd k q : Nat} {st1 : List Value} {S1 : mS} (hd : decode (mCode M) pc = .ok (mIn kd k, 3)) (hl : mLen (mIn kd k) = 3) (hc : P.2.2.1 (mTag M) k = some (kd, .inr q)) (hL : L.length = mMax M) (hp : mPrim b q st S = some (st1, S1)) (hw : mWide st1 = true) (k : mW P b (d + 1) M (pc + 3) L st1 S1 Q) : mW P b (d + 1) M pc L st S Q := by
  obtain ⟨n, r, S', h1, h2⟩ := k
  exact ⟨n + 1, r, S', by rw [mx_one hd (Or.inr hl), mx_prim hc hL hp hw]; exact h1, h2⟩
end MWP
