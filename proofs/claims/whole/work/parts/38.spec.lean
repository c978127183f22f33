/-! WORDS FOR TEXTS: bytes u, n of them; ck: the byte at a place, 300 behind the end -/
theorem gI_gI {T : gT} {k j : Nat} {x y : Int32} : gI (gI T k j x) k j y = gI T k j y := by
  unfold gI
  dsimp only
  congr 1
  funext a
  by_cases e : a = k
  · subst e
    rw [va_up_self, va_up_self, va_up_self]
    funext c
    unfold upd
    split <;> rfl
  · rw [va_up_ne _ _ e, va_up_ne _ _ e, va_up_ne _ _ e]
theorem gI_same {T : gT} {k j : Nat} {x : Int32} (h : T.1 k j = x) : gI T k j x = T := by
  unfold gI
  have e : va_up T.1 k (upd (T.1 k) j x) = T.1 := by
    funext a
    by_cases e : a = k
    · subst e
      rw [va_up_self]
      funext c
      unfold upd
      split
      · rename_i q; rw [q, h]
      · rfl
    · rw [va_up_ne _ _ e]
  rw [e]
theorem gI_comm {T : gT} {k j k2 j2 : Nat} {x y : Int32} (h : ¬ (k = k2 ∧ j = j2)) : gI (gI T k j x) k2 j2 y = gI (gI T k2 j2 y) k j x := by
  have e : ∀ a c, (gI (gI T k j x) k2 j2 y).1 a c = (gI (gI T k2 j2 y) k j x).1 a c := by
    intro a c
    rw [gI_I, gI_I, gI_I, gI_I]
    by_cases h1 : a = k ∧ c = j
    · by_cases h2 : a = k2 ∧ c = j2
      · exact absurd ⟨h1.1.symm.trans h2.1, h1.2.symm.trans h2.2⟩ h
      · rw [if_neg h2, if_pos h1, if_pos h1]
    · rw [if_neg h1, if_neg h1]
  have e2 : (gI (gI T k j x) k2 j2 y).1 = (gI (gI T k2 j2 y) k j x).1 := funext fun a => funext fun c => e a c
  exact Prod.ext e2 rfl
def ck (u : Nat → Nat) (n p : Nat) : Nat := if p < n then u p else 300
/-- what peek answers of it -/
def mCh (v : Nat) : Int32 := if v < 256 then nI v else -1
/-- a text in the memory, at place k -/
def mTx (T : gT) (k : Nat) (u : Nat → Nat) : Prop := ∀ i, i < 400 → u i < 256 ∧ T.1 k i = sb_b (u i)
theorem mCh_in {u : Nat → Nat} {n p : Nat} (h : p < n) (hu : u p < 256) : sb_b (u p) &&& nI 255 = mCh (ck u n p) := by
  unfold ck mCh
  rw [if_pos h, if_pos hu]
  exact (sb_byte _ hu).1
theorem mCh_out {u : Nat → Nat} {n p : Nat} (h : n ≤ p) : (-1 : Int32) = mCh (ck u n p) := by
  unfold ck mCh
  rw [if_neg (show ¬ p < n by omega)]
  rfl
def xL (x : Int32) : Bool := decide (nI 97 ≤ x) && decide (x ≤ nI 122)
def xD (x : Int32) : Bool := decide (nI 48 ≤ x) && decide (x ≤ nI 57)
theorem xL_a {x : Int32} (h : x < nI 97) : ¬ xL x = true := by
  unfold xL
  rw [decide_eq_false (Int32.not_le.mpr h)]
  simp
theorem xL_b {x : Int32} (h : nI 122 < x) : ¬ xL x = true := by
  unfold xL
  rw [decide_eq_false (p := x ≤ nI 122) (Int32.not_le.mpr h)]
  simp
theorem xL_c {x : Int32} (h : ¬ x < nI 97) (h2 : ¬ nI 122 < x) : xL x = true := by
  unfold xL
  rw [decide_eq_true (Int32.not_lt.mp h), decide_eq_true (Int32.not_lt.mp h2)]
  rfl
theorem xD_a {x : Int32} (h : x < nI 48) : ¬ xD x = true := by
  unfold xD
  rw [decide_eq_false (Int32.not_le.mpr h)]
  simp
theorem xD_b {x : Int32} (h : nI 57 < x) : ¬ xD x = true := by
  unfold xD
  rw [decide_eq_false (p := x ≤ nI 57) (Int32.not_le.mpr h)]
  simp
theorem xD_c {x : Int32} (h : ¬ x < nI 48) (h2 : ¬ nI 57 < x) : xD x = true := by
  unfold xD
  rw [decide_eq_true (Int32.not_lt.mp h), decide_eq_true (Int32.not_lt.mp h2)]
  rfl
def nL (v : Nat) : Bool := decide (97 ≤ v) && decide (v ≤ 122)
def nD (v : Nat) : Bool := decide (48 ≤ v) && decide (v ≤ 57)
theorem xL_ch : ∀ v, v < 301 → xL (mCh v) = nL v := by decide +kernel
theorem xD_ch : ∀ v, v < 301 → xD (mCh v) = nD v := by decide +kernel
theorem xL_sb : ∀ v, v < 256 → xL (sb_b v) = nL v := by decide +kernel
theorem xD_sb : ∀ v, v < 256 → xD (sb_b v) = nD v := by decide +kernel
theorem ch_eq : ∀ v, v < 301 → ∀ c, c < 256 → (mCh v = nI c ↔ v = c) := by
  intro v hv c hc
  unfold mCh
  split
  · rename_i h
    exact nI_eq (by omega) (by omega)
  · rename_i h
    constructor
    · intro q
      exact absurd (show nI c < 0 by rw [← q]; decide) (nI_pos (by omega))
    · intro q; omega
theorem ck_lt {u : Nat → Nat} {n p : Nat} (h : ∀ i, i < 400 → u i < 256) (hn : n ≤ 400) : ck u n p < 301 := by
  unfold ck
  split
  · have := h p (by omega); omega
  · omega
/-- behind blanks -/
def skF (u : Nat → Nat) : Nat → Nat → Nat
  | 0, p => p
  | k + 1, p => if u p = 32 ∨ u p = 10 then skF u k (p + 1) else p
def sk (u : Nat → Nat) (n p : Nat) : Nat := skF u (n - p) p
theorem sk_y {u : Nat → Nat} {n p : Nat} (h : p < n) (hb : u p = 32 ∨ u p = 10) : sk u n p = sk u n (p + 1) := by
  unfold sk
  rw [show n - p = (n - (p + 1)) + 1 by omega, skF, if_pos hb]
theorem sk_n {u : Nat → Nat} {n p : Nat} (h : ¬ (p < n ∧ (u p = 32 ∨ u p = 10))) : sk u n p = p := by
  unfold sk
  cases hk : n - p with
  | zero => rfl
  | succ k => rw [skF, if_neg (fun z => h ⟨by omega, z⟩)]
theorem sk_ge {u : Nat → Nat} {n : Nat} : ∀ (k p : Nat), n ≤ p + k → p ≤ sk u n p ∧ (sk u n p ≤ n ∨ sk u n p = p) := by
  intro k
  induction k with
  | zero => intro p h; rw [sk_n (fun q => by omega)]; exact ⟨Nat.le_refl _, Or.inr rfl⟩
  | succ k ih =>
    intro p h
    by_cases q : p < n ∧ (u p = 32 ∨ u p = 10)
    · rw [sk_y q.1 q.2]
      obtain ⟨h1, h2⟩ := ih (p + 1) (by omega)
      refine ⟨by omega, ?_⟩
      rcases h2 with h2 | h2
      · exact Or.inl h2
      · exact Or.inl (by omega)
    · rw [sk_n q]; exact ⟨Nat.le_refl _, Or.inr rfl⟩
/-- behind a word -/
def weF (u : Nat → Nat) : Nat → Nat → Nat
  | 0, p => p
  | k + 1, p => if nL (u p) = true ∨ nD (u p) = true then weF u k (p + 1) else p
def we (u : Nat → Nat) (n p : Nat) : Nat := weF u (n - p) p
theorem we_y {u : Nat → Nat} {n p : Nat} (h : p < n) (hb : nL (u p) = true ∨ nD (u p) = true) : we u n p = we u n (p + 1) := by
  unfold we
  rw [show n - p = (n - (p + 1)) + 1 by omega, weF, if_pos hb]
theorem we_n {u : Nat → Nat} {n p : Nat} (h : ¬ (p < n ∧ (nL (u p) = true ∨ nD (u p) = true))) : we u n p = p := by
  unfold we
  cases hk : n - p with
  | zero => rfl
  | succ k => rw [weF, if_neg (fun z => h ⟨by omega, z⟩)]
theorem we_ge {u : Nat → Nat} {n : Nat} : ∀ (k p : Nat), n ≤ p + k → p ≤ we u n p ∧ (we u n p ≤ n ∨ we u n p = p) := by
  intro k
  induction k with
  | zero => intro p h; rw [we_n (fun q => by omega)]; exact ⟨Nat.le_refl _, Or.inr rfl⟩
  | succ k ih =>
    intro p h
    by_cases q : p < n ∧ (nL (u p) = true ∨ nD (u p) = true)
    · rw [we_y q.1 q.2]
      obtain ⟨h1, h2⟩ := ih (p + 1) (by omega)
      refine ⟨by omega, ?_⟩
      rcases h2 with h2 | h2
      · exact Or.inl h2
      · exact Or.inl (by omega)
    · rw [we_n q]; exact ⟨Nat.le_refl _, Or.inr rfl⟩
/-- an expr is begun in the reference's cells: p the program, n its place -/
def mBeg (T : gT) (p n : Nat) (k v u : Int32) : gT := gI (gI (gI (gI (gI (gI (gI (gI T 2 p (nI (n + 1))) 4 (7 * (200 * p + n) + 0) k) 4 (7 * (200 * p + n) + 1) v) 4 (7 * (200 * p + n) + 2) (-1)) 4 (7 * (200 * p + n) + 3) (-1)) 4 (7 * (200 * p + n) + 4) (-1)) 4 (7 * (200 * p + n) + 5) (-1)) 4 (7 * (200 * p + n) + 6) u
theorem ck_is {u : Nat → Nat} {n p c : Nat} (h : ck u n p = c) (hc : c < 256) : p < n ∧ u p = c := by
  unfold ck at h
  by_cases q : p < n
  · rw [if_pos q] at h; exact ⟨q, h⟩
  · rw [if_neg q] at h; omega
theorem ite_nz {c : Prop} [Decidable c] (h : ¬ (if c then (1 : Int32) else 0) = 0) : c := by
  by_cases q : c
  · exact q
  · rw [if_neg q] at h; exact absurd rfl h
theorem ite_z {c : Prop} [Decidable c] (h : (if c then (1 : Int32) else 0) = 0) : ¬ c := by
  intro q
  rw [if_pos q] at h
  exact absurd h (by decide)
theorem mTx.lt {T : gT} {k : Nat} {u : Nat → Nat} (h : mTx T k u) : ∀ i, i < 400 → u i < 256 := fun i hi => (h i hi).1
/-- a peek that equals a byte -/
theorem pk_is {T : gT} {u : Nat → Nat} {n p c : Nat} (hx : mTx T 1 u) (hn : n ≤ 400) (hc : c < 256) (h : mCh (ck u n p) = nI c) : p < n ∧ u p = c := ck_is ((ch_eq _ (ck_lt hx.lt hn) c hc).mp h) hc
theorem pk_no {T : gT} {u : Nat → Nat} {n p c : Nat} (hx : mTx T 1 u) (hn : n ≤ 400) (hc : c < 256) (h : ¬ mCh (ck u n p) = nI c) : ¬ (p < n ∧ u p = c) := by
  intro ⟨h1, h2⟩
  refine h ((ch_eq _ (ck_lt hx.lt hn) c hc).mpr ?_)
  unfold ck
  rw [if_pos h1]
  exact h2
