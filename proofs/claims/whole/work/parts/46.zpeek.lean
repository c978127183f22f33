/-! THE REFERENCE over whole numbers: small methods of its reading -/
/-- the byte at a place, -1 behind the end -/
def cz (u : Nat → Nat) (n p : Nat) : Int := if p < n then (u p : Int) else -1
theorem mCh_cz {u : Nat → Nat} {n p : Nat} (h : p < n → u p < 256) : mCh (ck u n p) = zI (cz u n p) := by
  unfold mCh ck cz
  by_cases q : p < n
  · rw [if_pos q, if_pos q, if_pos (h q)]; rfl
  · rw [if_neg q, if_neg q, if_neg (by omega)]; rfl
theorem cz_rg {u : Nat → Nat} {n p : Nat} (h : p < n → u p < 256) : -1 ≤ cz u n p ∧ cz u n p < 256 := by
  unfold cz
  split
  · rename_i q; have := h q; omega
  · omega
theorem zL_nat (v : Nat) : zL (v : Int) = nL v := by
  unfold zL nL
  rw [decide_eq_decide.mpr (show (97 : Int) ≤ (v : Int) ↔ 97 ≤ v by omega), decide_eq_decide.mpr (show (v : Int) ≤ 122 ↔ v ≤ 122 by omega)]
theorem zD_nat (v : Nat) : zD (v : Int) = nD v := by
  unfold zD nD
  rw [decide_eq_decide.mpr (show (48 : Int) ≤ (v : Int) ↔ 48 ≤ v by omega), decide_eq_decide.mpr (show (v : Int) ≤ 57 ↔ v ≤ 57 by omega)]
theorem zL_iff {c : Int} : zL c = true ↔ 97 ≤ c ∧ c ≤ 122 := by unfold zL; simp
theorem zD_iff {c : Int} : zD c = true ↔ 48 ≤ c ∧ c ≤ 57 := by unfold zD; simp
theorem nL_iff {c : Nat} : nL c = true ↔ 97 ≤ c ∧ c ≤ 122 := by unfold nL; simp
theorem nD_iff {c : Nat} : nD c = true ↔ 48 ≤ c ∧ c ≤ 57 := by unfold nD; simp
theorem cz_in {u : Nat → Nat} {n p : Nat} (h : p < n) : cz u n p = (u p : Int) := if_pos h
theorem cz_lt {u : Nat → Nat} {n p : Nat} (h : 0 ≤ cz u n p) : p < n := by
  unfold cz at h
  by_cases q : p < n
  · exact q
  · rw [if_neg q] at h; omega
/-- the text of the reference: bytes u, n of them -/
def tx (T : gT) (u : Nat → Nat) (n : Nat) : Prop := mTx T 1 u ∧ vI T 0 2 = (n : Int) ∧ n ≤ 400
theorem tx.b {T : gT} {u : Nat → Nat} {n : Nat} (h : tx T u n) {i : Nat} (hi : i < 400) : u i < 256 := (h.1 i hi).1
theorem tx.n {T : gT} {u : Nat → Nat} {n : Nat} (h : tx T u n) : n ≤ 400 := h.2.2
theorem sb_pos {v : Nat} (h : v < 128) : (sb_b v).toInt = (v : Int) := by
  have : ∀ v, v < 128 → (sb_b v).toInt = (v : Int) := by decide +kernel
  exact this v h
theorem tx.v {T : gT} {u : Nat → Nat} {n : Nat} (h : tx T u n) {i : Nat} (hi : i < 400) (hu : u i < 128) : vI T 1 i = (u i : Int) := by
  unfold vI
  rw [(h.1 i hi).2, sb_pos hu]
theorem tx.sD {T : gT} {u : Nat → Nat} {n : Nat} (h : tx T u n) {i : Nat} (hi : i < 400) : zD (vI T 1 i) = nD (u i) := by
  have : ∀ v, v < 256 → zD (sb_b v).toInt = nD v := by decide +kernel
  unfold vI
  rw [(h.1 i hi).2, this _ (h.1 i hi).1]
theorem tx.sL {T : gT} {u : Nat → Nat} {n : Nat} (h : tx T u n) {i : Nat} (hi : i < 400) : zL (vI T 1 i) = nL (u i) := by
  have : ∀ v, v < 256 → zL (sb_b v).toInt = nL v := by decide +kernel
  unfold vI
  rw [(h.1 i hi).2, this _ (h.1 i hi).1]
theorem tx.sE {T : gT} {u : Nat → Nat} {n : Nat} (h : tx T u n) {i c : Nat} (hi : i < 400) (hc : c < 128) : vI T 1 i = (c : Int) ↔ u i = c := by
  have : ∀ v : Nat, v < 256 → ∀ c : Nat, c < 128 → ((sb_b v).toInt = (c : Int) ↔ v = c) := by decide +kernel
  unfold vI
  rw [(h.1 i hi).2, this _ (h.1 i hi).1 c hc]
/-- a text stays where its cells do -/
theorem tx.of {T T' : gT} {u : Nat → Nat} {n : Nat} (h : tx T u n) (h1 : ∀ i, T'.1 1 i = T.1 1 i) (h2 : T'.1 0 2 = T.1 0 2) : tx T' u n := ⟨fun i hi => ⟨(h.1 i hi).1, (h1 i).trans (h.1 i hi).2⟩, by unfold vI; rw [h2]; exact h.2.1, h.2.2⟩
theorem tx.gI {T : gT} {u : Nat → Nat} {n : Nat} (h : tx T u n) {k j : Nat} {x : Int32} (h1 : k ≠ 1) (h2 : ¬ (k = 0 ∧ j = 2)) : tx (gI T k j x) u n := h.of (fun i => by rw [gI_I, if_neg (fun e => h1 e.1.symm)]) (by rw [gI_I, if_neg (fun e => h2 ⟨e.1.symm, e.2.symm⟩)])
theorem sk_le {u : Nat → Nat} {n p : Nat} (h : p ≤ n) : p ≤ sk u n p ∧ sk u n p ≤ n := by
  obtain ⟨h1, h2⟩ := sk_ge (u := u) (n := n) n p (by omega)
  omega
theorem we_le {u : Nat → Nat} {n p : Nat} (h : p ≤ n) : p ≤ we u n p ∧ we u n p ≤ n := by
  obtain ⟨h1, h2⟩ := we_ge (u := u) (n := n) n p (by omega)
  omega
theorem sk_sk {u : Nat → Nat} {n p : Nat} : sk u n (sk u n p) = sk u n p := by
  have key : ∀ (k p : Nat), n - p = k → sk u n (sk u n p) = sk u n p := by
    intro k
    induction k with
    | zero => intro p h; rw [sk_n (p := p) (fun q => by omega), sk_n (p := p) (fun q => by omega)]
    | succ k ih =>
      intro p h
      by_cases q : p < n ∧ (u p = 32 ∨ u p = 10)
      · rw [sk_y q.1 q.2]; exact ih (p + 1) (by omega)
      · rw [sk_n q, sk_n q]
  exact key _ p rfl
/-- the bytes of a word are letters and digits -/
theorem we_in {u : Nat → Nat} {n : Nat} : ∀ (k p i : Nat), n - p = k → p ≤ i → i < we u n p → nL (u i) = true ∨ nD (u i) = true := by
  intro k
  induction k with
  | zero => intro p i h h1 h2; rw [we_n (fun q => by omega)] at h2; omega
  | succ k ih =>
    intro p i h h1 h2
    by_cases q : p < n ∧ (nL (u p) = true ∨ nD (u p) = true)
    · rw [we_y q.1 q.2] at h2
      by_cases e : i = p
      · rw [e]; exact q.2
      · exact ih (p + 1) i (by omega) (by omega) h2
    · rw [we_n q] at h2; omega
theorem we_128 {u : Nat → Nat} {n p i : Nat} (h1 : p ≤ i) (h2 : i < we u n p) : u i < 128 := by
  rcases we_in _ p i rfl h1 h2 with h | h
  · rw [nL_iff] at h; omega
  · rw [nD_iff] at h; omega
section KZ
variable {sa : Nat → Nat} {b : Nat} {E : Nat × mH} {d : Nat} {T : gT} {u : Nat → Nat} {n : Nat}
theorem k_peek {p : Nat} {φ : Int → gT → Prop} (ht : tx T u n) (hp : vI T 0 20 = (p : Int)) (hp4 : p < 1000) (h : φ (cz u n p) T) : gC (tP sa) lM b E d mX7_peek [.ref (b + 0)] T (fun r T' => pI r (fun v => φ v T')) := by
  have := c_peek sa b E d T (u := u) (n := n) (p := p) ht.1 (vI_to hp) (vI_to ht.2.1) ht.2.2 hp4
  rw [mCh_cz (fun q => ht.b (by have := ht.n; omega))] at this
  exact this.toI h
theorem k_peekBehind {p : Nat} {φ : Int → gT → Prop} (ht : tx T u n) (hp : vI T 0 20 = (p : Int)) (hp4 : p < 1000) (h : φ (cz u n (p + 1)) T) : gC (tP sa) lM b E d mX7_peekBehind [.ref (b + 0)] T (fun r T' => pI r (fun v => φ v T')) := by
  have := c_peekBehind sa b E d T (u := u) (n := n) (p := p) ht.1 (vI_to hp) (vI_to ht.2.1) ht.2.2 hp4
  rw [mCh_cz (fun q => ht.b (by have := ht.n; omega))] at this
  exact this.toI h
theorem k_blanks {p : Nat} {φ : gT → Prop} (ht : tx T u n) (hp : vI T 0 20 = (p : Int)) (hp4 : p < 1000) (h : φ (gI T 0 20 (zI (sk u n p : Nat)))) : gC (tP sa) lM b E (d + 1) mX7_blanks [.ref (b + 0)] T (fun r T' => pV r (φ T')) :=
  (c_blanks sa b E d T (u := u) (n := n) (p := p) ht.1 (vI_to hp) (vI_to ht.2.1) ht.2.2 hp4).toV h
theorem k_wordEnd {p : Nat} {φ : Int → gT → Prop} (ht : tx T u n) (hp : vI T 0 20 = (p : Int)) (hp4 : p < 1000) (h : φ (we u n p : Nat) T) : gC (tP sa) lM b E (d + 1) mX7_wordEnd [.ref (b + 0)] T (fun r T' => pI r (fun v => φ v T')) :=
  (c_wordEnd sa b E d T (u := u) (n := n) (p := p) ht.1 (vI_to hp) (vI_to ht.2.1) ht.2.2 hp4).toI h
theorem k_fail0 {x : Int} {φ : Int → gT → Prop} (hw : vI T 0 22 = 0) (h : φ (-1) (gI (gI T 0 21 (zI x)) 0 22 (zI 1))) : gC (tP sa) lM b E d mX7_fail [.ref (b + 0), .int (zI x)] T (fun r T' => pI r (fun v => φ v T')) := by
  have := c_fail sa b E d T (zI x)
  rw [if_pos (show T.1 0 22 = 0 by rw [vI_to hw]; rfl)] at this
  exact this.toI h
theorem k_fail1 {x : Int} {φ : Int → gT → Prop} (hw : vI T 0 22 = 1) (h : φ (-1) T) : gC (tP sa) lM b E d mX7_fail [.ref (b + 0), .int (zI x)] T (fun r T' => pI r (fun v => φ v T')) := by
  have := c_fail sa b E d T (zI x)
  rw [if_neg (show ¬ T.1 0 22 = 0 by rw [vI_to hw]; decide), gI_same (show T.1 0 22 = nI 1 by rw [vI_to hw]; rfl)] at this
  exact this.toI h
theorem k_begin {p n1 : Nat} {k v w : Int} {φ : Int → gT → Prop} (hp : p < 2) (hn : n1 < 200) (he : vI T 2 p = (n1 : Int)) (h : φ (n1 : Int) (mBeg T p n1 (zI k) (zI v) (zI w))) : gC (tP sa) lM b E (d + 1) mX7_begin [.ref (b + 0), .int (zI (p : Int)), .int (zI k), .int (zI v), .int (zI w)] T (fun r T' => pI r (fun v => φ v T')) :=
  (c_begin sa b E d T p n1 (zI k) (zI v) (zI w) hp hn (vI_to he)).toI h
end KZ
