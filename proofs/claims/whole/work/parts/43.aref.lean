/-! THE REFERENCE over whole numbers: its cells, letters, digits -/
/-- cell w of expr l in program p -/
def cV (T : gT) (p l w : Nat) : Int := vI T 4 (7 * (200 * p + l) + w)
def cS (T : gT) (p l w : Nat) (v : Int) : gT := gI T 4 (7 * (200 * p + l) + w) (zI v)
def zL (c : Int) : Bool := decide (97 ≤ c) && decide (c ≤ 122)
def zD (c : Int) : Bool := decide (48 ≤ c) && decide (c ≤ 57)
theorem cI_z {c : Prop} [Decidable c] : zI (if c then 1 else 0) = if c then (1 : Int32) else 0 := by
  split <;> rfl
theorem xL_z {z : Int} (h : -2147483648 ≤ z ∧ z < 2147483648) : xL (zI z) = zL z := by
  unfold xL zL
  rw [zI_nat, zI_nat, decide_eq_decide.mpr (zI_le (x := ((97 : Nat) : Int)) (by decide) h), decide_eq_decide.mpr (zI_le (y := ((122 : Nat) : Int)) h (by decide))]
  rfl
theorem xD_z {z : Int} (h : -2147483648 ≤ z ∧ z < 2147483648) : xD (zI z) = zD z := by
  unfold xD zD
  rw [zI_nat, zI_nat, decide_eq_decide.mpr (zI_le (x := ((48 : Nat) : Int)) (by decide) h), decide_eq_decide.mpr (zI_le (y := ((57 : Nat) : Int)) h (by decide))]
  rfl
theorem c_zL (sa : Nat → Nat) (b : Nat) (E : Nat × mH) (d : Nat) (T : gT) {z : Int} (h : -2147483648 ≤ z ∧ z < 2147483648) : gC (tP sa) lM b E d mX7_isLetter [.int (zI z)] T (fun r T' => r = some (.int (zI (if zL z = true then 1 else 0))) ∧ T' = T) := by
  have := c_isLetter sa b E d T (zI z)
  rw [xL_z h, ← cI_z] at this
  exact this
theorem c_zD (sa : Nat → Nat) (b : Nat) (E : Nat × mH) (d : Nat) (T : gT) {z : Int} (h : -2147483648 ≤ z ∧ z < 2147483648) : gC (tP sa) lM b E d mX7_isDigit [.int (zI z)] T (fun r T' => r = some (.int (zI (if zD z = true then 1 else 0))) ∧ T' = T) := by
  have := c_isDigit sa b E d T (zI z)
  rw [xD_z h, ← cI_z] at this
  exact this
theorem zn_of {z : Int} (h : 0 ≤ z) : zI z = nI z.toNat := by rw [zI_nat, Int.toNat_of_nonneg h]
theorem c_atZ (sa : Nat → Nat) (b : Nat) (E : Nat × mH) (d : Nat) (T : gT) {p l w : Int} (hp : 0 ≤ p ∧ p < 2) (hl : 0 ≤ l ∧ l < 200) (hw : 0 ≤ w ∧ w < 7) : gC (tP sa) lM b E d mX7_at [.ref (b + 0), .int (zI p), .int (zI l), .int (zI w)] T (fun r T' => r = some (.int (zI (cV T p.toNat l.toNat w.toNat))) ∧ T' = T) := by
  rw [zn_of hp.1, zn_of hl.1, zn_of hw.1]
  have := c_at sa b E d T p.toNat l.toNat w.toNat (by omega)
  rw [← zI_v] at this
  exact this
theorem c_setZ (sa : Nat → Nat) (b : Nat) (E : Nat × mH) (d : Nat) (T : gT) {p l w v : Int} (hp : 0 ≤ p ∧ p < 2) (hl : 0 ≤ l ∧ l < 200) (hw : 0 ≤ w ∧ w < 7) : gC (tP sa) lM b E d mX7_set [.ref (b + 0), .int (zI p), .int (zI l), .int (zI w), .int (zI v)] T (fun r T' => r = none ∧ T' = cS T p.toNat l.toNat w.toNat v) := by
  rw [zn_of hp.1, zn_of hl.1, zn_of hw.1]
  exact c_set sa b E d T p.toNat l.toNat w.toNat (zI v) (by omega)
theorem c_getZ (sa : Nat → Nat) (b : Nat) (E : Nat × mH) (d : Nat) (T : gT) {n l w : Int} (hn : T.1 0 3 = zI n) (hp : n = 0 ∨ n = 1) (hl : 0 ≤ l ∧ l < 200) (hw : 0 ≤ w ∧ w < 7) : gC (tP sa) lM b E (d + 1) mX7_get [.ref (b + 0), .int (zI l), .int (zI w)] T (fun r T' => r = some (.int (zI (cV T n.toNat l.toNat w.toNat))) ∧ T' = T) := by
  rw [zn_of hl.1, zn_of hw.1]
  have := c_get sa b E d T (p := n.toNat) l.toNat w.toNat (by rw [hn, zn_of (by omega)]) (by omega) (by omega) (by omega)
  rw [← zI_v] at this
  exact this
/-- the static rows: parts of a kind, signs of the operations -/
def stA : List Nat := [0, 0, 1, 1, 3, 2, 2, 2, 2, 2, 2, 2]
def stB : List Nat := [43, 45, 42, 61, 60]
def mSta (sa : Nat → Nat) (b : Nat) (E : Nat × mH) : Prop := (sa 100 < b ∧ ∃ f : Nat → Int32, E.2 (sa 100) = some (.inl (.int, 12, .inl f)) ∧ ∀ i, i < 12 → f i = zI ((stA.getD i 0 : Nat) : Int)) ∧ (sa 101 < b ∧ ∃ f : Nat → Int32, E.2 (sa 101) = some (.inl (.int, 5, .inl f)) ∧ ∀ i, i < 5 → f i = zI ((stB.getD i 0 : Nat) : Int))
theorem c_charZ (sa : Nat → Nat) (d : Nat) (T : gT) {lay : List mDs} {b : Nat} {E : Nat × mH} {a : Nat} {z : Int} {s : List Nat} (hs : mStr E b a s) (h0 : 0 ≤ z) (h1 : z < (s.length : Int)) : gC (tP sa) lay b E (d + 3) mJ0_charAt_5068e [.ref a, .int (zI z)] T (fun r T' => r = some (.int (nI (s.getD z.toNat 0))) ∧ T' = T) := by
  rw [zn_of h0]
  exact c_charAt sa d T hs (by omega)
