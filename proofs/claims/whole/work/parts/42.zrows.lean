/-! ROWS OVER WHOLE NUMBERS: zI z is the int of z; vI T k i the number in cell i of place k (printed by wip/whole/zrows.py) -/
def zI (z : Int) : Int32 := Int32.ofInt z
def vI (T : gT) (k i : Nat) : Int := (T.1 k i).toInt
theorem zI_t (x : Int32) : zI x.toInt = x := Int32.ofInt_toInt x
theorem zI_v (T : gT) (k i : Nat) : zI (vI T k i) = T.1 k i := Int32.ofInt_toInt _
theorem zI_i {z : Int} (h : -2147483648 ≤ z) (h2 : z < 2147483648) : (zI z).toInt = z := Int32.toInt_ofInt_of_le h h2
theorem vI_lo (T : gT) (k i : Nat) : -2147483648 ≤ vI T k i := Int32.le_toInt _
theorem vI_hi (T : gT) (k i : Nat) : vI T k i < 2147483648 := Int32.toInt_lt _
theorem zI_add (x y : Int) : zI x + zI y = zI (x + y) := (Int32.ofInt_add x y).symm
theorem zI_sub (x y : Int) : zI x - zI y = zI (x - y) := (Int32.ofInt_sub x y).symm
theorem zI_mul (x y : Int) : zI x * zI y = zI (x * y) := (Int32.ofInt_mul x y).symm
theorem zI_neg (x : Int) : -zI x = zI (-x) := (Int32.ofInt_neg x).symm
theorem zI_nat (n : Nat) : nI n = zI (n : Int) := rfl
theorem zI_eq {x y : Int} (hx : -2147483648 ≤ x ∧ x < 2147483648) (hy : -2147483648 ≤ y ∧ y < 2147483648) : zI x = zI y ↔ x = y := by
  constructor
  · intro h
    have := congrArg Int32.toInt h
    rwa [zI_i hx.1 hx.2, zI_i hy.1 hy.2] at this
  · intro h; rw [h]
theorem zI_lt {x y : Int} (hx : -2147483648 ≤ x ∧ x < 2147483648) (hy : -2147483648 ≤ y ∧ y < 2147483648) : zI x < zI y ↔ x < y := by
  rw [Int32.lt_iff_toInt_lt, zI_i hx.1 hx.2, zI_i hy.1 hy.2]
theorem zI_le {x y : Int} (hx : -2147483648 ≤ x ∧ x < 2147483648) (hy : -2147483648 ≤ y ∧ y < 2147483648) : zI x ≤ zI y ↔ x ≤ y := by
  rw [Int32.le_iff_toInt_le, zI_i hx.1 hx.2, zI_i hy.1 hy.2]
theorem zI_ix {z : Int} {n : Nat} (h0 : 0 ≤ z) (h1 : z < n) (hn : n < 2 ^ 31) : mIx (zI z) n = some z.toNat := by
  obtain ⟨k, rfl⟩ : ∃ k : Nat, z = k := ⟨z.toNat, by omega⟩
  exact mIx_nI (by omega) hn
theorem vI_gI {T : gT} {k j k2 j2 : Nat} {x : Int} (h : -2147483648 ≤ x ∧ x < 2147483648) : vI (gI T k j (zI x)) k2 j2 = if k2 = k ∧ j2 = j then x else vI T k2 j2 := by
  unfold vI
  rw [gI_I]
  split
  · exact zI_i h.1 h.2
  · rfl
theorem vI_ne {T : gT} {k j k2 j2 : Nat} {x : Int32} (h : ¬ (k2 = k ∧ j2 = j)) : vI (gI T k j x) k2 j2 = vI T k2 j2 := by
  unfold vI
  rw [gI_I, if_neg h]
theorem vI_eq {T : gT} {k j : Nat} {x : Int} (h : -2147483648 ≤ x ∧ x < 2147483648) : vI (gI T k j (zI x)) k j = x := by
  rw [vI_gI h, if_pos ⟨rfl, rfl⟩]
theorem vI_gJ {T : gT} {k j k2 j2 : Nat} {x : Int64} : vI (gJ T k j x) k2 j2 = vI T k2 j2 := rfl
theorem vI_of {T : gT} {k i n : Nat} (h : T.1 k i = nI n) (hn : n < 2147483648) : vI T k i = n := by
  unfold vI
  rw [h, zI_nat, zI_i (by omega) (by omega)]
theorem vI_to {T : gT} {k i : Nat} {z : Int} (h : vI T k i = z) : T.1 k i = zI z := by rw [← h, zI_v]
/-- an answer: a whole number, a long, nothing -/
abbrev pI (r : Option Value) (k : Int → Prop) : Prop := ∃ z, r = some (.int (zI z)) ∧ k z
abbrev pJ (r : Option Value) (k : Int64 → Prop) : Prop := ∃ x, r = some (.long x) ∧ k x
abbrev pV (r : Option Value) (k : Prop) : Prop := r = none ∧ k
/-- an int row, NONE beside it -/
def aI (T : gT) (k n : Nat) (z : Int) : Int := if 0 ≤ z ∧ z < n then vI T k z.toNat else -1
/-- a long row, 0 beside it -/
def aJ (T : gT) (k n : Nat) (z : Int) : Int64 := if 0 ≤ z ∧ z < n then T.2.1 k z.toNat else 0
section GZ
variable {P : mP} {lay : List mDs} {b : Nat} {E : Nat × mH} {d : Nat} {M : mM} {as : List Value} {pc : Nat} {L : mL} {st : List Value} {T : gT} {Q : Option Value → gT → Prop}
theorem gC.toI {z : Int} {F : gT} {φ : Int → gT → Prop} (h : gC P lay b E d M as T (fun r T' => r = some (.int (zI z)) ∧ T' = F)) (k : φ z F) : gC P lay b E d M as T (fun r T' => pI r (fun v => φ v T')) := h.mono (Nat.le_refl _) (by rintro _ _ ⟨rfl, rfl⟩; exact ⟨_, rfl, k⟩)
theorem gC.toV {F : gT} {φ : gT → Prop} (h : gC P lay b E d M as T (fun r T' => r = none ∧ T' = F)) (k : φ F) : gC P lay b E d M as T (fun r T' => pV r (φ T')) := h.mono (Nat.le_refl _) (by rintro _ _ ⟨rfl, rfl⟩; exact ⟨rfl, k⟩)
theorem gC.toJ {z : Int64} {F : gT} {φ : Int64 → gT → Prop} (h : gC P lay b E d M as T (fun r T' => r = some (.long z) ∧ T' = F)) (k : φ z F) : gC P lay b E d M as T (fun r T' => pJ r (fun v => φ v T')) := h.mono (Nat.le_refl _) (by rintro _ _ ⟨rfl, rfl⟩; exact ⟨_, rfl, k⟩)
theorem gC.goI {ψ φ : Int → gT → Prop} (h : gC P lay b E d M as T (fun r T' => pI r (fun v => ψ v T'))) (k : ∀ v T', ψ v T' → φ v T') : gC P lay b E d M as T (fun r T' => pI r (fun v => φ v T')) := h.mono (Nat.le_refl _) (by rintro _ _ ⟨v, rfl, h1⟩; exact ⟨_, rfl, k _ _ h1⟩)
theorem gC.goJ {ψ φ : Int64 → gT → Prop} (h : gC P lay b E d M as T (fun r T' => pJ r (fun v => ψ v T'))) (k : ∀ v T', ψ v T' → φ v T') : gC P lay b E d M as T (fun r T' => pJ r (fun v => φ v T')) := h.mono (Nat.le_refl _) (by rintro _ _ ⟨v, rfl, h1⟩; exact ⟨_, rfl, k _ _ h1⟩)
theorem gC.goV {ψ φ : gT → Prop} (h : gC P lay b E d M as T (fun r T' => pV r (ψ T'))) (k : ∀ T', ψ T' → φ T') : gC P lay b E d M as T (fun r T' => pV r (φ T')) := h.mono (Nat.le_refl _) (by rintro _ _ ⟨rfl, h1⟩; exact ⟨rfl, k _ h1⟩)
theorem g_iaddZ {x y : Int} (hd : decode (mCode M) pc = .ok (.iadd, 1)) (k : gW P lay b E d M (pc + 1) L (.int (zI (x + y)) :: st) T Q) : gW P lay b E d M pc L (.int (zI y) :: .int (zI x) :: st) T Q := g_iadd hd (by rw [zI_add]; exact k)
theorem g_isubZ {x y : Int} (hd : decode (mCode M) pc = .ok (.isub, 1)) (k : gW P lay b E d M (pc + 1) L (.int (zI (x - y)) :: st) T Q) : gW P lay b E d M pc L (.int (zI y) :: .int (zI x) :: st) T Q := g_isub hd (by rw [zI_sub]; exact k)
theorem g_imulZ {x y : Int} (hd : decode (mCode M) pc = .ok (.imul, 1)) (k : gW P lay b E d M (pc + 1) L (.int (zI (x * y)) :: st) T Q) : gW P lay b E d M pc L (.int (zI y) :: .int (zI x) :: st) T Q := g_imul hd (by rw [zI_mul]; exact k)
theorem g_iandZ {x y : Int} (hd : decode (mCode M) pc = .ok (.iand, 1)) (k : gW P lay b E d M (pc + 1) L (.int (zI (zI x &&& zI y).toInt) :: st) T Q) : gW P lay b E d M pc L (.int (zI y) :: .int (zI x) :: st) T Q := g_iand hd (by rw [zI_t] at k; exact k)
theorem g_iorZ {x y : Int} (hd : decode (mCode M) pc = .ok (.ior, 1)) (k : gW P lay b E d M (pc + 1) L (.int (zI (zI x ||| zI y).toInt) :: st) T Q) : gW P lay b E d M pc L (.int (zI y) :: .int (zI x) :: st) T Q := g_ior hd (by rw [zI_t] at k; exact k)
theorem g_ixorZ {x y : Int} (hd : decode (mCode M) pc = .ok (.ixor, 1)) (k : gW P lay b E d M (pc + 1) L (.int (zI (zI x ^^^ zI y).toInt) :: st) T Q) : gW P lay b E d M pc L (.int (zI y) :: .int (zI x) :: st) T Q := g_ixor hd (by rw [zI_t] at k; exact k)
theorem g_ishlZ {x y : Int} (hd : decode (mCode M) pc = .ok (.ishl, 1)) (k : gW P lay b E d M (pc + 1) L (.int (zI (zI x <<< (zI y &&& 31)).toInt) :: st) T Q) : gW P lay b E d M pc L (.int (zI y) :: .int (zI x) :: st) T Q := g_ishl hd (by rw [zI_t] at k; exact k)
theorem g_ishrZ {x y : Int} (hd : decode (mCode M) pc = .ok (.ishr, 1)) (k : gW P lay b E d M (pc + 1) L (.int (zI (zI x >>> (zI y &&& 31)).toInt) :: st) T Q) : gW P lay b E d M pc L (.int (zI y) :: .int (zI x) :: st) T Q := g_ishr hd (by rw [zI_t] at k; exact k)
theorem g_inegZ {x : Int} (hd : decode (mCode M) pc = .ok (.ineg, 1)) (k : gW P lay b E d M (pc + 1) L (.int (zI (-x)) :: st) T Q) : gW P lay b E d M pc L (.int (zI x) :: st) T Q := g_ineg hd (by rw [zI_neg]; exact k)
theorem g_i2bZ {x : Int} (hd : decode (mCode M) pc = .ok (.i2b, 1)) (k : gW P lay b E d M (pc + 1) L (.int (zI (zI x).toInt8.toInt32.toInt) :: st) T Q) : gW P lay b E d M pc L (.int (zI x) :: st) T Q := g_i2b hd (by rw [zI_t] at k; exact k)
theorem g_l2iZ {x : Int64} (hd : decode (mCode M) pc = .ok (.l2i, 1)) (k : gW P lay b E d M (pc + 1) L (.int (zI x.toInt32.toInt) :: st) T Q) : gW P lay b E d M pc L (.long x :: st) T Q := g_l2i hd (by rw [zI_t] at k; exact k)
theorem zI_div {x y : Int} (hx : 0 ≤ x ∧ x < 2147483648) (hy : 0 < y ∧ y < 2147483648) : zI x / zI y = zI (x / y) := by
  rw [← Int32.toInt_inj, Int32.toInt_div, zI_i (by omega) hx.2, zI_i (by omega) hy.2, Int.tdiv_eq_ediv_of_nonneg hx.1]
  have h1 : 0 ≤ x / y := Int.ediv_nonneg hx.1 (by omega)
  have h2 : x / y ≤ x := Int.ediv_le_self _ hx.1
  rw [zI_i (by omega) (by omega)]
  exact Int.bmod_eq_of_le (by omega) (by omega)
theorem g_idivZ {x y : Int} (hd : decode (mCode M) pc = .ok (.idiv, 1)) (hx : 0 ≤ x ∧ x < 2147483648) (hy : 0 < y ∧ y < 2147483648) (k : gW P lay b E d M (pc + 1) L (.int (zI (x / y)) :: st) T Q) : gW P lay b E d M pc L (.int (zI y) :: .int (zI x) :: st) T Q := g_idiv hd (fun h => by have := (zI_eq (x := y) (y := 0) (by omega) (by decide)).mp h; omega) (by rw [zI_div hx hy]; exact k)
theorem g_iremZ {x y : Int} (hd : decode (mCode M) pc = .ok (.irem, 1)) (hx : 0 ≤ x ∧ x < 2147483648) (hy : 0 < y ∧ y < 2147483648) (k : gW P lay b E d M (pc + 1) L (.int (zI (x % y)) :: st) T Q) : gW P lay b E d M pc L (.int (zI y) :: .int (zI x) :: st) T Q := g_irem hd (fun h => by have := (zI_eq (x := y) (y := 0) (by omega) (by decide)).mp h; omega) (by rw [zI_div hx hy, zI_mul, zI_sub, show x - x / y * y = x % y by rw [Int.emod_def, Int.mul_comm]]; exact k)
theorem g_icmp_eqZ {off : Int} {t : Nat} {x y : Int} (hd : decode (mCode M) pc = .ok (.if_icmp .eq off, 3)) (ht : mTg pc off = some t) (hx : -2147483648 ≤ x ∧ x < 2147483648) (hy : -2147483648 ≤ y ∧ y < 2147483648) (kt : x = y → gW P lay b E d M t L st T Q) (kf : ¬ x = y → gW P lay b E d M (pc + 3) L st T Q) : gW P lay b E d M pc L (.int (zI y) :: .int (zI x) :: st) T Q := g_icmp_eq hd ht (fun h => kt ((zI_eq hx hy).mp h)) (fun h => kf (fun e => h ((zI_eq hx hy).mpr e)))
theorem g_if_eqZ {off : Int} {t : Nat} {x : Int} (hd : decode (mCode M) pc = .ok (.ifCond .eq off, 3)) (ht : mTg pc off = some t) (hx : -2147483648 ≤ x ∧ x < 2147483648) (kt : x = 0 → gW P lay b E d M t L st T Q) (kf : ¬ x = 0 → gW P lay b E d M (pc + 3) L st T Q) : gW P lay b E d M pc L (.int (zI x) :: st) T Q := by
  have h0 : -2147483648 ≤ (0 : Int) ∧ (0 : Int) < 2147483648 := by decide
  exact g_if_eq hd ht (fun h => kt ((zI_eq hx h0).mp h)) (fun h => kf (fun e => h ((zI_eq hx h0).mpr e)))
theorem g_icmp_neZ {off : Int} {t : Nat} {x y : Int} (hd : decode (mCode M) pc = .ok (.if_icmp .ne off, 3)) (ht : mTg pc off = some t) (hx : -2147483648 ≤ x ∧ x < 2147483648) (hy : -2147483648 ≤ y ∧ y < 2147483648) (kt : ¬ x = y → gW P lay b E d M t L st T Q) (kf : x = y → gW P lay b E d M (pc + 3) L st T Q) : gW P lay b E d M pc L (.int (zI y) :: .int (zI x) :: st) T Q := g_icmp_ne hd ht (fun h => kt (fun e => h ((zI_eq hx hy).mpr e))) (fun h => kf ((zI_eq hx hy).mp h))
theorem g_if_neZ {off : Int} {t : Nat} {x : Int} (hd : decode (mCode M) pc = .ok (.ifCond .ne off, 3)) (ht : mTg pc off = some t) (hx : -2147483648 ≤ x ∧ x < 2147483648) (kt : ¬ x = 0 → gW P lay b E d M t L st T Q) (kf : x = 0 → gW P lay b E d M (pc + 3) L st T Q) : gW P lay b E d M pc L (.int (zI x) :: st) T Q := g_if_ne hd ht (fun h => kt (fun e => h ((zI_eq (y := 0) hx (by decide)).mpr e))) (fun h => kf ((zI_eq (y := 0) hx (by decide)).mp h))
theorem g_icmp_ltZ {off : Int} {t : Nat} {x y : Int} (hd : decode (mCode M) pc = .ok (.if_icmp .lt off, 3)) (ht : mTg pc off = some t) (hx : -2147483648 ≤ x ∧ x < 2147483648) (hy : -2147483648 ≤ y ∧ y < 2147483648) (kt : x < y → gW P lay b E d M t L st T Q) (kf : ¬ x < y → gW P lay b E d M (pc + 3) L st T Q) : gW P lay b E d M pc L (.int (zI y) :: .int (zI x) :: st) T Q := g_icmp_lt hd ht (fun h => kt ((zI_lt hx hy).mp h)) (fun h => kf (fun e => h ((zI_lt hx hy).mpr e)))
theorem g_if_ltZ {off : Int} {t : Nat} {x : Int} (hd : decode (mCode M) pc = .ok (.ifCond .lt off, 3)) (ht : mTg pc off = some t) (hx : -2147483648 ≤ x ∧ x < 2147483648) (kt : x < 0 → gW P lay b E d M t L st T Q) (kf : ¬ x < 0 → gW P lay b E d M (pc + 3) L st T Q) : gW P lay b E d M pc L (.int (zI x) :: st) T Q := by
  have h0 : -2147483648 ≤ (0 : Int) ∧ (0 : Int) < 2147483648 := by decide
  exact g_if_lt hd ht (fun h => kt ((zI_lt hx h0).mp h)) (fun h => kf (fun e => h ((zI_lt hx h0).mpr e)))
theorem g_icmp_geZ {off : Int} {t : Nat} {x y : Int} (hd : decode (mCode M) pc = .ok (.if_icmp .ge off, 3)) (ht : mTg pc off = some t) (hx : -2147483648 ≤ x ∧ x < 2147483648) (hy : -2147483648 ≤ y ∧ y < 2147483648) (kt : y ≤ x → gW P lay b E d M t L st T Q) (kf : ¬ y ≤ x → gW P lay b E d M (pc + 3) L st T Q) : gW P lay b E d M pc L (.int (zI y) :: .int (zI x) :: st) T Q := g_icmp_ge hd ht (fun h => kt ((zI_le hy hx).mp h)) (fun h => kf (fun e => h ((zI_le hy hx).mpr e)))
theorem g_if_geZ {off : Int} {t : Nat} {x : Int} (hd : decode (mCode M) pc = .ok (.ifCond .ge off, 3)) (ht : mTg pc off = some t) (hx : -2147483648 ≤ x ∧ x < 2147483648) (kt : 0 ≤ x → gW P lay b E d M t L st T Q) (kf : ¬ 0 ≤ x → gW P lay b E d M (pc + 3) L st T Q) : gW P lay b E d M pc L (.int (zI x) :: st) T Q := by
  have h0 : -2147483648 ≤ (0 : Int) ∧ (0 : Int) < 2147483648 := by decide
  exact g_if_ge hd ht (fun h => kt ((zI_le h0 hx).mp h)) (fun h => kf (fun e => h ((zI_le h0 hx).mpr e)))
theorem g_icmp_gtZ {off : Int} {t : Nat} {x y : Int} (hd : decode (mCode M) pc = .ok (.if_icmp .gt off, 3)) (ht : mTg pc off = some t) (hx : -2147483648 ≤ x ∧ x < 2147483648) (hy : -2147483648 ≤ y ∧ y < 2147483648) (kt : y < x → gW P lay b E d M t L st T Q) (kf : ¬ y < x → gW P lay b E d M (pc + 3) L st T Q) : gW P lay b E d M pc L (.int (zI y) :: .int (zI x) :: st) T Q := g_icmp_gt hd ht (fun h => kt ((zI_lt hy hx).mp h)) (fun h => kf (fun e => h ((zI_lt hy hx).mpr e)))
theorem g_if_gtZ {off : Int} {t : Nat} {x : Int} (hd : decode (mCode M) pc = .ok (.ifCond .gt off, 3)) (ht : mTg pc off = some t) (hx : -2147483648 ≤ x ∧ x < 2147483648) (kt : 0 < x → gW P lay b E d M t L st T Q) (kf : ¬ 0 < x → gW P lay b E d M (pc + 3) L st T Q) : gW P lay b E d M pc L (.int (zI x) :: st) T Q := by
  have h0 : -2147483648 ≤ (0 : Int) ∧ (0 : Int) < 2147483648 := by decide
  exact g_if_gt hd ht (fun h => kt ((zI_lt h0 hx).mp h)) (fun h => kf (fun e => h ((zI_lt h0 hx).mpr e)))
theorem g_icmp_leZ {off : Int} {t : Nat} {x y : Int} (hd : decode (mCode M) pc = .ok (.if_icmp .le off, 3)) (ht : mTg pc off = some t) (hx : -2147483648 ≤ x ∧ x < 2147483648) (hy : -2147483648 ≤ y ∧ y < 2147483648) (kt : x ≤ y → gW P lay b E d M t L st T Q) (kf : ¬ x ≤ y → gW P lay b E d M (pc + 3) L st T Q) : gW P lay b E d M pc L (.int (zI y) :: .int (zI x) :: st) T Q := g_icmp_le hd ht (fun h => kt ((zI_le hx hy).mp h)) (fun h => kf (fun e => h ((zI_le hx hy).mpr e)))
theorem g_if_leZ {off : Int} {t : Nat} {x : Int} (hd : decode (mCode M) pc = .ok (.ifCond .le off, 3)) (ht : mTg pc off = some t) (hx : -2147483648 ≤ x ∧ x < 2147483648) (kt : x ≤ 0 → gW P lay b E d M t L st T Q) (kf : ¬ x ≤ 0 → gW P lay b E d M (pc + 3) L st T Q) : gW P lay b E d M pc L (.int (zI x) :: st) T Q := by
  have h0 : -2147483648 ≤ (0 : Int) ∧ (0 : Int) < 2147483648 := by decide
  exact g_if_le hd ht (fun h => kt ((zI_le hx h0).mp h)) (fun h => kf (fun e => h ((zI_le hx h0).mpr e)))
theorem lg_eq {x y : Int64} : lg_cmp x y = 0 ↔ x = y := by
  unfold lg_cmp
  split
  · rename_i h
    exact ⟨fun q => absurd q (by decide), fun q => absurd h (by rw [q]; exact Int64.lt_irrefl)⟩
  · split
    · rename_i h; exact ⟨fun _ => h, fun _ => rfl⟩
    · rename_i h; exact ⟨fun q => absurd q (by decide), fun q => absurd q h⟩
theorem lg_lt {x y : Int64} : lg_cmp x y < 0 ↔ x < y := by
  unfold lg_cmp
  split
  · rename_i h
    exact ⟨fun q => absurd q (by decide), fun q => absurd q (Int64.not_lt.mpr (Int64.le_of_lt h))⟩
  · rename_i h
    split
    · rename_i e; exact ⟨fun q => absurd q (by decide), fun q => absurd q (by rw [e]; exact Int64.lt_irrefl)⟩
    · rename_i e
      exact ⟨fun _ => by rw [Int64.lt_iff_le_and_ne]; exact ⟨Int64.not_lt.mp h, e⟩, fun _ => by decide⟩
theorem lg_gt {x y : Int64} : 0 < lg_cmp x y ↔ y < x := by
  unfold lg_cmp
  split
  · rename_i h
    exact ⟨fun _ => h, fun _ => by decide⟩
  · rename_i h
    split
    · exact ⟨fun q => absurd q (by decide), fun q => absurd q h⟩
    · exact ⟨fun q => absurd q (by decide), fun q => absurd q h⟩
theorem g_if_eqL {off : Int} {t : Nat} {x y : Int64} (hd : decode (mCode M) pc = .ok (.ifCond .eq off, 3)) (ht : mTg pc off = some t) (kt : x = y → gW P lay b E d M t L st T Q) (kf : ¬ x = y → gW P lay b E d M (pc + 3) L st T Q) : gW P lay b E d M pc L (.int (lg_cmp x y) :: st) T Q := g_if_eq hd ht (fun h => kt (lg_eq.mp h)) (fun h => kf (fun e => h (lg_eq.mpr e)))
theorem g_if_ltL {off : Int} {t : Nat} {x y : Int64} (hd : decode (mCode M) pc = .ok (.ifCond .lt off, 3)) (ht : mTg pc off = some t) (kt : x < y → gW P lay b E d M t L st T Q) (kf : ¬ x < y → gW P lay b E d M (pc + 3) L st T Q) : gW P lay b E d M pc L (.int (lg_cmp x y) :: st) T Q := g_if_lt hd ht (fun h => kt (lg_lt.mp h)) (fun h => kf (fun e => h (lg_lt.mpr e)))
theorem g_if_gtL {off : Int} {t : Nat} {x y : Int64} (hd : decode (mCode M) pc = .ok (.ifCond .gt off, 3)) (ht : mTg pc off = some t) (kt : y < x → gW P lay b E d M t L st T Q) (kf : ¬ y < x → gW P lay b E d M (pc + 3) L st T Q) : gW P lay b E d M pc L (.int (lg_cmp x y) :: st) T Q := g_if_gt hd ht (fun h => kt (lg_gt.mp h)) (fun h => kf (fun e => h (lg_gt.mpr e)))
theorem g_if_neL {off : Int} {t : Nat} {x y : Int64} (hd : decode (mCode M) pc = .ok (.ifCond .ne off, 3)) (ht : mTg pc off = some t) (kt : ¬ x = y → gW P lay b E d M t L st T Q) (kf : x = y → gW P lay b E d M (pc + 3) L st T Q) : gW P lay b E d M pc L (.int (lg_cmp x y) :: st) T Q := g_if_ne hd ht (fun h => kt (fun e => h (lg_eq.mpr e))) (fun h => kf (lg_eq.mp h))
theorem g_if_geL {off : Int} {t : Nat} {x y : Int64} (hd : decode (mCode M) pc = .ok (.ifCond .ge off, 3)) (ht : mTg pc off = some t) (kt : ¬ x < y → gW P lay b E d M t L st T Q) (kf : x < y → gW P lay b E d M (pc + 3) L st T Q) : gW P lay b E d M pc L (.int (lg_cmp x y) :: st) T Q := g_if_ge hd ht (fun h => kt (fun e => absurd (lg_lt.mpr e) (Int32.not_lt.mpr h))) (fun h => kf (lg_lt.mp (Int32.not_le.mp h)))
theorem g_if_leL {off : Int} {t : Nat} {x y : Int64} (hd : decode (mCode M) pc = .ok (.ifCond .le off, 3)) (ht : mTg pc off = some t) (kt : ¬ y < x → gW P lay b E d M t L st T Q) (kf : y < x → gW P lay b E d M (pc + 3) L st T Q) : gW P lay b E d M pc L (.int (lg_cmp x y) :: st) T Q := g_if_le hd ht (fun h => kt (fun e => absurd (lg_gt.mpr e) (Int32.not_lt.mpr h))) (fun h => kf (lg_gt.mp (Int32.not_le.mp h)))
theorem g_ialdZ {k9 n : Nat} {z v : Int} (hd : decode (mCode M) pc = .ok (.iaload, 1)) (hk : lay[k9]? = some (.inl (0, n))) (h0 : 0 ≤ z) (h1 : z < n) (hn : n < 2 ^ 31) (hv : zI v = T.1 k9 z.toNat) (k : gW P lay b E d M (pc + 1) L (.int (zI v) :: st) T Q) : gW P lay b E d M pc L (.int (zI z) :: .ref (b + k9) :: st) T Q := g_iald hd hk (zI_ix h0 h1 hn) (by rw [← hv]; exact k)
theorem g_baldZ {k9 n : Nat} {z v : Int} (hd : decode (mCode M) pc = .ok (.baload, 1)) (hk : lay[k9]? = some (.inl (1, n))) (h0 : 0 ≤ z) (h1 : z < n) (hn : n < 2 ^ 31) (hv : zI v = T.1 k9 z.toNat) (k : gW P lay b E d M (pc + 1) L (.int (zI v) :: st) T Q) : gW P lay b E d M pc L (.int (zI z) :: .ref (b + k9) :: st) T Q := g_bald hd hk (zI_ix h0 h1 hn) (by rw [← hv]; exact k)
theorem g_zaldZ {k9 n : Nat} {z v : Int} (hd : decode (mCode M) pc = .ok (.baload, 1)) (hk : lay[k9]? = some (.inl (2, n))) (h0 : 0 ≤ z) (h1 : z < n) (hn : n < 2 ^ 31) (hv : zI v = T.1 k9 z.toNat) (k : gW P lay b E d M (pc + 1) L (.int (zI v) :: st) T Q) : gW P lay b E d M pc L (.int (zI z) :: .ref (b + k9) :: st) T Q := g_zald hd hk (zI_ix h0 h1 hn) (by rw [← hv]; exact k)
theorem g_laldZ {k9 n : Nat} {z : Int} {v : Int64} (hd : decode (mCode M) pc = .ok (.laload, 1)) (hk : lay[k9]? = some (.inl (3, n))) (h0 : 0 ≤ z) (h1 : z < n) (hn : n < 2 ^ 31) (hv : v = T.2.1 k9 z.toNat) (k : gW P lay b E d M (pc + 1) L (.long v :: st) T Q) : gW P lay b E d M pc L (.int (zI z) :: .ref (b + k9) :: st) T Q := g_lald hd hk (zI_ix h0 h1 hn) (by rw [← hv]; exact k)
theorem g_iastZ {k9 n : Nat} {z : Int} {x : Int32} (hd : decode (mCode M) pc = .ok (.iastore, 1)) (hk : lay[k9]? = some (.inl (0, n))) (h0 : 0 ≤ z) (h1 : z < n) (hn : n < 2 ^ 31) (k : gW P lay b E d M (pc + 1) L st (gI T k9 z.toNat x) Q) : gW P lay b E d M pc L (.int x :: .int (zI z) :: .ref (b + k9) :: st) T Q := g_iast hd hk (zI_ix h0 h1 hn) k
theorem g_bastZ {k9 n : Nat} {z : Int} {x : Int32} (hd : decode (mCode M) pc = .ok (.bastore, 1)) (hk : lay[k9]? = some (.inl (1, n))) (h0 : 0 ≤ z) (h1 : z < n) (hn : n < 2 ^ 31) (k : gW P lay b E d M (pc + 1) L st (gI T k9 z.toNat (vp_nar .byte x)) Q) : gW P lay b E d M pc L (.int x :: .int (zI z) :: .ref (b + k9) :: st) T Q := g_bast hd hk (zI_ix h0 h1 hn) k
theorem nar_z {z : Int} (h : z = 0 ∨ z = 1) : vp_nar .boolean (zI z) = zI z := by
  rcases h with rfl | rfl
  · decide
  · decide
theorem fit_z {z : Int} (h : z = 0 ∨ z = 1) : narrow .boolean (.int (zI z)) = .int (zI z) ∧ fits .boolean (.int (zI z)) = true := by
  rcases h with rfl | rfl
  · exact ⟨rfl, rfl⟩
  · exact ⟨rfl, rfl⟩
theorem g_zastZ {k9 n : Nat} {z x : Int} (hd : decode (mCode M) pc = .ok (.bastore, 1)) (hk : lay[k9]? = some (.inl (2, n))) (h0 : 0 ≤ z) (h1 : z < n) (hn : n < 2 ^ 31) (hx : x = 0 ∨ x = 1) (k : gW P lay b E d M (pc + 1) L st (gI T k9 z.toNat (zI x)) Q) : gW P lay b E d M pc L (.int (zI x) :: .int (zI z) :: .ref (b + k9) :: st) T Q := g_zast hd hk (zI_ix h0 h1 hn) (by rw [nar_z hx]; exact k)
theorem g_lastZ {k9 n : Nat} {z : Int} {x : Int64} (hd : decode (mCode M) pc = .ok (.lastore, 1)) (hk : lay[k9]? = some (.inl (3, n))) (h0 : 0 ≤ z) (h1 : z < n) (hn : n < 2 ^ 31) (k : gW P lay b E d M (pc + 1) L st (gJ T k9 z.toNat x) Q) : gW P lay b E d M pc L (.long x :: .int (zI z) :: .ref (b + k9) :: st) T Q := g_last hd hk (zI_ix h0 h1 hn) k
theorem g_aaldZ {k9 : Nat} {z : Int} {o : Nat} {offs : List Nat} (hd : decode (mCode M) pc = .ok (.aaload, 1)) (hk : lay[k9]? = some (.inr (.inr offs))) (h0 : 0 ≤ z) (h1 : z < offs.length) (hn : offs.length < 2 ^ 31) (ho : offs[z.toNat]? = some o) (k : gW P lay b E d M (pc + 1) L (.ref (b + o) :: st) T Q) : gW P lay b E d M pc L (.int (zI z) :: .ref (b + k9) :: st) T Q := g_aald hd hk (zI_ix h0 h1 hn) ho k
theorem g_getZ {i ci f k9 : Nat} {fs : List Nat} {v : Int} (hd : decode (mCode M) pc = .ok (.getfield i, 3)) (hF : P.1 (mTag M) i = some (ci, f)) (hk : lay[k9]? = some (.inr (.inl (ci, fs)))) (hf : fs[f]? = some 0) (hv : zI v = T.1 k9 f) (k : gW P lay b E d M (pc + 3) L (.int (zI v) :: st) T Q) : gW P lay b E d M pc L (.ref (b + k9) :: st) T Q := g_getI hd hF hk hf (by rw [← hv]; exact k)
theorem g_getVZ {i ci f k9 o : Nat} {fs : List Nat} (hd : decode (mCode M) pc = .ok (.getfield i, 3)) (hF : P.1 (mTag M) i = some (ci, f)) (hk : lay[k9]? = some (.inr (.inl (ci, fs)))) (hf : fs[f]? = some 2) (hv : vI T k9 f = (o : Int)) (ho : 0 < o ∧ o < 1000) (k : gW P lay b E d M (pc + 3) L (.ref (b + o) :: st) T Q) : gW P lay b E d M pc L (.ref (b + k9) :: st) T Q := g_getV hd hF hk hf (by
  rw [vI_to hv]
  have e : mRf b (zI (o : Int)) = .ref (b + o) := by
    rw [← zI_nat]
    simp [mRf, nI_ne0 ho.1 (show o < 2 ^ 31 by omega), nI_clamp (show o < 2 ^ 31 by omega)]
  rw [e]
  exact k)
theorem g_tabZ {dflt lo hi : Int} {offs : Array Int} {len t : Nat} {x : Int} {off : Int} (hd : decode (mCode M) pc = .ok (.tableswitch dflt lo hi offs, len)) (hx : -2147483648 ≤ x ∧ x < 2147483648) (ho : (if x < lo ∨ hi < x then some dflt else offs[(x - lo).toNat]?) = some off) (ht : mTg pc off = some t) (k : gW P lay b E d M t L st T Q) : gW P lay b E d M pc L (.int (zI x) :: st) T Q := g_table hd (by rw [zI_i hx.1 hx.2]; exact ho) ht k
theorem g_tabD {dflt lo hi : Int} {offs : Array Int} {len t : Nat} {x : Int} (hd : decode (mCode M) pc = .ok (.tableswitch dflt lo hi offs, len)) (hx : -2147483648 ≤ x ∧ x < 2147483648) (ho : ¬ (x < lo ∨ hi < x) → offs[(x - lo).toNat]? = some dflt) (ht : mTg pc dflt = some t) (k : gW P lay b E d M t L st T Q) : gW P lay b E d M pc L (.int (zI x) :: st) T Q := by
  refine g_tabZ hd hx ?_ ht k
  by_cases q : x < lo ∨ hi < x
  · rw [if_pos q]
  · rw [if_neg q]; exact ho q
theorem g_tabC {dflt lo hi c : Int} {offs : Array Int} {len t : Nat} {x : Int} {off : Int} (hd : decode (mCode M) pc = .ok (.tableswitch dflt lo hi offs, len)) (hx : -2147483648 ≤ x ∧ x < 2147483648) (e : x = c) (hc : ¬ (c < lo ∨ hi < c)) (ho : offs[(c - lo).toNat]? = some off) (ht : mTg pc off = some t) (k : gW P lay b E d M t L st T Q) : gW P lay b E d M pc L (.int (zI x) :: st) T Q := by
  refine g_tabZ hd hx ?_ ht k
  rw [e, if_neg hc]
  exact ho
theorem g_primS {k9 q : Nat} {st1 : List Value} (hd : decode (mCode M) pc = .ok (.invokestatic k9, 3)) (hc : P.2.2.1 (mTag M) k9 = some (1, .inr q)) (hL : L.length = mMax M) (hp : ∀ S : mS, mPrim b q st S = some (st1, S)) (hw : mWide st1 = true) (k : gW P lay b E (d + 1) M (pc + 3) L st1 T Q) : gW P lay b E (d + 1) M pc L st T Q := fun h hh => mw_prim (kd := 1) hd rfl hc hL (hp _) hw (k h hh)
theorem zI_min {x y : Int} (hx : -2147483648 ≤ x ∧ x < 2147483648) (hy : -2147483648 ≤ y ∧ y < 2147483648) : (if zI y < zI x then zI y else zI x) = zI (if y < x then y else x) := by
  by_cases h : y < x
  · rw [if_pos h, if_pos ((zI_lt hy hx).mpr h)]
  · rw [if_neg h, if_neg (fun e => h ((zI_lt hy hx).mp e))]
theorem zI_max {x y : Int} (hx : -2147483648 ≤ x ∧ x < 2147483648) (hy : -2147483648 ≤ y ∧ y < 2147483648) : (if zI x < zI y then zI y else zI x) = zI (if x < y then y else x) := by
  by_cases h : x < y
  · rw [if_pos h, if_pos ((zI_lt hx hy).mpr h)]
  · rw [if_neg h, if_neg (fun e => h ((zI_lt hx hy).mp e))]
theorem zI_abs {x : Int} (hx : -2147483648 ≤ x ∧ x < 2147483648) : (if 0 ≤ zI x then zI x else 0 - zI x) = zI (if 0 ≤ x then x else -x) := by
  by_cases h : 0 ≤ x
  · have e : (0 : Int32) ≤ zI x := (zI_le (x := 0) (by decide) hx).mpr h
    rw [if_pos h, if_pos e]
  · have e : ¬ (0 : Int32) ≤ zI x := fun e => h ((zI_le (x := 0) (by decide) hx).mp e)
    rw [if_neg h, if_neg e, ← zI_neg]
    exact Int32.zero_sub _
theorem b_z {c : Prop} [Decidable c] : zI (if c then 1 else 0) = 0 ↔ ¬ c := by
  by_cases h : c
  · rw [if_pos h]; exact ⟨fun e => absurd e (by decide), fun e => absurd h e⟩
  · rw [if_neg h]; exact ⟨fun _ => h, fun _ => rfl⟩
theorem g_if_eqB {off : Int} {t : Nat} {c : Prop} [Decidable c] (hd : decode (mCode M) pc = .ok (.ifCond .eq off, 3)) (ht : mTg pc off = some t) (kt : ¬ c → gW P lay b E d M t L st T Q) (kf : c → gW P lay b E d M (pc + 3) L st T Q) : gW P lay b E d M pc L (.int (zI (if c then 1 else 0)) :: st) T Q := g_if_eq hd ht (fun h => kt (b_z.mp h)) (fun h => kf (Decidable.of_not_not fun e => h (b_z.mpr e)))
theorem g_if_neB {off : Int} {t : Nat} {c : Prop} [Decidable c] (hd : decode (mCode M) pc = .ok (.ifCond .ne off, 3)) (ht : mTg pc off = some t) (kt : c → gW P lay b E d M t L st T Q) (kf : ¬ c → gW P lay b E d M (pc + 3) L st T Q) : gW P lay b E d M pc L (.int (zI (if c then 1 else 0)) :: st) T Q := g_if_ne hd ht (fun h => kt (Decidable.of_not_not fun e => h (b_z.mpr e))) (fun h => kf (b_z.mp h))
theorem g_alenZ {k9 n c : Nat} {z : Int} (hd : decode (mCode M) pc = .ok (.arraylength, 1)) (hk : lay[k9]? = some (.inl (c, n))) (hz : (n : Int) = z) (k : gW P lay b E d M (pc + 1) L (.int (zI z) :: st) T Q) : gW P lay b E d M pc L (.ref (b + k9) :: st) T Q := g_alen hd hk (by rw [zI_nat, hz]; exact k)
theorem g_clenZ {a n : Nat} {z : Int} {t : FieldType} {f : (Nat → Int32) ⊕ (Nat → Int64) ⊕ (Nat → UInt32) ⊕ (Nat → UInt64) ⊕ (Nat → Option Nat)} (hd : decode (mCode M) pc = .ok (.arraylength, 1)) (ha : a < b) (hk : E.2 a = some (.inl (t, n, f))) (hz : (n : Int) = z) (k : gW P lay b E d M (pc + 1) L (.int (zI z) :: st) T Q) : gW P lay b E d M pc L (.ref a :: st) T Q := g_clen hd ha hk (by rw [zI_nat, hz]; exact k)
theorem q_lt {q : Nat} (hq : q = 2 ∨ q = 21) : 0 < q ∧ q < 1000 := by omega
theorem q_lt2 {q : Nat} (hq : q = 2 ∨ q = 21) : 0 < q ∧ q < 2 ^ 31 := by omega
end GZ
