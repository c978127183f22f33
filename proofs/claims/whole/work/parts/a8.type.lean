/-! bytes of a long -/
def byK (x : Int64) (k : Nat) : Nat := ((x >>> ((zI (8 * (k : Int))).toInt64 &&& 63)).toInt32.toInt % 256).toNat
theorem byK_lt {x : Int64} {k : Nat} : byK x k < 256 := by unfold byK; omega
theorem bm8 (a : Int) (n : Nat) (h : (256 : Int) ∣ (n : Int)) : a.bmod n % 256 = a % 256 := by
  rw [← Int.emod_emod_of_dvd (a.bmod n) h, Int.bmod_emod, Int.emod_emod_of_dvd a h]
theorem lo8 (z : Int64) : z.toInt32.toInt % 256 = ((z.toBitVec.setWidth 8).toNat : Int) := by
  rw [Int64.toInt_toInt32, BitVec.toNat_setWidth]
  have h1 : z.toInt = (z.toBitVec.toNat : Int).bmod (2 ^ 64) := by
    rw [← Int64.toInt_toBitVec, BitVec.toInt_eq_toNat_bmod]
  rw [bm8 _ _ (by decide), h1, bm8 _ _ (by decide)]
  generalize z.toBitVec.toNat = y
  show (y : Int) % 256 = ((y % 256 : Nat) : Int)
  omega
theorem sh8 (x : BitVec 64) (n : Nat) (hn : n ≤ 56) : (x.sshiftRight n).setWidth 8 = (x >>> n).setWidth 8 := by
  apply BitVec.eq_of_getLsbD_eq
  intro i hi
  simp only [BitVec.getLsbD_setWidth, BitVec.getLsbD_sshiftRight, BitVec.getLsbD_ushiftRight, hi, decide_true, Bool.true_and]
  have h1 : ¬ 64 ≤ i := by omega
  have h2 : n + i < 64 := by omega
  simp [h1, h2]
theorem byK_u {x : Int64} {k : Nat} (hk : k < 8) : ((x.toUInt64 >>> ((zI (8 * (k : Int))).toInt64.toUInt64 &&& Int64.toUInt64 63)).toInt64.toInt32.toInt % 256).toNat = byK x k := by
  unfold byK
  rw [lo8, lo8]
  congr 3
  rcases (show k = 0 ∨ k = 1 ∨ k = 2 ∨ k = 3 ∨ k = 4 ∨ k = 5 ∨ k = 6 ∨ k = 7 by omega) with rfl | rfl | rfl | rfl | rfl | rfl | rfl | rfl
  · exact (sh8 x.toBitVec 0 (by decide)).symm
  · exact (sh8 x.toBitVec 8 (by decide)).symm
  · exact (sh8 x.toBitVec 16 (by decide)).symm
  · exact (sh8 x.toBitVec 24 (by decide)).symm
  · exact (sh8 x.toBitVec 32 (by decide)).symm
  · exact (sh8 x.toBitVec 40 (by decide)).symm
  · exact (sh8 x.toBitVec 48 (by decide)).symm
  · exact (sh8 x.toBitVec 56 (by decide)).symm
def aTyU (u : Nat → Nat) (m : Nat) (x : Int64) (n : Nat) : Nat → Nat := fun i => if m ≤ i ∧ i < m + n then byK x (i - m) else u i
def aThr (m : Nat) (n : Int) : Nat := if n < 0 ∨ 8 < n then 1 else if 400 < (m : Int) + n then 2 else 0
def aTy (A : aSt) (x : Int64) (n : Int) : aSt := if aThr A.2.1 n = 0 then (aTyU A.1 A.2.1 x n.toNat, A.2.1 + n.toNat, A.2.2) else A
theorem aThr0 {m : Nat} {n : Int} (h : aThr m n = 0) : 0 ≤ n ∧ n ≤ 8 ∧ (m : Int) + n ≤ 400 := by
  unfold aThr at h
  split at h
  · cases h
  · split at h
    · cases h
    · omega
theorem aTyU_0 {u : Nat → Nat} {m : Nat} {x : Int64} : aTyU u m x 0 = u := by
  funext i; unfold aTyU; rw [if_neg (by omega)]
/-- one more byte is typed -/
theorem mTx.ty {T : gT} {u : Nat → Nat} {m n : Nat} {x : Int64} {y : Int32} (h : mTx T 1 (aTyU u m x n)) (hy : y = sb_b (byK x n)) : mTx (gI T 1 (m + n) y) 1 (aTyU u m x (n + 1)) := by
  intro i hi
  rw [gI_I]
  by_cases e : i = m + n
  · rw [if_pos ⟨rfl, e⟩, hy, e]
    have : aTyU u m x (n + 1) (m + n) = byK x n := by
      unfold aTyU
      rw [if_pos (by omega), show m + n - m = n by omega]
    rw [this]
    exact ⟨byK_lt, rfl⟩
  · rw [if_neg (fun z => e z.2)]
    have : aTyU u m x (n + 1) i = aTyU u m x n i := by
      unfold aTyU
      by_cases y : m ≤ i ∧ i < m + n
      · rw [if_pos y, if_pos (by omega)]
      · rw [if_neg y, if_neg (by omega)]
    rw [this]
    exact h i hi
section TY
variable {sa : Nat → Nat} {b : Nat} {E : Nat × mH} {d : Nat} {T : gT} {A : aSt}
theorem s_type {x : Int64} {n : Int} (h : cA T A) (hn : aThr A.2.1 n = 0) : gC (tP sa) lD b E d mX6_type [.ref (b + 0), .long x, .int (zI n)] T (sI T ((A.2.1 : Int) + n) (aTy A x n)) := by
  obtain ⟨q, hA⟩ := h
  obtain ⟨⟨t1, t2, t3⟩, _⟩ := id hA
  have h0 := aThr0 hn
  obtain ⟨N, rfl⟩ : ∃ N : Nat, n = (N : Int) := ⟨n.toNat, by omega⟩
  have et : aTy A x (N : Int) = (aTyU A.1 A.2.1 x N, A.2.1 + N, A.2.2) := by unfold aTy; rw [if_pos hn, Int.toNat_natCast]
  rw [et]
  refine w_X6_type ?_
  unfold f_X6_type
  refine ⟨by omega, by omega, ?_⟩
  have lp : ∀ (j i : Nat) (T1 : gT), j + i = N → mTx T1 1 (aTyU A.1 A.2.1 x i) → (∀ k l, k ≠ 1 → T1.1 k l = T.1 k l) → T1.2 = T.2 → gW (tP sa) lD b E d mX6_type 45 [some (.ref (b + 0)), some (.long x), none, some (.int (zI (N : Int))), some (.int (zI (i : Int)))] [] T1 (sI T ((A.2.1 : Int) + N) (aTyU A.1 A.2.1 x N, A.2.1 + N, A.2.2)) := by
    intro j
    induction j with
    | zero =>
      intro i T1 hj h1 f1 j1
      obtain rfl : i = N := by omega
      have e1 : vI T1 0 1 = (A.2.1 : Int) := by unfold vI; rw [f1 0 1 (by omega)]; exact t2
      refine w_X6_type_45 ?_
      unfold f_X6_type_45
      rw [e1]
      refine ⟨by omega, by omega, fun _ => ⟨rfl, by rw [gI_J, j1], q, hA.tx (fun l hl => ?_) (v_s (by omega)) (by omega) (fun k l k1 k2 => ?_) (by rw [gI_J, j1])⟩, fun z => absurd (Int.le_refl _) z⟩
      · rw [gI_I, if_neg (fun z => absurd z.1 (by decide))]; exact h1 l hl
      · rw [v_o k2]; unfold vI; rw [f1 k l k1]
    | succ j ih =>
      intro i T1 hj h1 f1 j1
      have e1 : vI T1 0 1 = (A.2.1 : Int) := by unfold vI; rw [f1 0 1 (by omega)]; exact t2
      refine w_X6_type_45 ?_
      unfold f_X6_type_45
      rw [e1, show (A.2.1 : Int) + (i : Int) = ((A.2.1 + i : Nat) : Int) by omega, Int.toNat_natCast, show (i : Int) + 1 = ((i + 1 : Nat) : Int) by omega]
      refine ⟨by omega, by omega, fun z => by omega, fun _ => ⟨by omega, by omega, ih (i + 1) _ (by omega) (h1.ty ?_) (fun k l hk => ?_) (by rw [gI_J, j1])⟩⟩
      · rw [nar_byte, byK_u (by omega)]
      · rw [gI_I, if_neg (fun z => hk z.1)]; exact f1 k l hk
  exact lp N 0 T (by omega) (by rw [aTyU_0]; exact t1) (fun _ _ _ => rfl) rfl
end TY
section RTY
variable {sa : Nat → Nat} {b : Nat} {E : Nat × mH} {d : Nat} {T : gT} {A : aSt}
/-- another text, in the reference -/
theorem rA.tx {T' : gT} {m : Nat} {u : Nat → Nat} (h : rA T A) (h1 : mTx T' 1 u) (h2 : vI T' 0 2 = (m : Int)) (hm : m ≤ 400) (f : ∀ k i, k ≠ 1 → ¬ (k = 0 ∧ (i = 0 ∨ i = 2 ∨ 19 ≤ i)) → k ≤ 12 → vI T' k i = vI T k i) (j : T'.2.1 = T.2.1) : rA T' (u, m, A.2.2) := by
  obtain ⟨_, hn, hp, hr⟩ := h
  refine ⟨⟨h1, h2, hm⟩, by rw [f _ _ (by omega) (by omega) (by omega)]; exact hn, ?_, hr.of (f _ _ (by omega) (by omega) (by omega)) (f _ _ (by omega) (by omega) (by omega)) (by rw [j]) (fun _ => by rw [j])⟩
  revert hp
  show rPo T A.2.2.1 → rPo T' A.2.2.1
  cases A.2.2.1 with
  | none => intro hp; show vI T' 0 4 = 0; rw [f _ _ (by omega) (by omega) (by omega)]; exact hp
  | some x =>
    rintro ⟨a, hp⟩
    exact ⟨a, hp.of (fun k i z => f k i (by omega) (by omega) (by omega)) (fun k i _ _ => by rw [j])⟩
theorem r_thrown : gC (tP sa) lM b E d mX7_thrown [.ref (b + 0)] T (fun r T' => r = some (.int (zI (vI T 0 0))) ∧ T' = T) := w_X7_thrown ⟨rfl, rfl⟩
theorem r_type {x : Int64} {n : Int} (hn : okI n) (h : rA T A) : gC (tP sa) lM b E d mX7_type [.ref (b + 0), .long x, .int (zI n)] T (fun r T' => r = some (.int (zI (if aThr A.2.1 n = 0 then (A.2.1 : Int) + n else 0))) ∧ T'.2.2 = T.2.2 ∧ vI T' 0 0 = (aThr A.2.1 n : Int) ∧ rA T' (aTy A x n)) := by
  obtain ⟨⟨t1, t2, t3⟩, hrest⟩ := id h
  refine w_X7_type ?_
  unfold f_X7_type
  have th : ∀ y : Int, okI y → rA (gI T 0 0 (zI y)) A := fun y hy => h.of (fG.refl.gI (Or.inl ⟨rfl, Or.inl rfl⟩))
  rw [t2]
  have no : ∀ t : Nat, aThr A.2.1 n = t → t ≠ 0 → t < 3 → (zI 0 = zI (if aThr A.2.1 n = 0 then (A.2.1 : Int) + n else 0)) ∧ vI (gI T 0 0 (zI (t : Int))) 0 0 = (aThr A.2.1 n : Int) ∧ rA (gI T 0 0 (zI (t : Int))) (aTy A x n) := fun t e1 e2 e3 => by
    refine ⟨by rw [if_neg (by omega)], by rw [v_s (by omega), e1], ?_⟩
    have : aTy A x n = A := by unfold aTy; rw [if_neg (by omega)]
    rw [this]
    exact th _ (by omega)
  refine ⟨hn, fun z => ?_, fun z => ⟨fun z2 => ⟨by omega, fun z3 => ?_, fun z3 => ?_⟩, fun z2 => ?_⟩⟩
  · obtain ⟨e1, e2, e3⟩ := no 1 (by unfold aThr; rw [if_pos (Or.inl z)]) (by decide) (by decide)
    exact ⟨by rw [← e1], rfl, e2, e3⟩
  · have h0 : aThr A.2.1 n = 0 := by unfold aThr; rw [if_neg (by omega), if_neg (by omega)]
    rw [h0, if_pos rfl]
    obtain ⟨N, rfl⟩ : ∃ N : Nat, n = (N : Int) := ⟨n.toNat, by omega⟩
    have et : aTy A x (N : Int) = (aTyU A.1 A.2.1 x N, A.2.1 + N, A.2.2) := by unfold aTy; rw [if_pos h0, Int.toNat_natCast]
    rw [et]
    have lp : ∀ (j i : Nat) (T1 : gT), j + i = N → mTx T1 1 (aTyU A.1 A.2.1 x i) → vI T1 0 2 = ((A.2.1 + i : Nat) : Int) → vI T1 0 0 = 0 → (∀ k l, k ≠ 1 → ¬ (k = 0 ∧ (l = 0 ∨ l = 2)) → T1.1 k l = T.1 k l) → T1.2 = T.2 → gW (tP sa) lM b E d mX7_type 47 [some (.ref (b + 0)), some (.long x), none, some (.int (zI (N : Int))), some (.int (zI (i : Int)))] [] T1 (fun r T' => r = some (.int (zI ((A.2.1 : Int) + N))) ∧ T'.2.2 = T.2.2 ∧ vI T' 0 0 = ((0 : Nat) : Int) ∧ rA T' (aTyU A.1 A.2.1 x N, A.2.1 + N, A.2.2)) := by
      intro j
      induction j with
      | zero =>
        intro i T1 hj h1 e1 e0 f1 j1
        obtain rfl : i = N := by omega
        refine w_X7_type_47 ?_
        unfold f_X7_type_47
        rw [e1]
        refine ⟨by omega, by omega, fun _ => ⟨rfl, by rw [j1], e0, h.tx h1 e1 (by omega) (fun k l k1 k2 _ => ?_) (by rw [j1])⟩, fun z => absurd (Int.le_refl _) z⟩
        unfold vI; rw [f1 k l k1 (by omega)]
      | succ j ih =>
        intro i T1 hj h1 e1 e0 f1 j1
        refine w_X7_type_47 ?_
        unfold f_X7_type_47
        rw [e1, Int.toNat_natCast, show (i : Int) + 1 = ((i + 1 : Nat) : Int) by omega, show ((A.2.1 + i : Nat) : Int) + 1 = ((A.2.1 + (i + 1) : Nat) : Int) by omega]
        refine ⟨by omega, by omega, fun z => by omega, fun _ => ⟨by omega, by omega, ih (i + 1) _ (by omega) (fun l hl => ?_) (v_s (by omega)) (by rw [v_o (by omega), v_o (by omega)]; exact e0) (fun k l hk hk2 => ?_) (by rw [gI_J, gI_J, j1])⟩⟩
        · rw [gI_I, if_neg (fun z => absurd z.1 (by decide))]
          exact (mTx.ty h1 (by rw [nar_byte]; rfl)) l hl
        · rw [gI_I, if_neg (fun z => hk2 ⟨z.1, Or.inr z.2⟩), gI_I, if_neg (fun z => hk z.1)]; exact f1 k l hk hk2
    refine lp N 0 _ (by omega) (fun l hl => ?_) (by rw [v_o (by omega)]; exact t2) (v_s (by decide)) (fun k l k1 k2 => by rw [gI_I, if_neg (fun z => k2 ⟨z.1, Or.inl z.2⟩)]) (gI_J)
    rw [aTyU_0, gI_I, if_neg (fun z => absurd z.1 (by decide))]
    exact t1 l hl
  · obtain ⟨e1, e2, e3⟩ := no 2 (by unfold aThr; rw [if_neg (by omega), if_pos (by omega)]) (by decide) (by decide)
    exact ⟨by rw [← e1], rfl, e2, e3⟩
  · obtain ⟨e1, e2, e3⟩ := no 1 (by unfold aThr; rw [if_pos (Or.inr (by omega))]) (by decide) (by decide)
    exact ⟨by rw [← e1], rfl, e2, e3⟩
theorem r_out {i : Int} (h : rA T A) : gC (tP sa) lM b E d mX7_out [.ref (b + 0), .int (zI i)] T (qJ T (aOut A.1 A.2.1 i) A) := by
  have h' := h.t0
  obtain ⟨⟨t1, t2, t3⟩, _⟩ := id h'
  refine w_X7_out ?_
  unfold f_X7_out
  have lp : ∀ (j k : Nat) (v : Int64) (L5 : Option Value), j + k = 8 → (L5 = none ∨ ∃ x, L5 = some (.long x)) → oFrom A.1 A.2.1 i j k v = aOut A.1 A.2.1 i → gW (tP sa) lM b E d mX7_out 10 [some (.ref (b + 0)), some (.int (zI i)), some (.long v), none, some (.int (zI (k : Int))), L5, none] [] (gI T 0 0 (zI 0)) (qJ T (aOut A.1 A.2.1 i) A) := by
    intro j
    induction j with
    | zero =>
      intro k v L5 hj hL ho
      have key : f_X7_out_10 sa b E d i v (k : Int) (gI T 0 0 (zI 0)) (qJ T (aOut A.1 A.2.1 i) A) := by
        unfold f_X7_out_10
        refine ⟨by omega, fun _ => ⟨?_, rfl, h'⟩, fun z => by omega⟩
        rw [← ho]; rfl
      rcases hL with rfl | ⟨x, rfl⟩
      · exact w_X7_out_10 key
      · exact w_X7_out_10b (l5 := x) key
    | succ j ih =>
      intro k v L5 hj hL ho
      have key : f_X7_out_10 sa b E d i v (k : Int) (gI T 0 0 (zI 0)) (qJ T (aOut A.1 A.2.1 i) A) := by
        unfold f_X7_out_10
        rw [oFrom] at ho
        unfold oStep at ho
        rw [t2, show (k : Int) + 1 = ((k + 1 : Nat) : Int) by omega, or_z]
        refine ⟨by omega, fun z => by omega, fun _ => ⟨fun z => ?_, fun z => ⟨fun z2 => ?_, fun z2 => ?_⟩⟩⟩
        · rw [if_pos z] at ho
          exact ih (k + 1) v _ (by omega) (Or.inr ⟨_, rfl⟩) ho
        · rw [if_neg z, if_pos z2] at ho
          exact ih (k + 1) v _ (by omega) (Or.inr ⟨_, rfl⟩) ho
        · rw [if_neg z, if_neg (fun y => y z2)] at ho
          have hi := o_in t3 z z2
          refine ⟨hi.1, by omega, ?_⟩
          rw [zI_v, (t1 _ (by omega)).2]
          exact ih (k + 1) _ _ (by omega) (Or.inr ⟨_, rfl⟩) ho
      rcases hL with rfl | ⟨x, rfl⟩
      · exact w_X7_out_10 key
      · exact w_X7_out_10b (l5 := x) key
  exact lp 8 0 0 none rfl (Or.inl rfl) rfl
end RTY
