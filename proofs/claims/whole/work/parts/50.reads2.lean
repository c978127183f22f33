/-! THE REFERENCE READS: begin, number -/
theorem mBeg_o {T : gT} {p n : Nat} {k v u : Int32} {k2 j2 : Nat} (h : ¬ (k2 = 2 ∧ j2 = p)) (h2 : ¬ (k2 = 4 ∧ 7 * (200 * p + n) ≤ j2 ∧ j2 < 7 * (200 * p + n) + 7)) : vI (mBeg T p n k v u) k2 j2 = vI T k2 j2 := by
  unfold mBeg
  repeat rw [v_o (by omega)]
theorem mBeg_n {T : gT} {p n : Nat} {k v u : Int32} (h : n < 200) : vI (mBeg T p n k v u) 2 p = ((n + 1 : Nat) : Int) := by
  unfold mBeg
  iterate 7 rw [v_o (by omega)]
  rw [zI_nat, v_s (by omega)]
theorem mBeg_c {T : gT} {p n : Nat} {k v u : Int} {w : Nat} (hk : -2147483648 ≤ k ∧ k < 2147483648) (hv : -2147483648 ≤ v ∧ v < 2147483648) (hu : -2147483648 ≤ u ∧ u < 2147483648) (hw : w < 7) : cV (mBeg T p n (zI k) (zI v) (zI u)) p n w = xTok k v (-1) (-1) (-1) (-1) u w := by
  have m1 : (-1 : Int32) = zI (-1) := by decide
  unfold cV mBeg
  rw [m1]
  obtain rfl | rfl | rfl | rfl | rfl | rfl | rfl : w = 0 ∨ w = 1 ∨ w = 2 ∨ w = 3 ∨ w = 4 ∨ w = 5 ∨ w = 6 := by omega
  · iterate 6 rw [v_o (by omega)]
    rw [v_s hk]; rfl
  · iterate 5 rw [v_o (by omega)]
    rw [v_s hv]; rfl
  · iterate 4 rw [v_o (by omega)]
    rw [v_s (by omega)]; rfl
  · iterate 3 rw [v_o (by omega)]
    rw [v_s (by omega)]; rfl
  · iterate 2 rw [v_o (by omega)]
    rw [v_s (by omega)]; rfl
  · rw [v_o (by omega), v_s (by omega)]; rfl
  · rw [v_s hu]; rfl
theorem mBeg_fr {T T' : gT} {p n : Nat} {k v u : Int32} (hn : n < 200) (h : fr (Wp p) T T') : fr (Wp p) T (mBeg T' p n k v u) := by
  unfold mBeg
  refine (((((((h.gI ?_).gI ?_).gI ?_).gI ?_).gI ?_).gI ?_).gI ?_).gI ?_ <;> unfold Wp <;> omega
/-- an expr has been begun -/
theorem pR_beg {T : gT} {u : Nat → Nat} {n p : Nat} {env : List (List Nat × Nat)} {o : Int} {σ : xS} {k v w : Int32} (h : pR T u n p env o σ) (hl : σ.2.1 < 200) : pR (mBeg T p σ.2.1 k v w) u n p env o (σ.1, σ.2.1 + 1, σ.2.2) := by
  obtain ⟨ht, hp2, hnow, hpl, hpn, hex, hex2, hva, hva2, hfu, hfu2, hbo, hbo2, hen, hop, hwr⟩ := h
  have hf : fr (Wp p) T (mBeg T p σ.2.1 k v w) := mBeg_fr hl fr.refl
  refine ⟨Wp.tx hf ht, hp2, (Wp.now hf).trans hnow, ?_, hpn, mBeg_n hl, by show σ.2.1 + 1 ≤ 200; omega, ?_, hva2, ?_, hfu2, ?_, hbo2, envH_of hen (fun i hi => ⟨?_, ?_⟩), ?_, ?_⟩
  all_goals (rw [mBeg_o (by omega) (by omega)])
  all_goals assumption
/-- the cells below label l, and those of ts from it on -/
def cH (T T' : gT) (p l : Nat) (ts : List (Nat → Int)) : Prop := (∀ m w, m < l → w < 7 → cV T' p m w = cV T p m w) ∧ ∀ m w, m < ts.length → w < 7 → cV T' p (l + m) w = ts.getD m (fun _ => 0) w
theorem cH_beg {T : gT} {p l : Nat} {k v u : Int} (hl : l < 200) (hk : -2147483648 ≤ k ∧ k < 2147483648) (hv : -2147483648 ≤ v ∧ v < 2147483648) (hu : -2147483648 ≤ u ∧ u < 2147483648) : cH T (mBeg T p l (zI k) (zI v) (zI u)) p l [xTok k v (-1) (-1) (-1) (-1) u] := by
  refine ⟨fun m w hm hw => mBeg_o (by omega) (by omega), fun m w hm hw => ?_⟩
  obtain rfl : m = 0 := by simpa using hm
  exact mBeg_c hk hv hu hw
theorem nu_rg {u : Nat → Nat} {n : Nat} (hu : ∀ i, i < n → u i < 256) : ∀ (k q : Nat) (v : Int), q ≤ n → 0 ≤ v → q ≤ (nu u n k q v).1 ∧ (nu u n k q v).1 ≤ n ∧ 0 ≤ (nu u n k q v).2 ∧ (nu u n k q v).2 < (v + 1) * 10 ^ k := by
  intro k
  induction k with
  | zero => intro q v h1 h2; exact ⟨Nat.le_refl _, h1, h2, by show v < (v + 1) * 1; omega⟩
  | succ k ih =>
    intro q v h1 h2
    rw [nu]
    have p1 : (0 : Int) < 10 ^ k := Int.pow_pos (by decide)
    have p2 : (10 : Int) ^ (k + 1) = 10 * 10 ^ k := by rw [Int.pow_succ, Int.mul_comm]
    split
    · rename_i c
      rw [zD_iff] at c
      have hq : q < n := cz_lt (u := u) (by omega)
      obtain ⟨a1, a2, a3, a4⟩ := ih (q + 1) (10 * v + cz u n q - 48) (by omega) (by omega)
      refine ⟨by omega, a2, a3, Int.lt_of_lt_of_le a4 ?_⟩
      rw [p2, ← Int.mul_assoc]
      exact Int.mul_le_mul_of_nonneg_right (by omega) (by omega)
    · refine ⟨Nat.le_refl _, h1, h2, ?_⟩
      have : (v + 1) * 1 ≤ (v + 1) * 10 ^ (k + 1) := Int.mul_le_mul_of_nonneg_left (by omega) (by omega)
      show v < _
      omega
section NU
variable {sa : Nat → Nat} {b : Nat} {E : Nat × mH} {d : Nat} {T : gT} {u : Nat → Nat} {n p : Nat} {env : List (List Nat × Nat)} {o : Int} {σ : xS}
/-- what an expr's reading leaves -/
def xP (T T' : gT) (u : Nat → Nat) (n p : Nat) (env : List (List Nat × Nat)) (o : Int) (σ : xS) (m : Int) (x : xR) (v : Int) : Prop := match x with
  | .inl q => pF T T' p q m env.length σ.2.2.1
  | .inr (σ', ts) => v = (σ.2.1 : Int) ∧ pR T' u n p env o σ' ∧ fr (Wp p) T T' ∧ cH T T' p σ.2.1 ts ∧ σ'.2.1 = σ.2.1 + ts.length ∧ σ.2.2.1 ≤ σ'.2.2.1
theorem pR.fail {m : Int} {q s : Nat} (h : pR T u n p env o σ) (hq : q ≤ 1000) (hs : s ≤ 1000) (hm : (s : Int) ≤ m) : pF T (gI (gI (gI T 0 20 (zI (s : Nat))) 0 21 (zI (q : Nat))) 0 22 (zI 1)) p q m env.length σ.2.2.1 := by
  obtain ⟨ht, hp2, hnow, hpl, hpn, hex, hex2, hva, hva2, hfu, hfu2, hbo, hbo2, hen, hop, hwr⟩ := h
  refine ⟨((fr.refl.gI ?_).gI ?_).gI ?_, ?_, ?_, ?_, ?_, ?_, ?_, ?_⟩
  · exact Or.inl ⟨rfl, by omega⟩
  · exact Or.inl ⟨rfl, by omega⟩
  · exact Or.inl ⟨rfl, by omega⟩
  all_goals (repeat first | rw [v_o (by omega)] | rw [v_s (by omega)])
  all_goals first | rfl | omega | (rw [hbo]; omega) | (rw [hbo, hva]; omega) | (rw [hva]; omega)
theorem pR.fail0 {m : Int} {q : Nat} (h : pR T u n p env o σ) (hq : q ≤ 1000) (hm : (σ.1 : Int) ≤ m) : pF T (gI (gI T 0 21 (zI (q : Nat))) 0 22 (zI 1)) p q m env.length σ.2.2.1 := by
  have h2 := h.fail (q := q) (s := σ.1) (m := m) hq (by have := h.2.2.2.2.1; have := h.1.n; omega) hm
  rwa [gI_same (vI_to h.2.2.2.1)] at h2
theorem pR.pos {s : Nat} (h : pR T u n p env o σ) (hs : s ≤ n) : pR (gI T 0 20 (zI (s : Nat))) u n p env o (s, σ.2) := by
  obtain ⟨ht, hp2, hnow, hpl, hpn, hex, hex2, hva, hva2, hfu, hfu2, hbo, hbo2, hen, hop, hwr⟩ := h
  have hn := ht.n
  refine ⟨ht.gI (by decide) (by decide), hp2, ?_, v_s (by omega), hs, ?_, hex2, ?_, hva2, ?_, hfu2, ?_, hbo2, envH_of hen (fun i hi => ⟨?_, ?_⟩), ?_, ?_⟩
  all_goals (rw [v_o (by omega)])
  all_goals assumption
theorem pF.pre {T1 T' : gT} {m : Int} {q : Nat} {bd nv : Int} (h : pF T1 T' p q m bd nv) (hf : fr (Wp p) T T1) : pF T T' p q m bd nv := ⟨hf.trans h.1, h.2⟩
theorem pF.le {T' : gT} {m m2 : Int} {q : Nat} {bd nv : Int} (h : pF T T' p q m bd nv) (hm : m ≤ m2) : pF T T' p q m2 bd nv := ⟨h.1, h.2.1, h.2.2.1, h.2.2.2.1, by have := h.2.2.2.2.1; omega, h.2.2.2.2.2⟩
theorem c_num_lp {Q : Option Value → gT → Prop} {l1 l2 : Int} :
    ∀ (k q : Nat) (v i : Int) (T1 : gT), pR T1 u n p env o (q, σ.2) → i = 6 - (k : Int) → k ≤ 6 →
    ((pR (gI T1 0 20 (zI ((nu u n k q v).1 : Nat))) u n p env o ((nu u n k q v).1, σ.2)) → ∀ i', gW (tP sa) lM b E (d + 1) mX7_number 103 [some (.ref (b + 0)), some (.int (zI l1)), some (.int (zI l2)), some (.int (zI (nu u n k q v).2)), some (.int (zI i'))] [] (gI T1 0 20 (zI ((nu u n k q v).1 : Nat))) Q) →
    gW (tP sa) lM b E (d + 1) mX7_number 57 [some (.ref (b + 0)), some (.int (zI l1)), some (.int (zI l2)), some (.int (zI v)), some (.int (zI i))] [] T1 Q := by
  intro k
  induction k with
  | zero =>
    intro q v i T1 h hi hk hq
    refine w_X7_number_57 ?_
    unfold f_X7_number_57
    refine ⟨by omega, fun _ => ?_, fun c => absurd c (by omega)⟩
    have e : gI T1 0 20 (zI ((nu u n 0 q v).1 : Nat)) = T1 := gI_same (vI_to h.2.2.2.1)
    rw [e] at hq
    exact hq h i
  | succ k ih =>
    intro q v i T1 h hi hk hq
    have hn := h.1.n
    have hqn : q ≤ n := h.2.2.2.2.1
    refine w_X7_number_57 ?_
    unfold f_X7_number_57
    refine ⟨by omega, fun c => absurd c (by omega), fun _ => ?_⟩
    have hpl : vI T1 0 20 = (q : Int) := h.2.2.2.1
    refine k_peek h.1 hpl (by omega) ?_
    have hc := cz_rg (u := u) (n := n) (p := q) (fun _ => h.1.b (by omega))
    refine ⟨by omega, fun c => ?_, fun c => ?_⟩
    · have e0 : nu u n (k + 1) q v = (q, v) := by rw [nu, if_neg c]
      rw [e0, gI_same (vI_to hpl)] at hq
      exact hq h i
    · refine k_peek h.1 hpl (by omega) ?_
      have e0 : nu u n (k + 1) q v = nu u n k (q + 1) (10 * v + cz u n q - 48) := by rw [nu, if_pos c]
      rw [e0] at hq
      have hq1 : q < n := cz_lt (u := u) (by rw [zD_iff] at c; omega)
      rw [hpl]
      have h2 := h.pos (s := q + 1) (by omega)
      rw [show ((q + 1 : Nat) : Int) = (q : Int) + 1 by omega] at h2
      refine ih (q + 1) _ _ _ h2 (by omega) (by omega) ?_
      rw [gI_gI]
      exact hq
end NU
