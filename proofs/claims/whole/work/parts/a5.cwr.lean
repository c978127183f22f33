/-! THE CLASS'S write -/
/-- what write answers, and the text behind it -/
def aWr (A : aSt) : Int × aSt := match A.2.2.1 with
  | none => (-2, A)
  | some x => if 400 < (sE x.1 200 0).length then (-1, A) else ((((sE x.1 200 0).length : Nat) : Int), (fun i => if i < (sE x.1 200 0).length then (sE x.1 200 0).getD i 0 else A.1 i, (sE x.1 200 0).length, A.2.2))
theorem aWr_none {A : aSt} (h : A.2.2.1 = none) : aWr A = (-2, A) := by unfold aWr; rw [h]
theorem aWr_long {A : aSt} {x : aPg} (h : A.2.2.1 = some x) (hl : 400 < (sE x.1 200 0).length) : aWr A = (-1, A) := by unfold aWr; rw [h]; exact if_pos hl
theorem aWr_some {A : aSt} {x : aPg} (h : A.2.2.1 = some x) (hl : ¬ 400 < (sE x.1 200 0).length) : aWr A = ((((sE x.1 200 0).length : Nat) : Int), (fun i => if i < (sE x.1 200 0).length then (sE x.1 200 0).getD i 0 else A.1 i, (sE x.1 200 0).length, A.2.2)) := by unfold aWr; rw [h]; exact if_neg hl
theorem sE_sh {c : Nat → Nat → Int} {n nv nf : Nat} (hw : wP c n nv nf) : shA 45000 (sE c 200 0) := by
  rw [← Fo_all hw]
  have := hw.1
  exact (Fo_sh c n).le (by omega)
theorem getD_lt {w : List Nat} {k i : Nat} (h : shA k w) : w.getD i 0 < 128 := by
  rw [List.getD_eq_getElem?_getD]
  by_cases hi : i < w.length
  · rw [List.getElem?_eq_getElem hi]; exact h.2 _ (List.getElem_mem _)
  · rw [List.getElem?_eq_none (by omega)]; decide
section CW3
variable {sa : Nat → Nat} {b : Nat} {E : Nat × mH} {d : Nat} {T : gT} {A : aSt}
theorem cAq.fB {T' : gT} {q : Nat} (h : cAq T q A) (f : fB 63 1 64 T T') : cAq T' q A := by
  obtain ⟨⟨t1, t2, t3⟩, hq, e2, e3, hp, r1, r2, r3, r4⟩ := h
  have v : ∀ {k i : Nat}, k < 63 → vI T' k i = vI T k i := fun z1 => f.v (by unfold Wb; omega)
  have j : ∀ k i, T'.2.1 k i = T.2.1 k i := fun k i => f.2.1 k i id
  refine ⟨⟨fun i hi => ⟨(t1 i hi).1, (f.1 1 i (by unfold Wb; omega)).trans (t1 i hi).2⟩, (v (by omega)).trans t2, t3⟩, hq, (v (by omega)).trans e2, (v (by omega)).trans e3, ?_, (v (by omega)).trans r1, r2, (j _ _).trans r3, fun l hl => (j _ _).trans (r4 l hl)⟩
  revert hp
  cases A.2.2.1 with
  | none => rintro ⟨a1, a2, a3⟩; exact ⟨(v (by omega)).trans a1, (v (by omega)).trans a2, (v (by omega)).trans a3⟩
  | some x =>
    rintro ⟨a1, a2, a3, a4⟩
    exact ⟨a1.of (fun k i z1 z2 => v (by omega)), fun l hl => (j _ _).trans (a2 l hl), fun l hl => (j _ _).trans (a3 l hl), a4.of (fun t _ => j _ _)⟩
/-- another text -/
theorem cAq.tx {T' : gT} {q m : Nat} {u : Nat → Nat} (h : cAq T q A) (h1 : mTx T' 1 u) (h2 : vI T' 0 1 = (m : Int)) (hm : m ≤ 400) (f : ∀ k i, k ≠ 1 → ¬ (k = 0 ∧ i = 1) → vI T' k i = vI T k i) (j : T'.2.1 = T.2.1) : cAq T' q (u, m, A.2.2) := by
  obtain ⟨_, hq, e2, e3, hp, r1, r2, r3, r4⟩ := h
  have v : ∀ {k i : Nat}, 1 < k → vI T' k i = vI T k i := fun z1 => f _ _ (by omega) (by omega)
  have j : ∀ k i, T'.2.1 k i = T.2.1 k i := fun k i => by rw [j]
  refine ⟨⟨h1, h2, hm⟩, hq, (f _ _ (by omega) (by omega)).trans e2, (f _ _ (by omega) (by omega)).trans e3, ?_, (v (by omega)).trans r1, r2, (j _ _).trans r3, fun l hl => (j _ _).trans (r4 l hl)⟩
  revert hp
  show cPo T q A.2.2.1 → cPo T' q A.2.2.1
  cases A.2.2.1 with
  | none => rintro ⟨a1, a2, a3⟩; exact ⟨(v (by omega)).trans a1, (v (by omega)).trans a2, (v (by omega)).trans a3⟩
  | some x =>
    rintro ⟨a1, a2, a3, a4⟩
    exact ⟨a1.of (fun k i z1 z2 => v (by omega)), fun l hl => (j _ _).trans (a2 l hl), fun l hl => (j _ _).trans (a3 l hl), a4.of (fun t _ => j _ _)⟩
theorem s_write (hE : mSta sa b E) (hK : mKeyW sa b E) (h : cA T A) : gC (tP sa) lD b E (d + 7) mX6_write [.ref (b + 0)] T (sI T (aWr A).1 (aWr A).2) := by
  obtain ⟨q, hA⟩ := h
  obtain ⟨⟨t1, t2, t3⟩, hq, e2, e3, hp, hr⟩ := id hA
  refine w_X6_write (d := d + 6) ?_
  unfold f_X6_write
  refine ⟨q, hq, e2, fun hne => ?_, fun h0 => ?_⟩
  · cases hpo : A.2.2.1 with
    | none => rw [hpo] at hp; exact absurd hp.1 hne
    | some x =>
      rw [hpo] at hp
      have hc := hp.1
      have hsh := sE_sh hc.1
      have hlen := hsh.1
      refine p_put (d := d) hE hK hc (fun T1 h1 f1 => ?_)
      refine ⟨(sE x.1 200 0).length, by omega, h1.1, fun hb => ?_, fun hs => ⟨fun i hi => ⟨_, ?_, h1.2 i (by omega) hi⟩, fun T2 hT2 hJ2 => ?_⟩⟩
      · rw [aWr_long hpo hb]
        exact ⟨rfl, f1.2.2, q, hA.fB f1⟩
      · have := getD_lt (i := i) hsh; omega
      · rw [aWr_some hpo (by omega)]
        have hA1 := hA.fB f1
        have v2 : ∀ k i, k ≠ 1 → vI T2 k i = vI T1 k i := fun k i hk => by unfold vI; rw [hT2 k i, if_neg (fun z => hk z.1)]
        refine ⟨rfl, by rw [gI_J, hJ2]; exact f1.2.2, q, hA1.tx (fun i hi => ?_) (v_s (by omega)) (by omega) (fun k i k1 k2 => ?_) (by rw [gI_J, hJ2])⟩
        · have e1 : (gI T2 0 1 (zI (((sE x.1 200 0).length : Nat) : Int))).1 1 i = if 1 = 1 ∧ i < (sE x.1 200 0).length then T1.1 64 i else T1.1 1 i := by
            rw [gI_I, if_neg (fun z => absurd z.1 (by decide)), hT2 1 i]
          rw [e1]
          by_cases y : i < (sE x.1 200 0).length
          · simp only [y, and_self, if_true]
            exact ⟨by have := getD_lt (i := i) hsh; omega, h1.2 i hi y⟩
          · simp only [y, and_false, if_false]
            exact hA1.1.1 i hi
        · rw [v_o k2]; exact v2 k i k1
  · cases hpo : A.2.2.1 with
    | none =>
      rw [aWr_none hpo]
      exact ⟨rfl, rfl, q, hA⟩
    | some x =>
      rw [hpo] at hp
      have h1 := hp.1.1.flat.1
      have h2 := hp.1.2.2.1
      omega
end CW3
