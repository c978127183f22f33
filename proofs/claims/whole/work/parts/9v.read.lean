/-! THE CLASS'S READ -/
section RD8
variable {sa : Nat → Nat} {b : Nat} {E : Nat × mH} {d : Nat} {T : gT} {A : aSt}
/-- what reading leaves of the desk -/
theorem cAq.wg {T' : gT} {q q2 : Nat} (h : cAq T q A) (h2 : q2 + q = 23) (f : fG (Wg q2) V0 T T') : cAq T' q A := by
  obtain ⟨⟨t1, t2, t3⟩, hq, e2, e3, hp, r1, r2, r3, r4⟩ := h
  have v : ∀ {k i : Nat}, k < 40 ∨ 46 < k → k < q2 ∨ q2 + 3 < k → vI T' k i = vI T k i := fun z1 z2 => f.v (by unfold Wg Wf; omega)
  have j : ∀ k i, T'.2.1 k i = T.2.1 k i := fun k i => f.2.1 k i id
  refine ⟨⟨fun i hi => ⟨(t1 i hi).1, (f.1 1 i (by unfold Wg Wf; omega)).trans (t1 i hi).2⟩, (v (by omega) (by omega)).trans t2, t3⟩, hq, (v (by omega) (by omega)).trans e2, (v (by omega) (by omega)).trans e3, ?_, (v (by omega) (by omega)).trans r1, r2, (j _ _).trans r3, fun l hl => (j _ _).trans (r4 l hl)⟩
  revert hp
  cases A.2.2.1 with
  | none => rintro ⟨a1, a2, a3⟩; exact ⟨(v (by omega) (by omega)).trans a1, (v (by omega) (by omega)).trans a2, (v (by omega) (by omega)).trans a3⟩
  | some x =>
    rintro ⟨a1, a2, a3, a4⟩
    refine ⟨a1.of (fun k i z1 z2 => v (by omega) (by omega)), fun l hl => (j _ _).trans (a2 l hl), fun l hl => (j _ _).trans (a3 l hl), ?_⟩
    exact a4.of (fun t _ => j _ _)
theorem s_read (hE : mSta sa b E) (hK : mKeyC sa b E) (h : cA T A) : gC (tP sa) lD b E (d + 9) mX6_read [.ref (b + 0)] T (fun r T' => pI r (fun v => T'.2.2 = T.2.2 ∧ match rdP A.1 A.2.1 with
    | .inl q => v = (q : Int) ∧ cA T' A
    | .inr x => v = -1 ∧ cA T' (A.1, A.2.1, some x, rn0))) := by
  obtain ⟨q, hA⟩ := h
  obtain ⟨⟨t1, t2, t3⟩, hq, e2, e3, hp, hr⟩ := id hA
  obtain ⟨u, m, po, rn⟩ := A
  dsimp only at *
  refine w_X6_read (d := d + 8) ?_
  unfold f_X6_read
  obtain ⟨q2, hq2⟩ : ∃ q2, q2 + q = 23 := ⟨23 - q, by omega⟩
  refine ⟨q2, by omega, by omega, ?_⟩
  rw [t2]
  have hu : ∀ i, i < m → u i < 256 := fun i hi => (t1 i (by omega)).1
  refine d_load (d := d) hE hK (by omega) t3 t1 (fun f T1 hr1 fb f1 => ?_) (fun x T1 hr1 f1 h0 htk => ?_)
  · refine ⟨by omega, fun _ => ⟨_, rfl, f1.2.2, ?_⟩, fun z => by omega⟩
    rw [hr1]
    exact ⟨rfl, q, hA.wg hq2 f1⟩
  · refine ⟨by decide, fun z => absurd rfl z, fun _ => ?_⟩
    have hw := rdP_wP hu hr1
    obtain ⟨c, n, nv, nf⟩ := x
    dsimp only at *
    have hnv := hw.2.1
    have hA1 := hA.wg hq2 f1
    refine s_take (d := d + 3) (q := q) (q2 := q2) (old := id) hE hw ⟨fun v hv => by show v < 200; omega, fun v w _ _ e => e⟩ ⟨hA1.1, hA1.2.1, hA1.2.2.1, hA1.2.2.2.1⟩ hq2 h0 (fun l hl => ?_) (fun T2 e22 hA2 => ⟨_, rfl, by rw [e22, f1.2.2], ?_⟩)
    · obtain ⟨w1, w2, w3, _⟩ := (hw.flat.2.2.2 l hl).1
      obtain ⟨k1, k2, k3⟩ := htk l hl
      refine ⟨k1, k2.trans ?_, k3.trans ?_⟩
      · unfold tV
        split
        · rename_i z; have := (w2 z).1; show c l 1 = (((c l 1).toNat : Nat) : Int); omega
        · rfl
      · unfold tS
        split
        · rename_i z; have := (w3 z).1; show c l 2 = (((c l 2).toNat : Nat) : Int); omega
        · rfl
    · rw [hr1]
      exact ⟨rfl, q2, hA2⟩
end RD8
