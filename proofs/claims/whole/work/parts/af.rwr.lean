/-! THE REFERENCE'S write -/
section RWR
variable {sa : Nat → Nat} {b : Nat} {E : Nat × mH} {d : Nat} {T : gT} {A : aSt}
theorem r_write (hS : mKeyS sa b E) (h : rA T A) : gC (tP sa) lM b E (d + 407) mX7_write [.ref (b + 0)] T (fun r T' => r = some (.int (zI (aWr A).1)) ∧ rA T' (aWr A).2 ∧ (T.2.2.1 ≤ T'.2.2.1 ∧ T'.2.2.1 ≤ T.2.2.1 + 400) ∧ (T.2.2.2 ≤ T'.2.2.2 ∧ T'.2.2.2 ≤ T.2.2.2 + 1000)) := by
  obtain ⟨⟨t1, t2, t3⟩, hnow, hp, hr⟩ := id h
  refine w_X7_write (d := d + 406) ?_
  unfold f_X7_write
  refine ⟨fun hne => ?_, fun h0 => ?_⟩
  · cases hpo : A.2.2.1 with
    | none => rw [hpo] at hp; exact absurd hp hne
    | some x =>
      rw [hpo] at hp
      obtain ⟨a, hpa⟩ := hp
      obtain ⟨c, n, nv, nf⟩ := x
      dsimp only at hpa
      have hw := hpa.1
      have hn := hw.1
      have hsh := sE_sh hw
      have hlen := hsh.1
      have hcn := hpa.2.1
      have r0 : rW (gI (gI T 0 0 (zI 0)) 0 51 (zI 0)) a c n := ⟨hcn.1, by rw [v_o (by omega), v_o (by omega)]; exact hcn.2.1, fun l w h1 h2 => by
        have := hcn.2.2.2.1 l w h1 h2
        unfold cV at this ⊢
        rw [v_o (by omega), v_o (by omega)]; exact this⟩
      have b0 : mBf (gI (gI T 0 0 (zI 0)) 0 51 (zI 0)) 0 51 28 [] := ⟨v_s (by decide), fun i _ hi => absurd hi (Nat.not_lt_zero _)⟩
      refine (t_expr7 (d := d) hw hS 200 0 (gI (gI T 0 0 (zI 0)) 0 51 (zI 0)) [] _ hw.flat.1 (by omega) r0 b0 (by show 0 + _ < _; omega) (fun T2 h2 f2 => ?_)).mono (by omega) (fun _ _ x => x)
      rw [List.nil_append] at h2
      have hen := en_0 hw
      rw [hen] at f2
      have room : (T.2.2.1 ≤ T2.2.2.1 ∧ T2.2.2.1 ≤ T.2.2.1 + 400) ∧ (T.2.2.2 ≤ T2.2.2.2 ∧ T2.2.2.2 ≤ T.2.2.2 + 1000) := by
        have g1 := f2.2.2.1
        have g2 := f2.2.2.2
        rw [gI_J, gI_J] at g1 g2
        exact ⟨by omega, by omega⟩
      have keep : ∀ k i, k ≠ 1 → ¬ (k = 0 ∧ (i = 0 ∨ i = 2 ∨ 19 ≤ i)) → k ≤ 12 → vI T2 k i = vI T k i := fun k i h1 h3 h4 => by
        rw [f2.v (by unfold Wb; omega), v_o (by omega), v_o (by omega)]
      have keepJ : T2.2.1 = T.2.1 := by funext k i; rw [f2.2.1 k i]; rfl
      have tx2 : ∀ i, T2.1 1 i = T.1 1 i := fun i => by rw [f2.1 1 i (by unfold Wb; omega), gI_I, if_neg (fun z => absurd z.1 (by decide)), gI_I, if_neg (fun z => absurd z.1 (by decide))]
      rw [h2.1]
      refine ⟨fun hs => ?_, fun hs => ?_⟩
      · rw [aWr_some hpo (by show ¬ 400 < (sE c 200 0).length; omega)]
        dsimp only
        -- the bytes are copied
        have lp : ∀ (j i : Nat) (T3 : gT), j + i = (sE c 200 0).length → (∀ l, l < i → T3.1 1 l = sb_b ((sE c 200 0).getD l 0)) → (∀ l, i ≤ l → T3.1 1 l = T2.1 1 l) → (∀ k l, k ≠ 1 → T3.1 k l = T2.1 k l) → T3.2 = T2.2 → gW (tP sa) lM b E (d + 406 + 1) mX7_write 39 [some (.ref (b + 0)), some (.int (zI (i : Int)))] [] T3 (fun r T' => r = some (.int (zI (((sE c 200 0).length : Nat) : Int))) ∧ rA T' (fun i => if i < (sE c 200 0).length then (sE c 200 0).getD i 0 else A.1 i, (sE c 200 0).length, A.2.2) ∧ (T.2.2.1 ≤ T'.2.2.1 ∧ T'.2.2.1 ≤ T.2.2.1 + 400) ∧ (T.2.2.2 ≤ T'.2.2.2 ∧ T'.2.2.2 ≤ T.2.2.2 + 1000)) := by
          intro j
          induction j with
          | zero =>
            intro i T3 hj g1 g2 g3 g4
            have e51 : vI T3 0 51 = (((sE c 200 0).length : Nat) : Int) := by unfold vI; rw [g3 0 51 (by decide)]; exact h2.1
            refine w_X7_write_39 ?_
            unfold f_X7_write_39
            rw [e51]
            refine ⟨by omega, fun _ => ⟨rfl, h.tx (fun l hl => ?_) (v_s (by omega)) (by omega) (fun k l k1 k2 k3 => ?_) (by rw [gI_J, g4]; exact keepJ), by rw [gI_J, g4]; exact room.1, by rw [gI_J, g4]; exact room.2⟩, fun z => by omega⟩
            · have e1 : (gI T3 0 2 (zI (((sE c 200 0).length : Nat) : Int))).1 1 l = T3.1 1 l := by rw [gI_I, if_neg (fun z => absurd z.1 (by decide))]
              rw [e1]
              by_cases y : l < (sE c 200 0).length
              · simp only [y, if_true]
                exact ⟨by have := getD_lt (i := l) hsh; omega, g1 l (by omega)⟩
              · simp only [y, if_false]
                rw [g2 l (by omega), tx2 l]
                exact t1 l hl
            · rw [v_o (by omega)]
              have : vI T3 k l = vI T2 k l := by unfold vI; rw [g3 k l k1]
              rw [this]
              exact keep k l k1 k2 k3
          | succ j ih =>
            intro i T3 hj g1 g2 g3 g4
            have e51 : vI T3 0 51 = (((sE c 200 0).length : Nat) : Int) := by unfold vI; rw [g3 0 51 (by decide)]; exact h2.1
            have e28 : vp_nar .byte (zI (vI T3 28 i)) = sb_b ((sE c 200 0).getD i 0) := by
              rw [zI_v, g3 28 i (by decide), h2.2 i (by omega) (by omega)]
              exact nar_nar (by have := getD_lt (i := i) hsh; omega)
            refine w_X7_write_39 ?_
            unfold f_X7_write_39
            rw [e51, Int.toNat_natCast, e28, show (i : Int) + 1 = ((i + 1 : Nat) : Int) by omega]
            refine ⟨by omega, fun z => by omega, fun _ => ⟨by omega, by omega, ih (i + 1) _ (by omega) (fun l hl => ?_) (fun l hl => ?_) (fun k l hk => ?_) (by rw [gI_J, g4])⟩⟩
            · rw [gI_I]
              by_cases y : l = i
              · rw [if_pos ⟨rfl, y⟩, y]
              · rw [if_neg (fun z => y z.2)]; exact g1 l (by omega)
            · rw [gI_I, if_neg (by omega)]; exact g2 l (by omega)
            · rw [gI_I, if_neg (fun z => hk z.1)]; exact g3 k l hk
        exact lp (sE c 200 0).length 0 T2 (by omega) (fun l hl => absurd hl (Nat.not_lt_zero _)) (fun _ _ => rfl) (fun _ _ _ => rfl) rfl
      · rw [aWr_long hpo (by show 400 < (sE c 200 0).length; omega)]
        refine ⟨rfl, ?_, room⟩
        exact h.tx (u := A.1) (m := A.2.1) (fun l hl => ⟨(t1 l hl).1, (tx2 l).trans (t1 l hl).2⟩) (by rw [f2.v (by unfold Wb; omega), v_o (by omega), v_o (by omega)]; exact t2) t3 keep keepJ
  · cases hpo : A.2.2.1 with
    | none =>
      rw [aWr_none hpo]
      exact ⟨rfl, h.t0, by rw [gI_J]; omega, by rw [gI_J]; omega⟩
    | some x =>
      rw [hpo] at hp
      obtain ⟨a, hpa⟩ := hp
      have := hpa.2.2.2.1
      omega
end RWR
