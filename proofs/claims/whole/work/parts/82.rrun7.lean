section RJ
variable {sa : Nat → Nat} {b : Nat} {E : Nat × mH} {d : Nat} {T : gT} {A : aSt} {a : Nat} {c : Nat → Nat → Int} {n nv nf most : Nat}
theorem st1_o {s : mCf} {o : mOu} (h : st1 c n most s = .inr o) : o.2.2.1 = s.2.2.2.2.1 := by
  obtain ⟨cu, K, v, nb, st, us⟩ := s
  cases cu with
  | some p =>
    obtain ⟨l, e⟩ := p
    rw [st1] at h
    split at h
    · cases h; rfl
    · cases h
  | none =>
    cases K with
    | nil =>
      rw [st1] at h
      cases h
      split <;> rfl
    | cons p K =>
      obtain ⟨l, e, hh⟩ := p
      rw [st1] at h
      unfold hd1 at h
      split at h
      · split at h
        · cases h; rfl
        · cases h
      split at h
      · cases h
      split at h
      · cases h
      split at h
      · split at h
        · cases h; rfl
        · cases h
      · split at h
        · cases h; rfl
        · split at h
          · cases h; rfl
          · cases h
theorem rnF_st (hw : wP c n nv nf) : ∀ (f : Nat) (s : mCf), iCf c n most s → msr most s < f → (rnF c n most f s).2.2.1 ≤ most := by
  intro f
  induction f with
  | zero => intro s _ h; omega
  | succ f ih =>
    intro s hI h
    rw [rnF]
    cases hs : st1 c n most s with
    | inr o => dsimp only; rw [st1_o hs]; exact hI.2.2.1
    | inl s' =>
      obtain ⟨q1, q2⟩ := st1_i hw hI hs
      exact ih s' q1 (by omega)
/-- what run answers, what it leaves -/
def aRunA (po : Option aPg) (rn : aRn) (w : Int) : Int × aRn := match po with
  | none => (-2, rn)
  | some x => if 1 ≤ w ∧ w ≤ 2000 then ((rnP x.1 x.2.1 w.toNat).1, (rnP x.1 x.2.1 w.toNat).2.2.1, (rnP x.1 x.2.1 w.toNat).2.1, (rnP x.1 x.2.1 w.toNat).2.2.2) else (-2, rn)
theorem r_run {w : Int} (hw : okI w) (h : rA T A) : gC (tP sa) lM b E (d + 5) mX7_run [.ref (b + 0), .int (zI w)] T (qI T (aRunA A.2.2.1 A.2.2.2 w).1 (A.1, A.2.1, A.2.2.1, (aRunA A.2.2.1 A.2.2.2 w).2)) := by
  have h0 := h.t0
  obtain ⟨u, m, po, rn⟩ := A
  obtain ⟨h1, h2, h3, h4⟩ := id h
  dsimp only at h1 h2 h3 h4
  refine w_X7_run (d := d + 4) ?_
  unfold f_X7_run
  cases po with
  | none => exact ⟨fun _ => ⟨rfl, rfl, h0⟩, fun z => absurd h3 z⟩
  | some x =>
    obtain ⟨a, hp⟩ := h3
    obtain ⟨c, n, nv, nf⟩ := x
    dsimp only at hp
    have e4 := hp.2.2.2.1
    have hwp := hp.1
    obtain ⟨i1, i2, i3, i4, i5, _⟩ := hp.2.1
    unfold aRunA
    dsimp only
    refine ⟨fun z => by omega, fun _ => ⟨hw, fun z => ?_, fun z => ⟨fun z2 => ?_, fun z2 => ?_⟩⟩⟩
    · rw [if_neg (by omega)]; exact ⟨rfl, rfl, h0⟩
    · rw [if_pos (by omega)]
      obtain ⟨most, rfl⟩ : ∃ m : Nat, w = (m : Int) := ⟨w.toNat, by omega⟩
      rw [Int.toNat_natCast]
      generalize hTa : (gI (gI (gI (gJ (gI (gI (gI T 0 0 (zI 0)) 0 16 (zI 1)) 0 17 (zI 0)) 0 18 0) 0 36 (zI 0)) 0 42 (zI 0)) 0 46 (zI (-1))) = Ta
      have fa : fG Wr Vr (gI T 0 0 (zI 0)) Ta := by
        rw [← hTa]
        exact ((((((fG.refl.gI (Or.inl ⟨rfl, by omega⟩)).gI (Or.inl ⟨rfl, by omega⟩)).gJ (Or.inl ⟨rfl, by omega⟩)).gI (Or.inl ⟨rfl, by omega⟩)).gI (Or.inl ⟨rfl, by omega⟩)).gI (Or.inl ⟨rfl, by omega⟩))
      have hp0 : rPa (gI T 0 0 (zI 0)) a c n nv nf := hp.of (fun k j z => v_o (by omega)) (fun _ _ _ _ => rfl)
      have lp : ∀ (j i : Nat) (T1 : gT), j + i = 200 → fG Wr Vr (gI T 0 0 (zI 0)) T1 → vI T1 0 42 = 0 → vI T1 0 36 = 0 → vI T1 0 17 = 0 → vI T1 0 46 = -1 → vI T1 0 16 = 1 → T1.2.1 0 18 = 0 → (∀ l, l < i → T1.2.1 12 l = 0) → gW (tP sa) lM b E (d + 4 + 1) mX7_run 59 [some (.ref (b + 0)), some (.int (zI (most : Int))), some (.int (zI (i : Int)))] [] T1 (qI T (rnP c n most).1 (u, m, some (c, n, nv, nf), ((rnP c n most).2.2.1, (rnP c n most).2.1, (rnP c n most).2.2.2))) := by
        intro j
        induction j with
        | zero =>
          intro i T1 hj hf t1 t2 t3 t4 t5 t6 t7
          refine w_X7_run_59 (d := d + 4) ?_
          unfold f_X7_run_59
          refine ⟨by omega, fun _ => ?_, fun z => absurd z (by omega)⟩
          have hB : rB (gI T 0 0 (zI 0)) T1 c n 0 [] 0 0 (fun _ => 0) := ⟨hf, t1, Nat.le_refl _, trivial, t3, fun l hl => t7 l (by omega), t4, t5, t6⟩
          refine c_push (d := d + 4) (l := 0) (e := .nil) (v := .nil) (r := -1) hB t2 (by decide) (by rw [rX]) (by unfold okI; omega) (by decide) (fun T2 hT2 => ?_)
          refine run_lp (T0 := gI T 0 0 (zI 0)) (d := d) (O := rnP c n most) hp0 (by omega) (fun T' hE => ?_) (4 * most + 1) cf0 T2 hT2 (cf0_i hwp) ?_ (rnP_eq hwp (by omega) (by omega))
          · obtain ⟨x1, x2, x3, x4, x5, x6, x7⟩ := hE
            have hst : (rnP c n most).2.2.1 ≤ most := by
              rw [← rnP_eq (f := 4 * most + 1) hwp (by omega) (by omega)]
              refine rnF_st hwp _ _ (cf0_i hwp) ?_
              show 4 * (most - 0) + 0 < _
              omega
            obtain ⟨y1, y2, y3, y4⟩ := h0
            refine ⟨rfl, x1.2.2, ?_, ?_, ⟨a, rP_of hp0 x1⟩, x5, by show (rnP c n most).2.2.1 ≤ 2000; omega, Or.inl ⟨x7, x4, x6⟩⟩
            · exact tx.of y1 (fun i => x1.1 1 i (by unfold Wr; omega)) (x1.1 0 2 (by unfold Wr; omega))
            · rw [x1.v (by unfold Wr; omega)]; exact y2
          · show 4 * (most - 0) + 0 < _
            omega
        | succ j ih =>
          intro i T1 hj hf t1 t2 t3 t4 t5 t6 t7
          refine w_X7_run_59 (d := d + 4) ?_
          unfold f_X7_run_59
          rw [Int.toNat_natCast, show (i : Int) + 1 = ((i + 1 : Nat) : Int) by omega]
          refine ⟨by omega, fun z => absurd z (by omega), fun _ => ⟨by omega, by omega, ih (i + 1) _ (by omega) (hf.gJ (Or.inr (Or.inl rfl))) t1 t2 t3 t4 t5 ?_ (fun l hl => ?_)⟩⟩
          · rw [gJ_J, if_neg (by omega)]; exact t6
          · rw [gJ_J]
            by_cases e : l = i
            · rw [if_pos ⟨rfl, e⟩]
            · rw [if_neg (fun q => e q.2)]; exact t7 l (by omega)
      refine lp 200 0 Ta rfl fa ?_ ?_ ?_ ?_ ?_ ?_ (fun l hl => by omega)
      · rw [← hTa, v_o (by omega), v_s (by omega)]
      · rw [← hTa, v_o (by omega), v_o (by omega), v_s (by omega)]
      · rw [← hTa, v_o (by omega), v_o (by omega), v_o (by omega), vI_gJ, v_s (by omega)]
      · rw [← hTa, v_s (by omega)]
      · rw [← hTa, v_o (by omega), v_o (by omega), v_o (by omega), vI_gJ, v_o (by omega), v_s (by omega)]
      · rw [← hTa, gI_J, gI_J, gI_J, gJ_J, if_pos ⟨rfl, rfl⟩]
    · rw [if_neg (by omega)]; exact ⟨rfl, rfl, h0⟩
end RJ
