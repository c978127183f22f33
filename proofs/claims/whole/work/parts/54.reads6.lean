/-! THE REFERENCE READS: a form, an expr -/
section FM2
variable {sa : Nat → Nat} {b : Nat} {E : Nat × mH} {d : Nat} {T : gT} {u : Nat → Nat} {n p : Nat} {env : List (List Nat × Nat)} {o : Int} {σ : xS}
/-- behind begin: a fix -/
theorem fm_fix {r s0 l nv nf s9 : Nat} {a1 a2 a4 : Int} {up m : Int} {T2 : gT} {φ : Int → gT → Prop} (hr : r ≤ 40) (hR : hRec sa b E u n p r (d + 4)) (hl : l < 200) (h2 : pR T2 u n p env (40 - (r : Int)) (s0, l + 1, nv, nf)) (f2 : fr (Wp p) T T2) (e2 : cE T T2 p l) (r2 : cR T2 p l (xTok 3 (-1) (-1) (-1) (-1) (-1) up)) (ht : tx T u n) (hm : m = 403 + (r : Int))
    (hφ : ∀ v T', xP T T' u n p env (40 - (r : Int)) (s9, l, nv, nf) m (xFx u n (px u n r) env up (s0, l + 1, nv, nf)) v → φ v T') :
    gC (tP sa) lM b E (d + 4) mX7_binding [.ref (b + 0)] T2 (fun r T236 => pI r (fun v236 => (((vI T236 0 22) = 0 → gC (tP sa) lM b E (d + 4) mX7_binding [.ref (b + 0)] T236 (fun r T253 => pI r (fun v253 => gW (tP sa) lM b E (d + 4 + 1) mX7_form 256 [some (.ref (b + 0)), some (.int (zI a1)), some (.int (zI a2)), some (.int (zI (p : Int))), some (.int (zI a4)), some (.int (zI 3)), some (.int (zI (l : Int))), some (.int (zI v236)), none, none, none] [.int (zI v253)] T253 (fun r T' => pI r (fun v => φ v T'))))) ∧ (¬ (vI T236 0 22) = 0 → gW (tP sa) lM b E (d + 4 + 1) mX7_form 256 [some (.ref (b + 0)), some (.int (zI a1)), some (.int (zI a2)), some (.int (zI (p : Int))), some (.int (zI a4)), some (.int (zI 3)), some (.int (zI (l : Int))), some (.int (zI v236)), none, none, none] [.int (zI 0)] T236 (fun r T' => pI r (fun v => φ v T')))))) := by
  have hp2 := h2.p2
  have hva : nv ≤ 100 := h2.va2
  have bad : ∀ {q : Nat} {x y : Int} {T5 : gT}, pF T T5 p q 400 env.length nv → xFx u n (px u n r) env up (s0, l + 1, nv, nf) = .inl q → gW (tP sa) lM b E (d + 4 + 1) mX7_form 256 [some (.ref (b + 0)), some (.int (zI a1)), some (.int (zI a2)), some (.int (zI (p : Int))), some (.int (zI a4)), some (.int (zI 3)), some (.int (zI (l : Int))), some (.int (zI x)), none, none, none] [.int (zI y)] T5 (fun r T' => pI r (fun v => φ v T')) := by
    intro q x y T5 hF hx
    refine w_X7_form_256 ?_
    unfold f_X7_form_256
    refine ⟨fun z => absurd z (by rw [hF.2.1]; decide), fun _ => ⟨_, rfl, hφ _ _ ?_⟩⟩
    rw [hx]
    exact hF.le (by omega)
  refine c_binding h2 (fun w σ1 T3 hx hT hf h4 => ?_) (fun q v T3 hx hT => ?_)
  · have hσ := xBd_ok hx
    dsimp only at hσ
    generalize he : we u n (sk u n s0) = e9 at hσ
    subst hσ
    dsimp only at hT
    refine ⟨fun _ => ?_, fun z => absurd hT.wr z⟩
    refine c_binding hT (fun w2 σ2 T4 hx2 hT2 hf2 h42 => ?_) (fun q v T4 hx2 hT2 => ?_)
    · have hσ2 := xBd_ok hx2
      dsimp only at hσ2
      generalize he2 : we u n (sk u n e9) = e8 at hσ2
      subst hσ2
      dsimp only at hT2
      refine w_X7_form_256 ?_
      unfold f_X7_form_256
      refine ⟨fun _ => ⟨by omega, by omega, by omega, by omega, ?_⟩, fun z => absurd hT2.wr z⟩
      rw [Int.toNat_natCast, Int.toNat_natCast]
      dsimp only
      have h5 := pR_cS (l := l) (w := 2) (x := (nv : Int)) (pR_cS (l := l) (w := 1) (x := ((nv + 1 : Nat) : Int)) hT2)
      have f5 := cS_fr (l := l) (w := 2) (x := (nv : Int)) (cS_fr (l := l) (w := 1) (x := ((nv + 1 : Nat) : Int)) ((f2.trans hf).trans hf2) hl (by omega)) hl (by omega)
      have e5 : cE T (cS (cS T4 p l 1 ((nv + 1 : Nat) : Int)) p l 2 (nv : Int)) p l := (((e2.of4 h4).of4 h42).cS (Nat.le_refl _) (by omega)).cS (Nat.le_refl _) (by omega)
      have r5 := cR_cS (w := 2) (x := (nv : Int)) (cR_cS (w := 1) (x := ((nv + 1 : Nat) : Int)) ((r2.of4 h4).of4 h42) (by omega) (by omega)) (by omega) (by omega)
      refine hR _ _ _ (l : Int) _ h5 (by omega) (fun v T9 hP => ?_)
      refine ⟨by omega, by omega, ?_⟩
      cases hpx : px u n r ((w2, nv + 1) :: (w, nv) :: env) l (e8, l + 1, nv + 1 + 1, nf) with
      | inl q =>
        rw [hpx] at hP
        have hP1 : pF _ T9 p q (402 + (r : Int)) (((w2, nv + 1) :: (w, nv) :: env).length) ((nv + 1 + 1 : Nat) : Int) := hP
        have hb1 := hP1.2.2.2.2.2.1
        have hb2 := hP1.2.2.2.2.2.2.1
        have hb3 := hP1.2.2.2.2.2.2.2
        rw [List.length_cons, List.length_cons] at hb1 hb2
        have hbn := hT2.bo2
        rw [List.length_cons, List.length_cons] at hbn
        dsimp only at hbn
        have e27 : vI (cS T9 p l 3 v) 0 27 = vI T9 0 27 := by unfold cS; rw [v_o (by omega)]
        have e3 : vI (cS T9 p l 3 v) 3 p = vI T9 3 p := by unfold cS; rw [v_o (by omega)]
        have hF : pF T (gI (cS T9 p l 3 v) 0 27 (zI (vI T9 0 27 - 2))) p q (402 + (r : Int)) env.length nv := pF_bd (pF_cS (hP1.pre f5) hl (by omega)) (by omega) (by omega) (by omega) (by rw [e3]; omega)
        refine fm_cf519c (d := d + 3) (a10 := 0) ht hF (by omega) (m := m) (by omega) (by omega) (fun v T' z => hφ v T' ?_)
        unfold xFx
        rw [hx]
        dsimp only
        rw [hx2]
        dsimp only
        rw [show (((l + 1 : Nat) : Int) - 1) = (l : Int) by omega, hpx]
        exact z
      | inr y =>
        obtain ⟨σ3, ts⟩ := y
        rw [hpx] at hP
        obtain ⟨hv, h9, f9, ⟨k1, k2⟩, h8, h7⟩ := hP
        have k1' : cE _ T9 p (l + 1) := k1
        have k2' : cC T9 p (l + 1) ts := k2
        dsimp only at h8 hv h7
        have hbo := h9.bo
        rw [List.length_cons, List.length_cons] at hbo
        refine fm_cl519c (d := d + 3) (m0 := 0) (m := m) (a10 := 0) (nv := nv) (nf := nf) (s9 := s9) (t9 := xTok 3 ((nv + 1 : Nat) : Int) nv ((l + 1 : Nat) : Int) (-1) (-1) up) ((pR_cS h9).un2 (by omega)) ((cS_fr (f5.trans f9) hl (by omega)).gI (Or.inl ⟨rfl, by omega⟩)) (((e5.trans (k1'.mono (by omega))).cS (Nat.le_refl _) (by omega)).gI (by decide)) (cR_gI (cR_cS (r5.cE k1' (by omega)) (by omega) (by omega)) (by decide)) ((k2'.cS (by omega) (by omega)).gI (by decide)) ?_ h8 (by omega) (by omega) (fun v' T' z => hφ v' T' ?_)
        · intro w hw
          obtain rfl | rfl | rfl | rfl | rfl | rfl | rfl : w = 0 ∨ w = 1 ∨ w = 2 ∨ w = 3 ∨ w = 4 ∨ w = 5 ∨ w = 6 := by omega
          all_goals simp [tokS, xTok]
          omega
        · unfold xFx
          rw [hx]
          dsimp only
          rw [hx2]
          dsimp only
          rw [show (((l + 1 : Nat) : Int) - 1) = (l : Int) by omega, hpx]
          exact z
    · refine bad (q := q) ?_ ?_
      · have := hT2.pre (f2.trans hf)
        rw [List.length_cons] at this
        exact this.dn
      · unfold xFx
        rw [hx]
        dsimp only
        rw [hx2]
  · have hF := hT.pre f2
    refine ⟨fun z => absurd z (by rw [hF.2.1]; decide), fun _ => bad hF ?_⟩
    unfold xFx
    rw [hx]
/-- behind begin: a let -/
theorem fm_let {r s0 l nv nf s9 : Nat} {a1 a2 a4 : Int} {up m : Int} {T2 : gT} {φ : Int → gT → Prop} (hr : r ≤ 40) (hR : hRec sa b E u n p r (d + 4)) (hl : l < 200) (h2 : pR T2 u n p env (40 - (r : Int)) (s0, l + 1, nv, nf)) (f2 : fr (Wp p) T T2) (e2 : cE T T2 p l) (r2 : cR T2 p l (xTok 5 (-1) (-1) (-1) (-1) (-1) up)) (ht : tx T u n) (hm : m = 403 + (r : Int))
    (hφ : ∀ v T', xP T T' u n p env (40 - (r : Int)) (s9, l, nv, nf) m (xLt u n (px u n r) env up (s0, l + 1, nv, nf)) v → φ v T') :
    gC (tP sa) lM b E (d + 4) mX7_binding [.ref (b + 0)] T2 (fun r T325 => pI r (fun v325 => (((vI T325 0 22) = 0 → (0 ≤ (p : Int) ∧ (p : Int) < 2) ∧ (0 ≤ (l : Int) ∧ (l : Int) < 200) ∧ 0 ≤ (vI T325 0 27) - 1 ∧ (vI T325 0 27) - 1 < 200 ∧ gC (tP sa) lM b E (d + 4) mX7_expression [.ref (b + 0), .int (zI (l : Int))] (gI (cS T325 (p : Int).toNat (l : Int).toNat 1 v325) 0 27 (zI ((vI T325 0 27) - 1))) (fun r T373 => pI r (fun v373 => (0 ≤ (p : Int) ∧ (p : Int) < 2) ∧ (0 ≤ (l : Int) ∧ (l : Int) < 200) ∧ 0 ≤ vI T373 0 27 ∧ vI T373 0 27 < 200 ∧ (((vI T373 0 22) = 0 → gC (tP sa) lM b E (d + 4) mX7_expression [.ref (b + 0), .int (zI (l : Int))] (gI (gI (gI (cS T373 (p : Int).toNat (l : Int).toNat 3 v373) 13 (vI T373 0 27).toNat (zI (vI T325 13 ((vI T325 0 27) - 1).toNat))) 14 (vI T373 0 27).toNat (zI v325)) 0 27 (zI ((vI T373 0 27) + 1))) (fun r T434 => pI r (fun v434 => gW (tP sa) lM b E (d + 4 + 1) mX7_form 437 [some (.ref (b + 0)), some (.int (zI a1)), some (.int (zI a2)), some (.int (zI (p : Int))), some (.int (zI a4)), some (.int (zI 5)), some (.int (zI (l : Int))), some (.int (zI v325)), some (.int (zI (vI T325 13 ((vI T325 0 27) - 1).toNat))), some (.int (zI v373)), none] [.int (zI v434)] T434 (fun r T' => pI r (fun v => φ v T'))))) ∧ (¬ (vI T373 0 22) = 0 → gW (tP sa) lM b E (d + 4 + 1) mX7_form 437 [some (.ref (b + 0)), some (.int (zI a1)), some (.int (zI a2)), some (.int (zI (p : Int))), some (.int (zI a4)), some (.int (zI 5)), some (.int (zI (l : Int))), some (.int (zI v325)), some (.int (zI (vI T325 13 ((vI T325 0 27) - 1).toNat))), some (.int (zI v373)), none] [.int (zI (-1))] (gI (gI (gI (cS T373 (p : Int).toNat (l : Int).toNat 3 v373) 13 (vI T373 0 27).toNat (zI (vI T325 13 ((vI T325 0 27) - 1).toNat))) 14 (vI T373 0 27).toNat (zI v325)) 0 27 (zI ((vI T373 0 27) + 1))) (fun r T' => pI r (fun v => φ v T'))))))) ∧ (¬ (vI T325 0 22) = 0 → pI (some (.int (zI (-1)))) (fun v => φ v T325))))) := by
  have hp2 := h2.p2
  have hva : nv ≤ 100 := h2.va2
  refine c_binding h2 (fun w σ1 T3 hx hT hf h4 => ?_) (fun q v T3 hx hT => ?_)
  · have hσ := xBd_ok hx
    dsimp only at hσ
    generalize he : we u n (sk u n s0) = e9 at hσ
    subst hσ
    dsimp only at hT ⊢
    have hbo := hT.bo
    rw [List.length_cons] at hbo
    have hbo2 := hT.bo2
    rw [List.length_cons] at hbo2
    dsimp only at hbo2
    have hnm : nmv w := hT.en.2.2.1
    have hc7 : vI T3 13 env.length = c7 w := hT.en.1
    have hrg := c7_rg hnm
    refine ⟨fun _ => ⟨by omega, by omega, by omega, by omega, ?_⟩, fun z => absurd hT.wr z⟩
    rw [Int.toNat_natCast, Int.toNat_natCast, show (vI T3 0 27 - 1).toNat = env.length by omega, hc7]
    have h5 := (pR_cS (l := l) (w := 1) (x := (nv : Int)) hT).un (z := vI T3 0 27 - 1) (by omega)
    have f5 := (cS_fr (l := l) (w := 1) (x := (nv : Int)) (f2.trans hf) hl (by omega)).gI (k := 0) (j := 27) (x := zI (vI T3 0 27 - 1)) (Or.inl ⟨rfl, by omega⟩)
    have e5 : cE T (gI (cS T3 p l 1 (nv : Int)) 0 27 (zI (vI T3 0 27 - 1))) p l := ((e2.of4 h4).cS (Nat.le_refl _) (by omega)).gI (by decide)
    have r5 := cR_gI (k := 0) (j := 27) (x := zI (vI T3 0 27 - 1)) (cR_cS (w := 1) (x := (nv : Int)) (r2.of4 h4) (by omega) (by omega)) (by decide)
    refine hR _ _ _ (l : Int) _ h5 (by omega) (fun v T9 hP => ?_)
    cases hpx : px u n r env l (e9, l + 1, nv + 1, nf) with
    | inl q =>
      rw [hpx] at hP
      have hP1 : pF _ T9 p q (402 + (r : Int)) env.length ((nv + 1 : Nat) : Int) := hP
      have hb1 := hP1.2.2.2.2.2.1
      have hb2 := hP1.2.2.2.2.2.2.1
      have hb3 := hP1.2.2.2.2.2.2.2
      refine ⟨by omega, by omega, by omega, by omega, fun z => absurd z (by rw [hP1.2.1]; decide), fun _ => ?_⟩
      generalize hB : (vI T9 0 27).toNat = B
      have hF1 : pF T (gI (gI (gI (cS T9 p l 3 v) 13 B (zI (c7 w))) 14 B (zI (nv : Int))) 0 27 (zI (vI T9 0 27 + 1))) p q (402 + (r : Int)) (env.length + 1 : Int) (nv : Int) := by
        obtain ⟨y1, y2, y3, y4, y5, y6, y7, y8⟩ := pF_cS (l := l) (w := 3) (x := v) (hP1.pre f5) hl (by omega)
        refine ⟨((y1.gI ?_).gI ?_).gI (Or.inl ⟨rfl, by omega⟩), ?_, ?_, ?_, ?_, ?_, ?_, ?_⟩
        · unfold Wp; omega
        · unfold Wp; omega
        all_goals (repeat first | rw [v_o (by omega)] | rw [v_s (by omega)])
        · exact y2
        · exact y3
        · exact y4
        · exact y5
        · omega
        · have : vI (cS T9 p l 3 v) 3 p = vI T9 3 p := by unfold cS; rw [v_o (by omega)]
          rw [this]; omega
        · exact y8
      refine w_X7_form_437 ?_
      unfold f_X7_form_437
      refine ⟨by omega, by omega, ?_⟩
      rw [Int.toNat_natCast, Int.toNat_natCast, v_s (by omega)]
      have hF2 : pF T _ p q (402 + (r : Int)) env.length nv := pF_bd (x := vI T9 0 27 + 1 - 1) (pF_cS (l := l) (w := 4) (x := -1) hF1 hl (by omega)) (by omega) (by omega) (by omega) (by
        have : vI (cS (gI (gI (gI (cS T9 p l 3 v) 13 B (zI (c7 w))) 14 B (zI (nv : Int))) 0 27 (zI (vI T9 0 27 + 1))) p l 4 (-1)) 3 p = vI T9 3 p := by
          unfold cS
          repeat rw [v_o (by omega)]
        rw [this]; omega)
      refine fm_cf519b (d := d + 3) ht hF2 (by omega) (m := m) (by omega) (by omega) (fun v T' z => hφ v T' ?_)
      unfold xLt
      rw [hx]
      dsimp only
      rw [show (((l + 1 : Nat) : Int) - 1) = (l : Int) by omega, hpx]
      exact z
    | inr y =>
      obtain ⟨σ3, t1⟩ := y
      rw [hpx] at hP
      obtain ⟨hv, h9, f9, ⟨k1, k2⟩, h8, h7⟩ := hP
      have k1' : cE _ T9 p (l + 1) := k1
      have k2' : cC T9 p (l + 1) t1 := k2
      dsimp only at h8 hv h7
      have hbo9 := h9.bo
      have hex9 := h9.ex2
      refine ⟨by omega, by omega, by omega, by omega, fun _ => ?_, fun z => absurd h9.wr z⟩
      rw [show (vI T9 0 27).toNat = env.length by omega]
      have h6 := (pR_cS (l := l) (w := 3) (x := v) h9).bind (x := nv) (z := vI T9 0 27 + 1) hnm (by omega) (by omega) (by omega)
      have f6 : fr (Wp p) T (gI (gI (gI (cS T9 p l 3 v) 13 env.length (zI (c7 w))) 14 env.length (zI (nv : Int))) 0 27 (zI (vI T9 0 27 + 1))) := by
        refine (((cS_fr (f5.trans f9) hl (by omega)).gI ?_).gI ?_).gI (Or.inl ⟨rfl, by omega⟩)
        · unfold Wp; omega
        · unfold Wp; omega
      have e6 : cE T (gI (gI (gI (cS T9 p l 3 v) 13 env.length (zI (c7 w))) 14 env.length (zI (nv : Int))) 0 27 (zI (vI T9 0 27 + 1))) p l := ((((e5.trans (k1'.mono (by omega))).cS (Nat.le_refl _) (by omega)).gI (by decide)).gI (by decide)).gI (by decide)
      have r6 : cR (gI (gI (gI (cS T9 p l 3 v) 13 env.length (zI (c7 w))) 14 env.length (zI (nv : Int))) 0 27 (zI (vI T9 0 27 + 1))) p l _ := cR_gI (cR_gI (cR_gI (cR_cS (w := 3) (x := v) (r5.cE k1' (by omega)) (by omega) (by omega)) (by decide)) (by decide)) (by decide)
      have c6 : cC (gI (gI (gI (cS T9 p l 3 v) 13 env.length (zI (c7 w))) 14 env.length (zI (nv : Int))) 0 27 (zI (vI T9 0 27 + 1))) p (l + 1) t1 := (((k2'.cS (by omega) (by omega)).gI (by decide)).gI (by decide)).gI (by decide)
      refine hR _ _ _ (l : Int) _ h6 (by omega) (fun v2 T8 hP2 => ?_)
      refine w_X7_form_437 ?_
      unfold f_X7_form_437
      refine ⟨by omega, by omega, ?_⟩
      rw [Int.toNat_natCast, Int.toNat_natCast]
      cases hpx2 : px u n r ((w, nv) :: env) l σ3 with
      | inl q =>
        rw [hpx2] at hP2
        have hP1 : pF _ T8 p q (402 + (r : Int)) (((w, nv) :: env).length) (σ3.2.2.1 : Int) := hP2
        have hb1 := hP1.2.2.2.2.2.1
        have hb2 := hP1.2.2.2.2.2.2.1
        have hb3 := hP1.2.2.2.2.2.2.2
        rw [List.length_cons] at hb1 hb2
        have e3 : vI (cS T8 p l 4 v2) 3 p = vI T8 3 p := by unfold cS; rw [v_o (by omega)]
        have hF2 : pF T (gI (cS T8 p l 4 v2) 0 27 (zI (vI T8 0 27 - 1))) p q (402 + (r : Int)) env.length nv := pF_bd (pF_cS (hP1.pre f6) hl (by omega)) (by omega) (by omega) (by omega) (by rw [e3]; omega)
        refine fm_cf519b (d := d + 3) ht hF2 (by omega) (m := m) (by omega) (by omega) (fun v T' z => hφ v T' ?_)
        unfold xLt
        rw [hx]
        dsimp only
        rw [show (((l + 1 : Nat) : Int) - 1) = (l : Int) by omega, hpx]
        dsimp only
        rw [hpx2]
        exact z
      | inr y2 =>
        obtain ⟨σ4, t2⟩ := y2
        rw [hpx2] at hP2
        obtain ⟨hv2, h10, f10, ⟨q1, q2⟩, g8, g7⟩ := hP2
        have q1' : cE _ T8 p σ3.2.1 := q1
        have q2' : cC T8 p σ3.2.1 t2 := q2
        have hbo10 := h10.bo
        rw [List.length_cons] at hbo10
        rw [h8] at q1' q2'
        refine fm_cl519b (d := d + 3) (m0 := 0) (m := m) (nv := nv) (nf := nf) (s9 := s9) (t9 := xTok 5 (nv : Int) (-1) ((l + 1 : Nat) : Int) (σ3.2.1 : Int) (-1) up) ((pR_cS h10).un (by omega)) ((cS_fr (f6.trans f10) hl (by omega)).gI (Or.inl ⟨rfl, by omega⟩)) (((e6.trans (q1'.mono (by omega))).cS (Nat.le_refl _) (by omega)).gI (by decide)) (cR_gI (cR_cS (r6.cE q1' (by omega)) (by omega) (by omega)) (by decide)) (ts := t1 ++ t2) ((((c6.cE q1' (by omega)).app q2').cS (by omega) (by omega)).gI (by decide)) ?_ (by rw [g8, h8, List.length_append]; omega) (by omega) (by omega) (fun v' T' z => hφ v' T' ?_)
        · intro w hw
          obtain rfl | rfl | rfl | rfl | rfl | rfl | rfl : w = 0 ∨ w = 1 ∨ w = 2 ∨ w = 3 ∨ w = 4 ∨ w = 5 ∨ w = 6 := by omega
          all_goals simp [tokS, xTok]
          · omega
          · omega
        · unfold xLt
          rw [hx]
          dsimp only
          rw [show (((l + 1 : Nat) : Int) - 1) = (l : Int) by omega, hpx]
          dsimp only
          rw [hpx2]
          exact z
  · have hF := hT.pre f2
    refine ⟨fun z => absurd z (by rw [hF.2.1]; decide), fun _ => ⟨_, rfl, hφ _ _ ?_⟩⟩
    unfold xLt
    rw [hx]
    exact hF.le (by omega)
end FM2
