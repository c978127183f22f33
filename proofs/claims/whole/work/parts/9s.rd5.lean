/-! THE CLASS READS: exprs end, the whole -/
def okL (L : Option Value) : Prop := L = none ∨ ∃ x, L = some (.int (zI x))
section RD5
variable {sa : Nat → Nat} {b : Nat} {E : Nat × mH} {d : Nat} {u : Nat → Nat} {m q : Nat}
theorem en_ok {x : Int} {T : gT} {L : Option Value} {Q : Option Value → gT → Prop} (hL : okL L) (h : f_X4_endExpr_7 sa b E d x T Q) : gW (tP sa) lD b E (d + 1) mX4_endExpr 7 [some (.ref (b + 40)), some (.int (zI x)), L] [] T Q := by
  rcases hL with rfl | ⟨y, rfl⟩
  · exact w_X4_endExpr_7 h
  · exact w_X4_endExpr_7b (l2 := y) h
/-- a sign is asked for: what a fault leaves -/
theorem t_expect2 {T : gT} {env : List (List Nat × Nat)} {o : Nat} {σ : xS} {c : Int} {φ : gT → Prop} (hc : 0 ≤ c ∧ c < 256) (h : tR T u m q env o σ) (k : match xEnd u m c σ with
    | .inl f => ∀ T', tGf T' u m q f → fG (fun k i => k = 40 ∧ (i = 2 ∨ i = 3)) V0 T T' → φ T'
    | .inr σ' => ∀ T', tR T' u m q env o σ' → fG (fun k i => k = 40 ∧ i = 2) V0 T T' → φ T') : gC (tP sa) lD b E (d + 2) mX4_expect [.ref (b + 40), .int (zI c)] T (fun r T' => pV r (φ T')) := by
  refine w_X4_expect (d := d + 1) ?_
  unfold f_X4_expect
  refine t_look (d := d) h (fun T1 h1 e1 => ?_)
  have hm := h.1.2.1
  have a1 := h1.2.1.1
  have a2 := h1.2.1.2
  have hcz := h.1.c (i := sk u m σ.1)
  unfold xEnd at k
  dsimp only at a1 a2
  refine ⟨by omega, by omega, fun z => ?_, fun z => ?_⟩
  · rw [if_neg z] at k
    rw [a1]
    exact k4_fail0 h1.2.2.1 ⟨rfl, k _ (h1.fail a2) (by rw [e1]; exact (fG.refl.gI ⟨rfl, Or.inl rfl⟩).gI ⟨rfl, Or.inr rfl⟩)⟩
  · rw [if_pos z] at k
    have lt := cz_lt (u := u) (n := m) (p := sk u m σ.1) (by omega)
    rw [a1, show ((sk u m σ.1 : Nat) : Int) + 1 = ((sk u m σ.1 + 1 : Nat) : Int) by omega]
    exact ⟨rfl, k _ (h1.at (by omega)) (by rw [e1]; exact (fG.refl.gI ⟨rfl, rfl⟩).gI ⟨rfl, rfl⟩)⟩
theorem tGf.op {T : gT} {f : Nat} {x : Int} (h : tGf T u m q f) (hx : 0 ≤ x ∧ x ≤ 40) : tGf (gI T 40 14 (zI x)) u m q f := by
  obtain ⟨hB, a, b, c, e, g⟩ := id h
  have hq := hB.2.2.2.2.2
  refine ⟨hB.fW (l := 0) (o := 0) (e := 0) (fG.refl.gI (by unfold Wf; omega)), ?_, ?_, ?_, ?_, ?_⟩
  case refine_5 => rw [v_s (by omega)]; exact hx
  all_goals rw [v_o (by omega)]; assumption
/-- in a fault nothing ends -/
theorem en_G {f o : Nat} {T : gT} {L : Option Value} {Q : Option Value → gT → Prop} (hL : okL L) (h : tGf T u m q f) (ho : o ≤ 40) (k : Q none T) : gW (tP sa) lD b E (d + 1) mX4_endExpr 7 [some (.ref (b + 40)), some (.int (zI ((o : Int) - 1))), L] [] T Q := by
  refine en_ok hL ?_
  unfold f_X4_endExpr_7
  exact ⟨by omega, fun _ => k, fun _ => ⟨fun _ => k, fun z => absurd z h.f1⟩⟩
theorem tR.miss {T : gT} {env : List (List Nat × Nat)} {o : Nat} {σ : xS} {j : Nat} {x : Int} (h : tR T u m q env o σ) : tR (gI T 44 j (zI x)) u m q env o σ := by
  obtain ⟨hB, ⟨a1, a2⟩, a3, ⟨b1, b2⟩, ⟨c1, c2⟩, ⟨d1, d2⟩, ⟨e1, e2⟩, ⟨g1, g2⟩, hE⟩ := id h
  have hq := hB.2.2.2.2.2
  refine h.to (l := 0) (o2 := 0) (fG.refl.gI (by unfold Wf; omega)) ?_ a2 ?_ ?_ b2 ?_ c2 ?_ d2 ?_ e2 ?_ g2
  all_goals rw [v_o (by omega)]; assumption
/-- a part that isn't the last ends -/
theorem en_mid {T : gT} {env : List (List Nat × Nat)} {o l mi e : Nat} {k0 : Int} {σ : xS} {L : Option Value} {Q : Option Value → gT → Prop} (hL : okL L) (h : tR T u m q env (o + 1) σ) (hP : fP T o l (mi + 2) e) (hmi : mi < 3) (hl : l < 200) (hk : vI T (q + 1) l = k0) (hk5 : k0 ≠ 5)
    (k : ∀ T', tR T' u m q env (o + 1) σ → fP T' o l (mi + 1) e → fG (fun k i => k = 44 ∧ i = o) V0 T T' → Q none T') : gW (tP sa) lD b E (d + 1 + 1) mX4_endExpr 7 [some (.ref (b + 40)), some (.int (zI (o : Int))), L] [] T Q := by
  have hq := h.1.2.2.2.2.2
  have ho := h.2.2.2.2.2.2.2.1.2
  refine en_ok hL ?_
  unfold f_X4_endExpr_7
  rw [Int.toNat_natCast, hP.1, hP.2.1, show ((mi + 2 : Nat) : Int) - 1 = ((mi + 1 : Nat) : Int) by omega, v_s (by omega)]
  refine ⟨by omega, fun z => by omega, fun _ => ⟨fun z => absurd h.2.2.1 z, fun _ => ⟨by omega, by omega, fun z => by omega, fun _ => ?_⟩⟩⟩
  refine w_X4_bindLet ?_
  unfold f_X4_bindLet
  refine ⟨q, hq, ?_, by omega, fun _ => ⟨rfl, k _ h.miss ⟨?_, ?_, ?_⟩ (fG.refl.gI ⟨rfl, rfl⟩)⟩, fun z => absurd z ?_⟩
  · rw [v_o (by omega)]; exact h.1.2.2.2.2.1
  · rw [v_o (by omega)]; exact hP.1
  · rw [v_s (by omega)]
  · rw [v_o (by omega)]; exact hP.2.2
  · rw [aI_n hl, v_o (by omega), hk]; exact hk5
/-- the first part of a let ends -/
theorem en_let {T : gT} {env : List (List Nat × Nat)} {o l v : Nat} {w : List Nat} {σ : xS} {L : Option Value} {Q : Option Value → gT → Prop} (hL : okL L) (h : tR T u m q env (o + 1) σ) (hP : fP T o l 2 env.length) (hl : l < 200) (hk : vI T (q + 1) l = 5) (hv : vI T (q + 2) l = (v : Int)) (hv2 : v < 100) (hw : nmv w) (h46 : vI T 46 o = c6 w) (he : env.length < σ.2.2.1)
    (k : ∀ T', tR T' u m q ((w, v) :: env) (o + 1) σ → fP T' o l 1 env.length → fG (fun k i => (k = 44 ∧ i = o) ∨ (k = 40 ∧ i = 9) ∨ ((k = 41 ∨ k = 42) ∧ i = env.length)) V0 T T' → Q none T') : gW (tP sa) lD b E (d + 1 + 1) mX4_endExpr 7 [some (.ref (b + 40)), some (.int (zI (o : Int))), L] [] T Q := by
  have hq := h.1.2.2.2.2.2
  have ho := h.2.2.2.2.2.2.2.1.2
  refine en_ok hL ?_
  unfold f_X4_endExpr_7
  rw [Int.toNat_natCast, hP.1, hP.2.1, show ((2 : Nat) : Int) - 1 = 1 by omega, v_s (by omega)]
  refine ⟨by omega, fun z => by omega, fun _ => ⟨fun z => absurd h.2.2.1 z, fun _ => ⟨by omega, by omega, fun z => by omega, fun _ => ?_⟩⟩⟩
  refine w_X4_bindLet ?_
  unfold f_X4_bindLet
  have a4 : vI (gI T 44 o (zI 1)) 40 4 = (q : Int) := by rw [v_o (by omega)]; exact h.1.2.2.2.2.1
  refine ⟨q, hq, a4, by omega, fun z => absurd ?_ z, fun _ => ⟨by omega, q, hq, a4, ?_⟩⟩
  · rw [aI_n hl, v_o (by omega), hk]
  · rw [aI_n (show o < 40 by omega), aI_n hl, v_o (by omega), v_o (by omega), hv, h46]
    refine t_bind h.miss hw hv2 he (fun T' h' f' => ⟨rfl, k T' h' ⟨?_, ?_, ?_⟩ ((fG.refl.gI (Or.inl ⟨rfl, rfl⟩)).trans (f'.mono (fun k i z => Or.inr z) (fun _ _ z => z)))⟩)
    · rw [f'.v (by omega), v_o (by omega)]; exact hP.1
    · rw [f'.v (by omega), v_s (by omega)]; rfl
    · rw [f'.v (by omega), v_o (by omega)]; exact hP.2.2
theorem tR.close {T : gT} {env env2 : List (List Nat × Nat)} {o o2 : Nat} {σ : xS} (h : tR T u m q env2 o2 σ) (hc : envC T env) (he : env.length ≤ env2.length) (ho : o ≤ 40) : tR (gI (gI T 40 9 (zI (env.length : Int))) 40 14 (zI (o : Int))) u m q env o σ := by
  obtain ⟨hB, ⟨a1, a2⟩, a3, ⟨b1, b2⟩, ⟨c1, c2⟩, ⟨d1, d2⟩, ⟨e1, e2⟩, ⟨g1, g2⟩, hE⟩ := id h
  have hq := hB.2.2.2.2.2
  have fw : fW q 0 0 env.length T (gI (gI T 40 9 (zI (env.length : Int))) 40 14 (zI (o : Int))) := (fG.refl.gI (by unfold Wf; omega)).gI (by unfold Wf; omega)
  refine ⟨hB.fW fw, ⟨?_, a2⟩, ?_, ⟨?_, b2⟩, ⟨?_, c2⟩, ⟨?_, d2⟩, ⟨?_, by omega⟩, ⟨v_s (by omega), ho⟩, hc.of (fun i hi => ⟨fw.v (by unfold Wf; omega), fw.v (by unfold Wf; omega)⟩)⟩
  case refine_6 => rw [v_o (by omega), v_s (by omega)]
  all_goals rw [v_o (by omega), v_o (by omega)]; assumption
/-- the body of a lambda ends -/
theorem en_lam {T : gT} {env env2 : List (List Nat × Nat)} {o l : Nat} {σ : xS} {L : Option Value} {Q : Option Value → gT → Prop} (hL : okL L) (h : tR T u m q env2 (o + 1) σ) (hc : envC T env) (he : env.length ≤ env2.length) (hP : fP T o l 1 env.length) (hl : l < 200) (hk : vI T (q + 1) l = 2)
    (k : ∀ T' L', okL L' → tR T' u m q env o σ → fG (fun k i => (k = 44 ∧ i = o) ∨ (k = 40 ∧ (i = 9 ∨ i = 14))) V0 T T' → gW (tP sa) lD b E (d + 1) mX4_endExpr 7 [some (.ref (b + 40)), some (.int (zI ((o : Int) - 1))), L'] [] T' Q) : gW (tP sa) lD b E (d + 1) mX4_endExpr 7 [some (.ref (b + 40)), some (.int (zI (o : Int))), L] [] T Q := by
  have hq := h.1.2.2.2.2.2
  have ho := h.2.2.2.2.2.2.2.1.2
  refine en_ok hL ?_
  unfold f_X4_endExpr_7
  rw [Int.toNat_natCast, hP.1, hP.2.1, hP.2.2, show ((1 : Nat) : Int) - 1 = 0 by omega, v_s (by omega)]
  refine ⟨by omega, fun z => by omega, fun _ => ⟨fun z => absurd h.2.2.1 z, fun _ => ⟨by omega, by omega, fun _ => ⟨q, hq, h.1.2.2.2.2.1, fun _ => ?_, fun z => absurd ?_ z⟩, fun z => absurd (Int.le_refl _) z⟩⟩⟩
  · refine k _ _ (Or.inr ⟨_, rfl⟩) (tR.close h.miss (hc.of (fun i hi => ⟨v_o (by omega), v_o (by omega)⟩)) he (by omega)) (((fG.refl.gI (Or.inl ⟨rfl, rfl⟩)).gI (Or.inr ⟨rfl, Or.inl rfl⟩)).gI (Or.inr ⟨rfl, Or.inr rfl⟩))
  · rw [aI_n hl, v_o (by omega), hk]
/-- the last part of a form ends -/
theorem en_par {T : gT} {env env2 : List (List Nat × Nat)} {o l : Nat} {k0 : Int} {σ : xS} {L : Option Value} {Q : Option Value → gT → Prop} (hL : okL L) (h : tR T u m q env2 (o + 1) σ) (hc : envC T env) (he : env.length ≤ env2.length) (hP : fP T o l 1 env.length) (hl : l < 200) (hk : vI T (q + 1) l = k0) (hk2 : k0 ≠ 2)
    (kG : ∀ f, xEnd u m 41 σ = .inl f → ∀ T', tGf T' u m q f → fW q 0 0 0 T T' → Q none T')
    (k : ∀ σ', xEnd u m 41 σ = .inr σ' → ∀ T' L', okL L' → tR T' u m q env o σ' → fG (fun k i => (k = 44 ∧ i = o) ∨ (k = 40 ∧ (i = 2 ∨ i = 9 ∨ i = 14))) V0 T T' → gW (tP sa) lD b E (d + 2 + 1) mX4_endExpr 7 [some (.ref (b + 40)), some (.int (zI ((o : Int) - 1))), L'] [] T' Q) : gW (tP sa) lD b E (d + 2 + 1) mX4_endExpr 7 [some (.ref (b + 40)), some (.int (zI (o : Int))), L] [] T Q := by
  have hq := h.1.2.2.2.2.2
  have ho := h.2.2.2.2.2.2.2.1.2
  refine en_ok hL ?_
  unfold f_X4_endExpr_7
  rw [Int.toNat_natCast, hP.1, hP.2.1, show ((1 : Nat) : Int) - 1 = 0 by omega, v_s (by omega)]
  refine ⟨by omega, fun z => by omega, fun _ => ⟨fun z => absurd h.2.2.1 z, fun _ => ⟨by omega, by omega, fun _ => ⟨q, hq, h.1.2.2.2.2.1, fun z => absurd z ?_, fun _ => ?_⟩, fun z => absurd (Int.le_refl _) z⟩⟩⟩
  · rw [aI_n hl, v_o (by omega), hk]; exact hk2
  have h1 : tR (gI T 44 o (zI 0)) u m q env2 (o + 1) σ := h.miss
  refine t_expect2 (d := d) (by decide) h1 ?_
  cases hx : xEnd u m 41 σ with
  | inl f =>
    dsimp only
    intro T' g fw
    have e45 : vI T' 45 o = (env.length : Int) := by rw [fw.v (by omega), v_o (by omega)]; exact hP.2.2
    have hel : env.length ≤ 100 := by
      have h1 := h.2.2.2.2.2.2.1.2
      have h2 := h.2.2.2.2.1.2
      omega
    rw [e45]
    have g2 : tGf (gI (gI T' 40 9 (zI (env.length : Int))) 40 14 (zI (o : Int))) u m q f := (g.bd (by omega)).op (by omega)
    refine en_G (Or.inr ⟨_, rfl⟩) g2 (by omega) (kG f hx _ g2 (((fG.trans (fG.refl.gI ?_) (fw.mono (fun k i z => by unfold Wf; omega) (fun _ _ z => z))).gI ?_).gI ?_)) <;> (unfold Wf; omega)
  | inr σ' =>
    dsimp only
    intro T' h' f'
    have e45 : vI T' 45 o = (env.length : Int) := by rw [f'.v (by omega), v_o (by omega)]; exact hP.2.2
    rw [e45]
    refine k σ' hx _ _ (Or.inr ⟨_, rfl⟩) (tR.close h' (hc.of (fun i hi => ?_)) he (by omega)) ((((fG.refl.gI (Or.inl ⟨rfl, rfl⟩)).trans (f'.mono (fun k i z => by omega) (fun _ _ z => z))).gI (Or.inr ⟨rfl, by omega⟩)).gI (Or.inr ⟨rfl, by omega⟩))
    exact ⟨by rw [f'.v (by omega), v_o (by omega)], by rw [f'.v (by omega), v_o (by omega)]⟩
end RD5
