/-! THE CLASS READS: exprs are opened -/
section RD4
variable {sa : Nat → Nat} {b : Nat} {E : Nat × mH} {d : Nat} {T : gT} {u : Nat → Nat} {m q o f : Nat} {env : List (List Nat × Nat)} {σ : xS}
theorem tR.fn {x : Nat} (h : tR T u m q env o σ) (hx : x ≤ 50) : tR (gI T 40 5 (zI (x : Int))) u m q env o (σ.1, σ.2.1, σ.2.2.1, x) := by
  obtain ⟨hB, ⟨a1, a2⟩, a3, ⟨b1, b2⟩, ⟨c1, c2⟩, ⟨d1, d2⟩, ⟨e1, e2⟩, ⟨g1, g2⟩, hE⟩ := id h
  have hq := hB.2.2.2.2.2
  refine h.to (l := 0) (o2 := 0) (σ' := (σ.1, σ.2.1, σ.2.2.1, x)) (fG.refl.gI (by unfold Wf; omega)) ?_ a2 ?_ ?_ b2 ?_ c2 (v_s (by show _ ∧ (x : Int) < _; omega)) hx ?_ e2 ?_ g2
  all_goals rw [v_o (by omega)]; assumption
theorem xBd_sh {w : List Nat} {σ' : xS} (h : xBd u m σ = .inr (w, σ')) : σ'.2.1 = σ.2.1 ∧ σ'.2.2.1 = σ.2.2.1 + 1 ∧ σ'.2.2.2 = σ.2.2.2 ∧ σ.2.2.1 ≠ 100 := by
  unfold xBd at h
  split at h
  · split at h
    · cases h
    · rename_i z; cases h; exact ⟨rfl, rfl, rfl, z⟩
  · cases h
theorem xEnd_sh {c : Int} {σ' : xS} (h : xEnd u m c σ = .inr σ') : σ'.2 = σ.2 := by
  unfold xEnd at h
  split at h
  · cases h; rfl
  · cases h
/-- what a lambda opens -/
theorem t_lambda {φ : gT → Prop} (hE : mSta sa b E) (h : tR T u m q env o σ) (hl : σ.2.1 < 200) (ho : o < 40) (hp : σ.1 < m)
    (k0 : ∀ f, (σ.2.2.2 = 50 ∧ f = σ.1 ∨ σ.2.2.2 ≠ 50 ∧ (xBd u m (σ.1 + 1, σ.2.1 + 1, σ.2.2.1, σ.2.2.2 + 1) = .inl f ∨ ∃ w σ1, xBd u m (σ.1 + 1, σ.2.1 + 1, σ.2.2.1, σ.2.2.2 + 1) = .inr (w, σ1) ∧ xEnd u m 46 σ1 = .inl f)) → ∀ T', tGf T' u m q f → fW q 0 0 0 T T' → φ T')
    (k1 : ∀ w σ1 σ2, σ.2.2.2 ≠ 50 → xBd u m (σ.1 + 1, σ.2.1 + 1, σ.2.2.1, σ.2.2.2 + 1) = .inr (w, σ1) → xEnd u m 46 σ1 = .inr σ2 → ∀ T', tR T' u m q ((w, σ.2.2.1) :: env) (o + 1) σ2 → fW q σ.2.1 o env.length T T' → fP T' o σ.2.1 1 env.length → tk3 T' q σ.2.1 2 σ.2.2.1 (-1) → φ T') :
    gC (tP sa) lD b E (d + 4) mX4_takeLambda [.ref (b + 40)] T (fun r T' => pV r (φ T')) := by
  obtain ⟨s, l, nv, nf⟩ := σ
  obtain ⟨hB, ⟨a1, a2⟩, a3, ⟨b1, b2⟩, ⟨c1, c2⟩, ⟨d1, d2⟩, ⟨e1, e2⟩, ⟨g1, g2⟩, hEn⟩ := id h
  have hq := hB.2.2.2.2.2
  have hm := hB.2.1
  dsimp only at *
  refine w_X4_takeLambda (d := d + 3) ?_
  unfold f_X4_takeLambda
  rw [g1, d1, a1]
  refine ⟨fun z => by omega, fun _ => ⟨fun z => ?_, fun z => ?_⟩⟩
  · rw [show (s : Int) + 1 = ((s + 1 : Nat) : Int) by omega, show (nf : Int) + 1 = ((nf + 1 : Nat) : Int) by omega]
    have h1 := (h.at (s := s + 1) (by omega)).fn (x := nf + 1) (by omega)
    have f1 : ∀ l o2 e2, fW q l o2 e2 T (gI (gI T 40 2 (zI ((s + 1 : Nat) : Int))) 40 5 (zI ((nf + 1 : Nat) : Int))) := fun l o2 e2 => (fG.refl.gI (by unfold Wf; omega)).gI (by unfold Wf; omega)
    have nz : nf ≠ 50 := by omega
    dsimp only at h1
    refine t_open (k0 := 2) hE h1 (by omega) hl ho (fun T2 h2 f2 p2 t2 => ?_)
    have f2' : fW q l o env.length T T2 := (f1 l o env.length).trans f2
    have F2 : fW q 0 0 0 T T2 := fW.lo f2' (Nat.zero_le l) (Nat.zero_le o) (Nat.zero_le env.length)
    dsimp only at h2 p2 t2
    refine t_binding (d := d) h2 ?_
    cases hb : xBd u m (s + 1, l + 1, nv, nf + 1) with
    | inl f =>
      dsimp only
      intro v T3 g3 f3
      refine G_setV g3 (fun T4 g4 f4 => G_expect (d := d + 1) (by decide) g4 (fun T5 g5 f5 => G_bind g5 (fun T6 g6 f6 => ⟨rfl, k0 f (Or.inr ⟨nz, Or.inl hb⟩) T6 g6 ((((F2.trans f3).trans f4).trans f5).trans f6)⟩)))
    | inr x =>
      obtain ⟨w, σ1⟩ := x
      dsimp only
      intro T3 hw h3 f3
      obtain ⟨y1, y2, y3, y4⟩ := xBd_sh hb
      dsimp only at y1 y2 y3 y4
      have q6 : vI T3 40 6 - 1 = (nv : Int) := by rw [h3.2.2.2.2.1.1, y2]; omega
      rw [q6]
      refine t_setV (l := l) h3 y1 (by omega) (by omega) (fun T4 h4 f4 v4 s4 => ?_)
      have F3 : fW q l o env.length T T3 := f2'.trans (f3.mono (fun k i z => by unfold Wf; omega) (fun _ _ z => z))
      have F4 : fW q l o env.length T T4 := F3.trans (f4.mono (fun k i z => by unfold Wf; omega) (fun _ _ z => z))
      have F4' : fW q 0 0 0 T T4 := fW.lo F4 (Nat.zero_le l) (Nat.zero_le o) (Nat.zero_le env.length)
      refine t_expect (d := d + 1) (by decide) h4 ?_
      cases he : xEnd u m 46 σ1 with
      | inl f =>
        dsimp only
        intro T5 g5 f5
        exact G_bind g5 (fun T6 g6 f6 => ⟨rfl, k0 f (Or.inr ⟨nz, Or.inr ⟨w, σ1, hb, he⟩⟩) T6 g6 ((F4'.trans f5).trans f6)⟩)
      | inr σ2 =>
        dsimp only
        intro T5 h5 f5
        have y5 := xEnd_sh he
        have q6 : vI T5 40 6 - 1 = (nv : Int) := by rw [h5.2.2.2.2.1.1, y5, y2]; omega
        rw [q6]
        refine t_bind h5 hw (by omega) (by rw [y5, y2]; omega) (fun T6 h6 f6 => ⟨rfl, ?_⟩)
        have keep : ∀ k i, ((43 ≤ k ∧ k ≤ 45) ∨ k = q + 1) → vI T6 k i = vI T2 k i := fun k i hk => by
          rw [f6.v (by omega), f5.v (by omega), f4.v (by omega), f3.v (by omega)]
        refine k1 w σ1 σ2 nz hb he T6 h6 ((F4.trans (f5.mono (fun k i z => by unfold Wf; omega) (fun _ _ z => z))).trans (f6.mono (fun k i z => by unfold Wf; omega) (fun _ _ z => z))) (p2.of (fun k k1 k2 => keep k o (by omega))) ⟨?_, ?_, ?_⟩
        · rw [keep _ _ (Or.inr rfl)]; exact t2.1
        · rw [f6.v (by omega), f5.v (by omega)]; exact v4
        · rw [f6.v (by omega), f5.v (by omega)]; exact s4
  · exact h.no a2 (fun T' g fw => ⟨rfl, k0 s (Or.inl ⟨by omega, rfl⟩) T' g fw⟩)
/-- what a form opens -/
theorem t_form {φ : gT → Prop} (hE : mSta sa b E) (hK : mKeyC sa b E) (h : tR T u m q env o σ) (hl : σ.2.1 < 200) (ho : o < 40) (hp : σ.1 < m) {s kd : Nat} (hs : sk u m (σ.1 + 1) = s) (hkd : kdA u m s = kd)
    (k0 : ∀ f, (kd = 3 ∧ σ.2.2.2 = 50 ∧ f = σ.1) ∨ (kd = 3 ∧ σ.2.2.2 ≠ 50 ∧ (xBd u m (s + 3, σ.2.1 + 1, σ.2.2.1, σ.2.2.2 + 1) = .inl f ∨ ∃ w σ1, xBd u m (s + 3, σ.2.1 + 1, σ.2.2.1, σ.2.2.2 + 1) = .inr (w, σ1) ∧ xBd u m σ1 = .inl f)) ∨ (kd = 5 ∧ xBd u m (s + 3, σ.2.1 + 1, σ.2.2) = .inl f) → ∀ T', tGf T' u m q f → fW q 0 0 0 T T' → φ T')
    (k3 : ∀ w1 w2 σ1 σ2, kd = 3 → σ.2.2.2 ≠ 50 → xBd u m (s + 3, σ.2.1 + 1, σ.2.2.1, σ.2.2.2 + 1) = .inr (w1, σ1) → xBd u m σ1 = .inr (w2, σ2) → ∀ T', tR T' u m q ((w2, σ.2.2.1 + 1) :: (w1, σ.2.2.1) :: env) (o + 1) σ2 → fW q σ.2.1 o env.length T T' → fP T' o σ.2.1 1 env.length → tk3 T' q σ.2.1 3 ((σ.2.2.1 + 1 : Nat) : Int) σ.2.2.1 → φ T')
    (k5 : ∀ w σ1, kd = 5 → xBd u m (s + 3, σ.2.1 + 1, σ.2.2) = .inr (w, σ1) → nmv w → ∀ T', tR T' u m q env (o + 1) σ1 → fW q σ.2.1 o env.length T T' → fP T' o σ.2.1 2 env.length → vI T' 46 o = c6 w → tk3 T' q σ.2.1 5 σ.2.2.1 (-1) → φ T')
    (kM : kd ≠ 3 → kd ≠ 5 → ∀ T', tR T' u m q env (o + 1) (s + skA kd, σ.2.1 + 1, σ.2.2) → fW q σ.2.1 o env.length T T' → fP T' o σ.2.1 (if kd = 4 then 3 else 2) env.length → tk3 T' q σ.2.1 kd (-1) (-1) → φ T') :
    gC (tP sa) lD b E (d + 6) mX4_takeForm [.ref (b + 40)] T (fun r T' => pV r (φ T')) := by
  obtain ⟨p, l, nv, nf⟩ := σ
  obtain ⟨hB, ⟨a1, a2⟩, a3, ⟨b1, b2⟩, ⟨c1, c2⟩, ⟨d1, d2⟩, ⟨e1, e2⟩, ⟨g1, g2⟩, hEn⟩ := id h
  have hq := hB.2.2.2.2.2
  have hm := hB.2.1
  have hkr := kdA_le (u := u) (n := m) (q := s)
  dsimp only at *
  refine w_X4_takeForm (d := d + 5) ?_
  unfold f_X4_takeForm
  rw [g1, a1, show (p : Int) + 1 = ((p + 1 : Nat) : Int) by omega]
  refine ⟨fun _ => ?_, fun z => by omega⟩
  refine t_kind (d := d) hE hK (h.at (s := p + 1) (by omega)) (fun T1 h1 f1 => ?_)
  dsimp only at h1 ⊢
  rw [hs, hkd] at h1 ⊢
  rw [hkd] at hkr
  have F1 : ∀ l o2 e2, fW q l o2 e2 T T1 := fun l o2 e2 => fG.trans tR.atW (f1 l o2 e2)
  have d1' : vI T1 40 5 = (nf : Int) := h1.2.2.2.2.2.1.1
  rw [d1']
  -- behind the kind
  have rest : (kd = 3 → nf ≠ 50) → gW (tP sa) lD b E (d + 5 + 1) mX4_takeForm 55 [some (.ref (b + 40)), some (.int (zI (p : Int))), some (.int (zI (kd : Int))), none, none] [] T1 (fun r T' => pV r (φ T')) := by
    intro hnf
    refine w_X4_takeForm_55 (d := d + 5) ?_
    unfold f_X4_takeForm_55
    refine t_open (d := d + 4) (k0 := kd) hE h1 (by omega) hl ho (fun T2 h2 f2 p2 t2 => ?_)
    have F2 : fW q l o env.length T T2 := (F1 l o env.length).trans f2
    have F2' : fW q 0 0 0 T T2 := fW.lo F2 (Nat.zero_le l) (Nat.zero_le o) (Nat.zero_le env.length)
    dsimp only at h2 p2 t2
    refine ⟨by omega, fun n3 => ⟨fun n5 => ⟨rfl, ?_⟩, fun y5 => ?_⟩, fun y3 => ?_⟩
    · refine kM (by omega) (by omega) T2 h2 F2 ?_ t2
      have e : np (kd : Int) = if kd = 4 then 3 else 2 := by
        unfold np
        rw [if_neg (by omega), if_neg (by omega)]
        by_cases y4 : kd = 4
        · rw [if_pos (by omega), if_pos y4]
        · rw [if_neg (by omega), if_neg y4]
      rw [← e]; exact p2
    · obtain rfl : kd = 5 := by omega
      refine t_binding (d := d + 2) h2 ?_
      rw [show skA 5 = 3 from rfl]
      cases hb : xBd u m (s + 3, l + 1, nv, nf) with
      | inl f =>
        dsimp only
        intro v T3 g3 f3
        exact G_nameLet g3 (fun T4 g4 f4 => G_setV g4 (fun T5 g5 f5 => ⟨rfl, k0 f (Or.inr (Or.inr ⟨rfl, hb⟩)) T5 g5 (((F2'.trans f3).trans f4).trans f5)⟩))
      | inr x =>
        obtain ⟨w, σ1⟩ := x
        dsimp only
        intro T3 hw h3 f3
        obtain ⟨y1, y2, y3, y4⟩ := xBd_sh hb
        dsimp only at y1 y2 y3 y4
        have hcr := c6_rg hw
        refine w_X4_nameLet ?_
        unfold f_X4_nameLet
        have g3 : vI T3 40 14 = ((o + 1 : Nat) : Int) := h3.2.2.2.2.2.2.2.1.1
        refine ⟨fun z => by omega, fun z => ⟨by omega, by omega, ?_⟩⟩
        rw [show (vI T3 40 14 - 1).toNat = o by omega]
        obtain ⟨hB', ⟨a1', a2'⟩, a3', ⟨b1', b2'⟩, ⟨c1', c2'⟩, ⟨d1', d2'⟩, ⟨e1', e2'⟩, ⟨g1', g2'⟩, hEn'⟩ := id h3
        have h4 : tR (gI T3 46 o (zI (c6 w))) u m q env (o + 1) σ1 := by
          refine h3.to (l := 0) (o2 := 0) (fG.refl.gI (by unfold Wf; omega)) ?_ a2' ?_ ?_ b2' ?_ c2' ?_ d2' ?_ e2' ?_ g2'
          all_goals rw [v_o (by omega)]; assumption
        have q6 : vI (gI T3 46 o (zI (c6 w))) 40 6 - 1 = (nv : Int) := by rw [h4.2.2.2.2.1.1, y2]; omega
        refine ⟨rfl, ?_⟩
        rw [q6]
        refine t_setV (l := l) h4 y1 (by omega) (by omega) (fun T5 h5 f5 v5 s5 => ⟨rfl, ?_⟩)
        have keep : ∀ k i, ((43 ≤ k ∧ k ≤ 45) ∨ k = q + 1) → vI T5 k i = vI T2 k i := fun k i hk => by
          rw [f5.v (by omega), v_o (by omega), f3.v (by omega)]
        refine k5 w σ1 rfl hb hw T5 h5 (((F2.trans (f3.mono (fun k i z => by unfold Wf; omega) (fun _ _ z => z))).gI (by unfold Wf; omega)).trans (f5.mono (fun k i z => by unfold Wf; omega) (fun _ _ z => z))) (p2.of (fun k k1 k2 => keep k o (by omega))) ?_ ⟨?_, v5, s5⟩
        · rw [f5.v (by omega), v_s (by omega)]
        · rw [keep _ _ (Or.inr rfl)]; exact t2.1
    · obtain rfl : kd = 3 := by omega
      have hn := hnf rfl
      have d2' : vI T2 40 5 = (nf : Int) := h2.2.2.2.2.2.1.1
      rw [d2', show (nf : Int) + 1 = ((nf + 1 : Nat) : Int) by omega]
      have h2a := h2.fn (x := nf + 1) (by omega)
      rw [show skA 3 = 3 from rfl] at h2a
      dsimp only at h2a
      have F2a : fW q l o env.length T (gI T2 40 5 (zI ((nf + 1 : Nat) : Int))) := F2.gI (by unfold Wf; omega)
      have F2b : fW q 0 0 0 T (gI T2 40 5 (zI ((nf + 1 : Nat) : Int))) := F2'.gI (by unfold Wf; omega)
      refine t_binding (d := d + 2) h2a ?_
      cases hb : xBd u m (s + 3, l + 1, nv, nf + 1) with
      | inl f =>
        dsimp only
        intro v T3 g3 f3
        exact G_binding (d := d + 2) g3 (fun v4 T4 g4 f4 => G_setV g4 (fun T5 g5 f5 => G_bind g5 (fun T6 g6 f6 => G_bind g6 (fun T7 g7 f7 => ⟨rfl, k0 f (Or.inr (Or.inl ⟨rfl, hn, Or.inl hb⟩)) T7 g7 (((((F2b.trans f3).trans f4).trans f5).trans f6).trans f7)⟩))))
      | inr x =>
        obtain ⟨w1, σ1⟩ := x
        dsimp only
        intro T3 hw1 h3 f3
        obtain ⟨y1, y2, y3, y4⟩ := xBd_sh hb
        dsimp only at y1 y2 y3 y4
        have F3 : fW q l o env.length T T3 := F2a.trans (f3.mono (fun k i z => by unfold Wf; omega) (fun _ _ z => z))
        have F3' : fW q 0 0 0 T T3 := fW.lo F3 (Nat.zero_le l) (Nat.zero_le o) (Nat.zero_le env.length)
        refine t_binding (d := d + 2) h3 ?_
        cases hb2 : xBd u m σ1 with
        | inl f =>
          dsimp only
          intro v T4 g4 f4
          exact G_setV g4 (fun T5 g5 f5 => G_bind g5 (fun T6 g6 f6 => G_bind g6 (fun T7 g7 f7 => ⟨rfl, k0 f (Or.inr (Or.inl ⟨rfl, hn, Or.inr ⟨w1, σ1, hb, hb2⟩⟩)) T7 g7 ((((F3'.trans f4).trans f5).trans f6).trans f7)⟩)))
        | inr x =>
          obtain ⟨w2, σ2⟩ := x
          dsimp only
          intro T4 hw2 h4 f4
          obtain ⟨x1, x2, x3, x4⟩ := xBd_sh hb2
          have q6 : vI T4 40 6 = ((nv + 2 : Nat) : Int) := by rw [h4.2.2.2.2.1.1, x2, y2]
          have hv2 : nv + 2 ≤ 100 := by have := h4.2.2.2.2.1.2; rw [x2, y2] at this; exact this
          rw [q6, show ((nv + 2 : Nat) : Int) - 1 = ((nv + 1 : Nat) : Int) by omega, show ((nv + 2 : Nat) : Int) - 2 = (nv : Int) by omega]
          refine t_setV (l := l) h4 (by rw [x1, y1]) (by omega) (by omega) (fun T5 h5 f5 v5 s5 => ?_)
          have q6 : vI T5 40 6 = ((nv + 2 : Nat) : Int) := by rw [h5.2.2.2.2.1.1, x2, y2]
          rw [q6, show ((nv + 2 : Nat) : Int) - 2 = (nv : Int) by omega]
          refine t_bind h5 hw1 (by omega) (by rw [x2, y2]; omega) (fun T6 h6 f6 => ?_)
          have q6 : vI T6 40 6 = ((nv + 2 : Nat) : Int) := by rw [h6.2.2.2.2.1.1, x2, y2]
          rw [q6, show ((nv + 2 : Nat) : Int) - 1 = ((nv + 1 : Nat) : Int) by omega]
          refine t_bind h6 hw2 (by omega) (by rw [x2, y2, List.length_cons]; omega) (fun T7 h7 f7 => ⟨rfl, ?_⟩)
          rw [List.length_cons] at f7
          have keep : ∀ k i, ((43 ≤ k ∧ k ≤ 45) ∨ k = q + 1) → vI T7 k i = vI T2 k i := fun k i hk => by
            rw [f7.v (by omega), f6.v (by omega), f5.v (by omega), f4.v (by omega), f3.v (by omega), v_o (by omega)]
          refine k3 w1 w2 σ1 σ2 rfl hn hb hb2 T7 h7 ((((F3.trans (f4.mono (fun k i z => by unfold Wf; omega) (fun _ _ z => z))).trans (f5.mono (fun k i z => by unfold Wf; omega) (fun _ _ z => z))).trans (f6.mono (fun k i z => by unfold Wf; omega) (fun _ _ z => z))).trans (f7.mono (fun k i z => by unfold Wf; omega) (fun _ _ z => z))) (p2.of (fun k k1 k2 => keep k o (by omega))) ⟨?_, ?_, ?_⟩
          · rw [keep _ _ (Or.inr rfl)]; exact t2.1
          · rw [f7.v (by omega), f6.v (by omega)]; exact v5
          · rw [f7.v (by omega), f6.v (by omega)]; exact s5
  refine ⟨by omega, fun n3 => rest (fun y => by omega), fun y3 => ⟨fun z => rest (fun _ => by omega), fun z => ?_⟩⟩
  exact h1.no a2 (fun T' g fw => ⟨rfl, k0 p (Or.inl ⟨by omega, by omega, rfl⟩) T' g ((F1 0 0 0).trans fw)⟩)
end RD4
