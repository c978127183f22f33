/-! THE CLASS READS: an expr of any depth -/
section RD6
variable {sa : Nat → Nat} {b : Nat} {E : Nat × mH} {d : Nat} {u : Nat → Nat} {m q : Nat} {l2 : Int} {Q : Option Value → gT → Prop}
/-- behind an expr, in load -/
abbrev l88 (sa : Nat → Nat) (b : Nat) (E : Nat × mH) (d : Nat) (q : Nat) (l2 : Int) (Q : Option Value → gT → Prop) (t : Int) (T : gT) : Prop := gW (tP sa) lD b E (d + 7 + 1) mX4_load 88 [some (.ref (b + 40)), some (.ref (b + 1)), some (.int (zI l2)), some (.ref (b + q)), some (.int (zI 1)), some (.int (zI t))] [] T Q
abbrev l64 (sa : Nat → Nat) (b : Nat) (E : Nat × mH) (d : Nat) (q : Nat) (l2 : Int) (Q : Option Value → gT → Prop) (t : Int) (T : gT) : Prop := gW (tP sa) lD b E (d + 7 + 1) mX4_load 64 [some (.ref (b + 40)), some (.ref (b + 1)), some (.int (zI l2)), some (.ref (b + q)), some (.int (zI 1)), some (.int (zI t))] [] T Q
abbrev e07 (sa : Nat → Nat) (b : Nat) (E : Nat × mH) (d : Nat) (q : Nat) (l2 : Int) (Q : Option Value → gT → Prop) (t x : Int) (L : Option Value) (T : gT) : Prop := gW (tP sa) lD b E (d + 6 + 1) mX4_endExpr 7 [some (.ref (b + 40)), some (.int (zI x)), L] [] T (fun r T2 => pV r (l88 sa b E d q l2 Q t T2))
/-- what is asked behind an expr -/
def kR (sa : Nat → Nat) (b : Nat) (E : Nat × mH) (d : Nat) (u : Nat → Nat) (m q : Nat) (l2 : Int) (Q : Option Value → gT → Prop) (T : gT) (env : List (List Nat × Nat)) (o l nv : Nat) : xR → Prop
  | .inl f => ∀ T' (t : Int), tGf T' u m q f → fW q 0 0 0 T T' → 0 ≤ t → t ≤ 200 → l88 sa b E d q l2 Q t T'
  | .inr (σ', ts) => ∀ T' L, okL L → tR T' u m q env o σ' → fW q l o env.length T T' → tks T' q l σ'.2.1 ts → nv ≤ σ'.2.2.1 → l < σ'.2.1 → e07 sa b E d q l2 Q ((σ'.2.1 : Int) - 1) ((o : Int) - 1) L T'
theorem kR.to {T T1 : gT} {env : List (List Nat × Nat)} {o l nv : Nat} {x : xR} (h : kR sa b E d u m q l2 Q T env o l nv x) (f : fW q l o env.length T T1) : kR sa b E d u m q l2 Q T1 env o l nv x := by
  cases x with
  | inl f1 => exact fun T' t g fw h1 h2 => h T' t g ((fW.lo f (Nat.zero_le _) (Nat.zero_le _) (Nat.zero_le _)).trans fw) h1 h2
  | inr y => exact fun T' L hL h' fw tk h1 h2 => h T' L hL h' (f.trans fw) tk h1 h2
/-- all that is asked of reading with r still to open -/
def hRd (sa : Nat → Nat) (b : Nat) (E : Nat × mH) (d : Nat) (u : Nat → Nat) (m q : Nat) (l2 : Int) (Q : Option Value → gT → Prop) (r : Nat) : Prop := ∀ (T : gT) (env : List (List Nat × Nat)) (o : Nat) (σ : xS) (up : Int), r + o = 40 → tR T u m q env o σ → kR sa b E d u m q l2 Q T env o σ.2.1 σ.2.2.1 (px u m r env up σ) → l64 sa b E d q l2 Q (σ.2.1 : Int) T
theorem go88 {T : gT} {env : List (List Nat × Nat)} {o l : Nat} {σ : xS} (h : tR T u m q env (o + 1) σ) (hl : σ.2.1 = l + 1) (k : l64 sa b E d q l2 Q (σ.2.1 : Int) T) : l88 sa b E d q l2 Q (l : Int) T := by
  refine w_X4_load_88 (d := d + 7) h.1.2.2.2.2.2 ?_
  unfold f_X4_load_88
  have g := h.2.2.2.2.2.2.2.1.1
  refine ⟨fun z => by omega, fun _ => ⟨fun z => absurd h.2.2.1 z, fun _ => ?_⟩⟩
  rw [show (l : Int) + 1 = ((σ.2.1 : Nat) : Int) by omega]
  exact k
variable {T : gT} {env : List (List Nat × Nat)} {o r s l nv nf : Nat} {up : Int}
/-- a lambda -/
theorem m_lambda (hE : mSta sa b E) (hR : hRd sa b E d u m q l2 Q r) (hro : r + 1 + o = 40) (h : tR T u m q env o (s, l, nv, nf)) (hl : l < 200) (hs : s < m) {s9 : Nat} (k : kR sa b E d u m q l2 Q T env o l nv (xLam u m (px u m r) env up s (s9, l, nv, nf))) :
    gC (tP sa) lD b E (d + 6) mX4_takeLambda [.ref (b + 40)] T (fun r T' => pV r (l88 sa b E d q l2 Q (l : Int) T')) := by
  have hq := h.1.2.2.2.2.2
  refine t_lambda (d := d + 2) hE h hl (by omega) hs (fun f hf T' g fw => ?_) (fun w σ1 σ2 n50 hb he T' h' fw p' t' => ?_)
  · have e : xLam u m (px u m r) env up s (s9, l, nv, nf) = .inl f := by
      unfold xLam
      dsimp only at hf ⊢
      rcases hf with ⟨h1, rfl⟩ | ⟨h1, h2 | ⟨w, σ1, h2, h3⟩⟩
      · rw [if_pos h1]
      · rw [if_neg h1, h2]
      · rw [if_neg h1, h2]; dsimp only; rw [h3]
    rw [e] at k
    exact k T' _ g fw (by omega) (by omega)
  · dsimp only at *
    obtain ⟨y1, y2, y3, y4⟩ := xBd_sh hb
    have y5 := xEnd_sh he
    dsimp only at y1 y2 y3 y4
    have hl2 : σ2.2.1 = l + 1 := by rw [y5, y1]
    have hv2 : σ2.2.2.1 = nv + 1 := by rw [y5, y2]
    refine go88 h' hl2 (hR T' _ (o + 1) σ2 (l : Int) (by omega) h' ?_)
    have e : xLam u m (px u m r) env up s (s9, l, nv, nf) = match px u m r ((w, nv) :: env) l σ2 with
      | .inl q => .inl q
      | .inr (σ3, ts) => .inr (σ3, xTok 2 nv (-1) (l + 1 : Nat) (-1) (-1) up :: ts) := by
      unfold xLam
      dsimp only
      rw [if_neg n50, hb]; dsimp only; rw [he]; rfl
    rw [e] at k
    cases hx : px u m r ((w, nv) :: env) l σ2 with
    | inl f =>
      rw [hx] at k
      exact fun T2 t g2 f2 t1 t2 => k T2 t g2 ((fW.lo fw (Nat.zero_le _) (Nat.zero_le _) (Nat.zero_le _)).trans f2) t1 t2
    | inr y =>
      obtain ⟨σ3, ts⟩ := y
      rw [hx] at k
      intro T2 L hL h2 f2 tk2 hv hl3
      rw [hl2] at f2 tk2 hl3
      rw [List.length_cons] at f2
      have e1 : ((o + 1 : Nat) : Int) - 1 = (o : Int) := by omega
      rw [e1]
      have P2 : fP T2 o l 1 env.length := p'.of (fun k k1 k2 => f2.v (by unfold Wf; omega))
      have K2 : tk3 T2 q l 2 nv (-1) := t'.of (fun j j1 j2 => f2.v (by unfold Wf; omega))
      refine en_lam hL h2 h2.2.2.2.2.2.2.2.2.2.2.2.2 (by rw [List.length_cons]; omega) P2 hl K2.1 (fun T3 L' hL' h3 f3 => ?_)
      refine k T3 L' hL' h3 ((fw.trans (fW.lo f2 (by omega) (by omega) (by omega))).trans (f3.mono (fun k i z => by unfold Wf; omega) (fun _ _ z => z))) ?_ (by rw [hv2] at hv; omega) (by omega)
      refine tks_cons (K2.of (fun j j1 j2 => f3.v (by omega))) (tk2.of (fun j i j1 j2 hi => f3.v (by omega)))
/-- a fix -/
theorem m_fix (hE : mSta sa b E) (hR : hRd sa b E d u m q l2 Q r) (hro : r + 1 + o = 40) {w1 w2 : List Nat} {σ0 σ1 σ2 : xS} (hq : q = 2 ∨ q = 21) (hl : l < 200) (e0 : σ0.2.1 = l + 1 ∧ σ0.2.2.1 = nv) (hb1 : xBd u m σ0 = .inr (w1, σ1)) (hb2 : xBd u m σ1 = .inr (w2, σ2)) (k : kR sa b E d u m q l2 Q T env o l nv (xFx u m (px u m r) env up σ0)) {T' : gT} (h' : tR T' u m q ((w2, nv + 1) :: (w1, nv) :: env) (o + 1) σ2) (fw : fW q l o env.length T T') (p' : fP T' o l 1 env.length) (t' : tk3 T' q l 3 ((nv + 1 : Nat) : Int) nv) : l88 sa b E d q l2 Q (l : Int) T' := by
  obtain ⟨y1, y2, y3, y4⟩ := xBd_sh hb1
  obtain ⟨x1, x2, x3, x4⟩ := xBd_sh hb2
  have hl2 : σ2.2.1 = l + 1 := by rw [x1, y1]; exact e0.1
  have hv2 : σ2.2.2.1 = nv + 2 := by rw [x2, y2, e0.2]
  refine go88 h' hl2 (hR T' _ (o + 1) σ2 ((σ0.2.1 : Int) - 1) (by omega) h' ?_)
  unfold xFx at k
  rw [hb1] at k; dsimp only at k
  rw [hb2] at k; dsimp only at k
  rw [e0.2] at k
  cases hx : px u m r ((w2, nv + 1) :: (w1, nv) :: env) ((σ0.2.1 : Int) - 1) σ2 with
  | inl f =>
    rw [hx] at k
    exact fun T2 t g2 f2 t1 t2 => k T2 t g2 ((fW.lo fw (Nat.zero_le _) (Nat.zero_le _) (Nat.zero_le _)).trans f2) t1 t2
  | inr y =>
    obtain ⟨σ3, ts⟩ := y
    rw [hx] at k
    dsimp only at k
    intro T2 L hL h2 f2 tk2 hv hl3
    rw [hl2] at f2 tk2 hl3
    rw [List.length_cons, List.length_cons] at f2
    have e1 : ((o + 1 : Nat) : Int) - 1 = (o : Int) := by omega
    rw [e1]
    have P2 : fP T2 o l 1 env.length := p'.of (fun k k1 k2 => f2.v (by unfold Wf; omega))
    have K2 : tk3 T2 q l 3 ((nv + 1 : Nat) : Int) nv := t'.of (fun j j1 j2 => f2.v (by unfold Wf; omega))
    unfold xCl at k
    have hl9 := h2.2.2.2.1.2
    have F2 : fW q l o env.length T T2 := fw.trans (fW.lo f2 (by omega) (by omega) (by omega))
    refine en_par (d := d + 4) hL h2 h2.2.2.2.2.2.2.2.2.2.2.2.2.2.2.2.2 (by rw [List.length_cons, List.length_cons]; omega) P2 hl K2.1 (by decide) (fun f hf T3 g3 f3 => ?_) (fun σ' hσ T3 L' hL' h3 f3 => ?_)
    · rw [hf] at k
      exact ⟨rfl, k T3 _ g3 ((fW.lo F2 (Nat.zero_le _) (Nat.zero_le _) (Nat.zero_le _)).trans f3) (by omega) (by omega)⟩
    · rw [hσ] at k
      have y5 := xEnd_sh hσ
      have k' := k T3 L' hL' h3 (F2.trans (f3.mono (fun k i z => by unfold Wf; omega) (fun _ _ z => z))) ?_ (by rw [y5]; rw [hv2] at hv; omega) (by rw [y5]; omega)
      · rw [y5] at k'; exact k'
      · rw [y5]
        refine tks_cons (K2.of (fun j j1 j2 => f3.v (by omega))) (tk2.of (fun j i j1 j2 hi => f3.v (by omega)))
/-- a let -/
theorem m_let (hE : mSta sa b E) (hR : hRd sa b E d u m q l2 Q r) (hro : r + 1 + o = 40) {w : List Nat} {σ0 σ1 : xS} (hq : q = 2 ∨ q = 21) (hl : l < 200) (hen : env.length ≤ nv) (e0 : σ0.2.1 = l + 1 ∧ σ0.2.2.1 = nv) (hb : xBd u m σ0 = .inr (w, σ1)) (hw : nmv w) (k : kR sa b E d u m q l2 Q T env o l nv (xLt u m (px u m r) env up σ0)) {T' : gT} (h' : tR T' u m q env (o + 1) σ1) (fw : fW q l o env.length T T') (p' : fP T' o l 2 env.length) (h46 : vI T' 46 o = c6 w) (t' : tk3 T' q l 5 nv (-1)) : l88 sa b E d q l2 Q (l : Int) T' := by
  obtain ⟨y1, y2, y3, y4⟩ := xBd_sh hb
  rw [e0.2] at y2 y4
  have hl2 : σ1.2.1 = l + 1 := by rw [y1]; exact e0.1
  have hv9 := h'.2.2.2.2.1.2
  refine go88 h' hl2 (hR T' _ (o + 1) σ1 ((σ0.2.1 : Int) - 1) (by omega) h' ?_)
  unfold xLt at k
  rw [hb] at k; dsimp only at k
  rw [e0.2] at k
  cases hx : px u m r env ((σ0.2.1 : Int) - 1) σ1 with
  | inl f =>
    rw [hx] at k
    exact fun T2 t g2 f2 t1 t2 => k T2 t g2 ((fW.lo fw (Nat.zero_le _) (Nat.zero_le _) (Nat.zero_le _)).trans f2) t1 t2
  | inr y =>
    obtain ⟨σ2, t1⟩ := y
    rw [hx] at k
    dsimp only at k
    intro T2 L hL h2 f2 tk2 hv hl3
    rw [hl2] at f2 tk2 hl3
    have e1 : ((o + 1 : Nat) : Int) - 1 = (o : Int) := by omega
    rw [e1]
    have P2 : fP T2 o l 2 env.length := p'.of (fun k k1 k2 => f2.v (by unfold Wf; omega))
    have K2 : tk3 T2 q l 5 nv (-1) := t'.of (fun j j1 j2 => f2.v (by unfold Wf; omega))
    have N2 : vI T2 46 o = c6 w := by rw [f2.v (by unfold Wf; omega)]; exact h46
    have F2 : fW q l o env.length T T2 := fw.trans (fW.lo f2 (by omega) (by omega) (by omega))
    refine en_let (d := d + 5) hL h2 P2 hl K2.1 K2.2.1 (by omega) hw N2 (by omega) (fun T3 h3 P3 f3 => ⟨rfl, ?_⟩)
    have F3 : fW q l o env.length T T3 := F2.trans (f3.mono (fun k i z => by unfold Wf; omega) (fun _ _ z => z))
    have K3 : tk3 T3 q l 5 nv (-1) := K2.of (fun j j1 j2 => f3.v (by omega))
    have tk3' : tks T3 q (l + 1) σ2.2.1 t1 := tk2.of (fun j i j1 j2 hi => f3.v (by omega))
    rw [show (σ2.2.1 : Int) - 1 = ((σ2.2.1 - 1 : Nat) : Int) by omega]
    refine go88 h3 (by omega) (hR T3 _ (o + 1) σ2 ((σ0.2.1 : Int) - 1) (by omega) h3 ?_)
    cases hx2 : px u m r ((w, nv) :: env) ((σ0.2.1 : Int) - 1) σ2 with
    | inl f =>
      rw [hx2] at k
      exact fun T4 t g2 f2 t1 t2 => k T4 t g2 ((fW.lo F3 (Nat.zero_le _) (Nat.zero_le _) (Nat.zero_le _)).trans f2) t1 t2
    | inr y =>
      obtain ⟨σ3, t2⟩ := y
      rw [hx2] at k
      dsimp only at k
      intro T4 L4 hL4 h4 f4 tk4 hv4 hl4
      rw [List.length_cons] at f4
      rw [e1]
      have P4 : fP T4 o l 1 env.length := P3.of (fun k k1 k2 => f4.v (by unfold Wf; omega))
      have K4 : tk3 T4 q l 5 nv (-1) := K3.of (fun j j1 j2 => f4.v (by unfold Wf; omega))
      have tk4' : tks T4 q (l + 1) σ2.2.1 t1 := tk3'.of (fun j i j1 j2 hi => f4.v (by unfold Wf; omega))
      unfold xCl at k
      have hl9 := h4.2.2.2.1.2
      have F4 : fW q l o env.length T T4 := F3.trans (fW.lo f4 (by omega) (by omega) (by omega))
      refine en_par (d := d + 4) hL4 h4 h4.2.2.2.2.2.2.2.2.2.2.2.2 (by rw [List.length_cons]; omega) P4 hl K4.1 (by decide) (fun f hf T5 g5 f5 => ?_) (fun σ' hσ T5 L' hL' h5 f5 => ?_)
      · rw [hf] at k
        exact ⟨rfl, k T5 _ g5 ((fW.lo F4 (Nat.zero_le _) (Nat.zero_le _) (Nat.zero_le _)).trans f5) (by omega) (by omega)⟩
      · rw [hσ] at k
        have y5 := xEnd_sh hσ
        have k' := k T5 L' hL' h5 (F4.trans (f5.mono (fun k i z => by unfold Wf; omega) (fun _ _ z => z))) ?_ (by rw [y5]; omega) (by rw [y5]; omega)
        · rw [y5] at k'; exact k'
        · rw [y5]
          exact tks_cons (K4.of (fun j j1 j2 => f5.v (by omega))) (tks_app (tk4'.of (fun j i j1 j2 hi => f5.v (by omega))) (tk4.of (fun j i j1 j2 hi => f5.v (by omega))))
/-- parts one behind another -/
theorem m_ks (hE : mSta sa b E) (hR : hRd sa b E d u m q l2 Q r) (hro : r + 1 + o = 40) (hq : q = 2 ∨ q = 21) (hl : l < 200) {k0 : Int} (hk5 : k0 ≠ 5) : ∀ (j : Nat) (σ : xS) (T' : gT), j < 3 → tR T' u m q env (o + 1) σ → l < σ.2.1 → fP T' o l (j + 1) env.length → vI T' (q + 1) l = k0 →
    (match xKs (px u m r) env up (j + 1) σ with
    | .inl f => ∀ T2 (t : Int), tGf T2 u m q f → fW q 0 0 0 T' T2 → 0 ≤ t → t ≤ 200 → l88 sa b E d q l2 Q t T2
    | .inr (σ', ls, ts) => ∀ T2 L, okL L → tR T2 u m q env (o + 1) σ' → fW q σ.2.1 o env.length T' T2 → fP T2 o l 1 env.length → tks T2 q σ.2.1 σ'.2.1 ts → σ.2.2.1 ≤ σ'.2.2.1 → σ.2.1 < σ'.2.1 → e07 sa b E d q l2 Q ((σ'.2.1 : Int) - 1) (o : Int) L T2) →
    l64 sa b E d q l2 Q (σ.2.1 : Int) T' := by
  intro j
  have e1 : ((o + 1 : Nat) : Int) - 1 = (o : Int) := by omega
  induction j with
  | zero =>
    intro σ T' hj h' hlσ p' hk k
    refine hR T' env (o + 1) σ up (by omega) h' ?_
    rw [xKs] at k
    cases hx : px u m r env up σ with
    | inl f => rw [hx] at k; exact k
    | inr y =>
      obtain ⟨σ1, t1⟩ := y
      rw [hx] at k
      dsimp only [xKs] at k
      rw [List.append_nil] at k
      intro T2 L hL h2 f2 tk2 hv hl3
      rw [e1]
      exact k T2 L hL h2 (fW.lo f2 (Nat.le_refl _) (by omega) (Nat.le_refl _)) (p'.of (fun k k1 k2 => f2.v (by unfold Wf; omega))) tk2 hv hl3
  | succ j ih =>
    intro σ T' hj h' hlσ p' hk k
    refine hR T' env (o + 1) σ up (by omega) h' ?_
    rw [xKs] at k
    cases hx : px u m r env up σ with
    | inl f => rw [hx] at k; exact k
    | inr y =>
      obtain ⟨σ1, t1⟩ := y
      rw [hx] at k
      dsimp only at k
      intro T2 L hL h2 f2 tk2 hv hl3
      rw [e1]
      have P2 : fP T2 o l (j + 2) env.length := p'.of (fun k k1 k2 => f2.v (by unfold Wf; omega))
      have K2 : vI T2 (q + 1) l = k0 := by rw [f2.v (by unfold Wf; omega)]; exact hk
      refine en_mid (d := d + 5) hL h2 P2 (by omega) hl K2 hk5 (fun T3 h3 P3 f3 => ⟨rfl, ?_⟩)
      have F3 : fW q σ.2.1 o env.length T' T3 := fG.trans (fW.lo f2 (Nat.le_refl _) (by omega) (Nat.le_refl _)) (f3.mono (fun k i z => by unfold Wf; omega) (fun _ _ z => z))
      have tk3' : tks T3 q σ.2.1 σ1.2.1 t1 := tk2.of (fun j i j1 j2 hi => f3.v (by omega))
      rw [show (σ1.2.1 : Int) - 1 = ((σ1.2.1 - 1 : Nat) : Int) by omega]
      refine go88 h3 (by omega) (ih σ1 T3 (by omega) h3 (by omega) P3 (by rw [f3.v (by omega)]; exact K2) ?_)
      cases hx2 : xKs (px u m r) env up (j + 1) σ1 with
      | inl f =>
        rw [hx2] at k
        exact fun T4 t g2 f2 t1 t2 => k T4 t g2 ((fW.lo F3 (Nat.zero_le _) (Nat.zero_le _) (Nat.zero_le _)).trans f2) t1 t2
      | inr y =>
        obtain ⟨σ2, ls, ts⟩ := y
        rw [hx2] at k
        dsimp only at k ⊢
        intro T4 L4 hL4 h4 f4 P4 tk4 hv4 hl4
        refine k T4 L4 hL4 h4 (F3.trans (fW.lo f4 (by omega) (Nat.le_refl _) (Nat.le_refl _))) P4 (tks_app (tk3'.of (fun j i j1 j2 hi => f4.v (by unfold Wf; omega))) tk4) (by omega) (by omega)
theorem tkL_lo {w : Nat} (hw : w < 3) : ∀ (ls : List Nat) (t : Nat → Int) (i : Nat), tkL t i ls w = t w
  | [], t, i => rfl
  | a :: ls, t, i => by
    rw [tkL, tkL_lo hw ls]
    unfold tokS
    rw [if_neg (by omega)]
/-- another form -/
theorem m_many (hE : mSta sa b E) (hR : hRd sa b E d u m q l2 Q r) (hro : r + 1 + o = 40) {σ0 : xS} {kd : Nat} (hq : q = 2 ∨ q = 21) (hl : l < 200) (e0 : σ0.2.1 = l + 1 ∧ σ0.2.2.1 = nv) (hk : 4 ≤ kd ∧ kd ≤ 11 ∧ kd ≠ 5) (k : kR sa b E d u m q l2 Q T env o l nv (xMn u m (px u m r) env up kd (if kd = 4 then 3 else 2) σ0)) {T' : gT} (h' : tR T' u m q env (o + 1) σ0) (fw : fW q l o env.length T T') (p' : fP T' o l (if kd = 4 then 3 else 2) env.length) (t' : tk3 T' q l kd (-1) (-1)) : l88 sa b E d q l2 Q (l : Int) T' := by
  obtain ⟨j, hj, hj2⟩ : ∃ j, (if kd = 4 then 3 else 2) = j + 1 ∧ j < 3 := by
    by_cases y : kd = 4
    · exact ⟨2, by rw [if_pos y], by omega⟩
    · exact ⟨1, by rw [if_neg y], by omega⟩
  rw [hj] at k p'
  refine go88 h' e0.1 (m_ks (env := env) (o := o) (up := (σ0.2.1 : Int) - 1) (l := l) (k0 := (kd : Int)) hE hR hro hq hl (by omega) j σ0 T' hj2 h' (by omega) p' t'.1 ?_)
  unfold xMn at k
  cases hx : xKs (px u m r) env ((σ0.2.1 : Int) - 1) (j + 1) σ0 with
  | inl f =>
    rw [hx] at k
    exact fun T2 t g2 f2 t1 t2 => k T2 t g2 ((fW.lo fw (Nat.zero_le _) (Nat.zero_le _) (Nat.zero_le _)).trans f2) t1 t2
  | inr y =>
    obtain ⟨σ3, ls, ts⟩ := y
    rw [hx] at k
    dsimp only at k ⊢
    intro T2 L hL h2 f2 P2 tk2 hv hl3
    rw [e0.1] at f2 tk2 hl3
    have K2 : tk3 T2 q l kd (-1) (-1) := t'.of (fun j j1 j2 => f2.v (by unfold Wf; omega))
    unfold xCl at k
    have hl9 := h2.2.2.2.1.2
    have F2 : fW q l o env.length T T2 := fw.trans (fW.lo f2 (by omega) (by omega) (by omega))
    refine en_par (d := d + 4) hL h2 h2.2.2.2.2.2.2.2.2 (Nat.le_refl _) P2 hl K2.1 (by omega) (fun f hf T3 g3 f3 => ?_) (fun σ' hσ T3 L' hL' h3 f3 => ?_)
    · rw [hf] at k
      exact ⟨rfl, k T3 _ g3 ((fW.lo F2 (Nat.zero_le _) (Nat.zero_le _) (Nat.zero_le _)).trans f3) (by omega) (by omega)⟩
    · rw [hσ] at k
      have y5 := xEnd_sh hσ
      have k' := k T3 L' hL' h3 (F2.trans (f3.mono (fun k i z => by unfold Wf; omega) (fun _ _ z => z))) ?_ (by rw [y5]; omega) (by rw [y5]; omega)
      · rw [y5] at k'; exact k'
      · rw [y5]
        refine tks_cons ?_ (tk2.of (fun j i j1 j2 hi => f3.v (by omega)))
        rw [tkL_lo (by decide), tkL_lo (by decide), tkL_lo (by decide)]
        exact K2.of (fun j j1 j2 => f3.v (by omega))
end RD6
