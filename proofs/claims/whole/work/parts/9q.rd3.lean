/-! THE CLASS READS: names, numbers, the kind of a form -/
/-- the tokens of ts, from label l up to l2 -/
def tks (T : gT) (q l l2 : Nat) (ts : List (Nat → Int)) : Prop := l2 = l + ts.length ∧ ∀ i, i < ts.length → tk3 T q (l + i) (ts.getD i (fun _ => 0) 0) (ts.getD i (fun _ => 0) 1) (ts.getD i (fun _ => 0) 2)
theorem tks_nil {T : gT} {q l : Nat} : tks T q l l [] := ⟨rfl, fun i hi => absurd hi (Nat.not_lt_zero _)⟩
theorem tks_cons {T : gT} {q l l2 : Nat} {t : Nat → Int} {ts : List (Nat → Int)} (h : tk3 T q l (t 0) (t 1) (t 2)) (h2 : tks T q (l + 1) l2 ts) : tks T q l l2 (t :: ts) := by
  refine ⟨by rw [List.length_cons, h2.1]; omega, fun i hi => ?_⟩
  cases i with
  | zero => exact h
  | succ i =>
    have := h2.2 i (by rw [List.length_cons] at hi; omega)
    rw [show l + 1 + i = l + (i + 1) by omega] at this
    exact this
theorem tks_app {T : gT} {q l l1 l2 : Nat} {t1 t2 : List (Nat → Int)} (h1 : tks T q l l1 t1) (h2 : tks T q l1 l2 t2) : tks T q l l2 (t1 ++ t2) := by
  induction t1 generalizing l with
  | nil => obtain rfl : l1 = l := h1.1; exact h2
  | cons t ts ih =>
    refine tks_cons (h1.2 0 (by simp)) (ih ⟨by rw [h1.1, List.length_cons]; omega, fun i hi => ?_⟩)
    have := h1.2 (i + 1) (by rw [List.length_cons]; omega)
    rw [show l + (i + 1) = l + 1 + i by omega] at this
    exact this
theorem tk3.of {T T' : gT} {q l : Nat} {k v s : Int} (h : tk3 T q l k v s) (f : ∀ j, 1 ≤ j → j ≤ 3 → vI T' (q + j) l = vI T (q + j) l) : tk3 T' q l k v s := ⟨(f 1 (by omega) (by omega)).trans h.1, (f 2 (by omega) (by omega)).trans h.2.1, (f 3 (by omega) (by omega)).trans h.2.2⟩
theorem tks.of {T T' : gT} {q l l2 : Nat} {ts : List (Nat → Int)} (h : tks T q l l2 ts) (f : ∀ j i, 1 ≤ j → j ≤ 3 → i < l2 → vI T' (q + j) i = vI T (q + j) i) : tks T' q l l2 ts := ⟨h.1, fun i hi => (h.2 i hi).of (fun j h1 h2 => f j _ h1 h2 (by rw [h.1]; omega))⟩
theorem fP.of {T T' : gT} {o l mi e : Nat} (h : fP T o l mi e) (f : ∀ k, 43 ≤ k → k ≤ 45 → vI T' k o = vI T k o) : fP T' o l mi e := ⟨(f 43 (by omega) (by omega)).trans h.1, (f 44 (by omega) (by omega)).trans h.2.1, (f 45 (by omega) (by omega)).trans h.2.2⟩
section RD3
variable {sa : Nat → Nat} {b : Nat} {E : Nat × mH} {d : Nat} {T : gT} {u : Nat → Nat} {m q o f : Nat} {env : List (List Nat × Nat)} {σ : xS}
def mKeyC (sa : Nat → Nat) (b : Nat) (E : Nat × mH) : Prop := mStr E b (sa 0) [105, 102] ∧ mStr E b (sa 1) [108, 101, 116] ∧ mStr E b (sa 2) [102, 105, 120]
def mnO : Option Nat → Int
  | none => -1
  | some v => (v : Int)
/-- the meaning of a name -/
theorem k_mean {x : Int} {r : Option Nat} {φ : Int → gT → Prop} (hc : envC T env) (h9 : vI T 40 9 = (env.length : Int)) (he : env.length ≤ 100) (hx : (x = -1 ∧ r = none) ∨ ∃ w, nmv w ∧ x = c6 w ∧ lk env w = r) (k : φ (mnO r) T) : gC (tP sa) lD b E d mX4_meaningOf [.ref (b + 40), .int (zI x)] T (fun r T' => pI r (fun v => φ v T')) := by
  refine w_X4_meaningOf ?_
  unfold f_X4_meaningOf
  rw [h9]
  have hxr : okI x := by
    rcases hx with ⟨rfl, _⟩ | ⟨w, hw, rfl, _⟩
    · decide
    · have := c6_rg hw; omega
  clear h9
  induction env with
  | nil =>
    refine w_X4_meaningOf_7 ?_
    unfold f_X4_meaningOf_7
    have e : r = none := by
      rcases hx with ⟨_, rfl⟩ | ⟨w, _, _, h⟩
      · rfl
      · exact h.symm
    subst e
    exact ⟨by simp, fun _ => ⟨_, rfl, k⟩, fun z => absurd (show (([] : List (List Nat × Nat)).length : Int) - 1 < 0 by simp) z⟩
  | cons y env ih =>
    obtain ⟨h1, h2, h3, h4, h5⟩ := hc
    rw [List.length_cons] at he
    have hy := c6_rg h3
    refine w_X4_meaningOf_7 ?_
    unfold f_X4_meaningOf_7
    rw [List.length_cons, show ((env.length + 1 : Nat) : Int) - 1 = (env.length : Int) by omega, Int.toNat_natCast, h1, h2]
    refine ⟨by omega, fun z => by omega, fun _ => ⟨by omega, by omega, hxr, fun z => ?_, fun z => ?_⟩⟩
    · refine ih h5 (by omega) ?_
      rcases hx with ⟨h, h'⟩ | ⟨w, hw, h, h'⟩
      · exact Or.inl ⟨h, h'⟩
      · refine Or.inr ⟨w, hw, h, ?_⟩
        rw [lk, if_neg (fun e => z (by rw [e, ← h]))] at h'
        exact h'
    · refine ⟨_, rfl, ?_⟩
      rcases hx with ⟨h, h'⟩ | ⟨w, hw, h, h'⟩
      · omega
      · rw [lk, if_pos (c6_inj h3 hw (by omega))] at h'
        rw [← h'] at k
        exact k
/-- a name or a number is added -/
theorem t_leaf {k0 v : Int} {p : Nat} {ψ : gT → Prop} (h : tR T u m q env o σ) (hl : σ.2.1 < 200) (hk : okI k0) (hv : okI v) (k : ∀ T', tR T' u m q env o (σ.1, σ.2.1 + 1, σ.2.2) → fW q σ.2.1 o env.length T T' → tk3 T' q σ.2.1 k0 v (-1) → ψ T') :
    gC (tP sa) lD b E d mX3_add [.ref (b + q), .int (zI k0), .int (zI v), .int (zI (-1))] T (fun r T' => pI r (fun _ => ψ T')) := by
  obtain ⟨s0, l, nv, nf⟩ := σ
  obtain ⟨hB, ⟨a1, a2⟩, a3, ⟨b1, b2⟩, ⟨c1, c2⟩, ⟨d1, d2⟩, ⟨e1', e2⟩, ⟨g1, g2⟩, hE'⟩ := id h
  have hq := hB.2.2.2.2.2
  dsimp only at *
  refine d_add hq hk hv (by omega) b1 hl (fun T1 f1 z0 z1 z2 z3 => ?_)
  have f1' : fW q l o env.length T T1 := f1.mono (fun k i z => by unfold Wf; omega) (fun _ _ z => z)
  refine k T1 ?_ f1' ⟨z1, z2, z3⟩
  refine h.to (σ' := (s0, l + 1, nv, nf)) f1' ?_ a2 ?_ ?_ (by show l + 1 ≤ 200; omega) ?_ c2 ?_ d2 ?_ e2 ?_ g2
  case refine_3 => rw [z0]; show (l : Int) + 1 = ((l + 1 : Nat) : Int); omega
  all_goals (rw [f1.v (by omega)]; assumption)
theorem t_meaning {φ : Int → gT → Prop} (h : tR T u m q env o σ) (hs : sk u m σ.1 = σ.1) (hl : σ.2.1 < 200)
    (k0 : ¬ (nmo u m σ.1 ∧ ∃ v, lk env (wd u σ.1 (we u m σ.1)) = some v) → ∀ T', tGf T' u m q σ.1 → fW q 0 0 0 T T' → φ 0 T')
    (k1 : ∀ v : Nat, nmo u m σ.1 → lk env (wd u σ.1 (we u m σ.1)) = some v → ∀ T', tR T' u m q env o (we u m σ.1, σ.2.1 + 1, σ.2.2) → fW q σ.2.1 o env.length T T' → tk3 T' q σ.2.1 0 v (-1) → φ 1 T') :
    gC (tP sa) lD b E (d + 3) mX4_takeMeaning [.ref (b + 40)] T (fun r T' => pI r (fun v => φ v T')) := by
  obtain ⟨s, l, nv, nf⟩ := σ
  obtain ⟨hB, ⟨a1, a2⟩, a3, ⟨b1, b2⟩, ⟨c1, c2⟩, ⟨d1, d2⟩, ⟨e1', e2⟩, ⟨g1, g2⟩, hE'⟩ := id h
  have hq := hB.2.2.2.2.2
  have hm := hB.2.1
  dsimp only at *
  refine w_X4_takeMeaning (d := d + 2) ?_
  unfold f_X4_takeMeaning
  rw [a1]
  refine k4_name (d := d) hB a1 a2 (fun y => ?_) (fun y => ?_)
  · rw [hs] at y ⊢
    have hw := we_le (u := u) a2
    have h1 := h.at hw.2
    refine k_mean h1.2.2.2.2.2.2.2.2 h1.2.2.2.2.2.2.1.1 (by omega) (Or.inr ⟨_, y.v, rfl, rfl⟩) ?_
    cases hlk : lk env (wd u s (we u m s)) with
    | none =>
      rw [show mnO none = -1 from rfl]
      refine ⟨by omega, fun z => absurd rfl z, fun _ => h1.no a2 (fun T' g fw => ⟨_, rfl, k0 (fun z => ?_) _ g (tR.atW.trans fw)⟩)⟩
      obtain ⟨_, v, hv⟩ := z
      rw [hlk] at hv; cases hv
    | some v =>
      simp only [mnO]
      have hv : v < 100 := by
        have := lk_mem hlk
        clear k1 k0
        clear hlk
        induction env with
        | nil => cases this
        | cons x env ih =>
          rw [List.map_cons, List.mem_cons] at this
          rcases this with rfl | t
          · exact hE'.2.2.2.1
          · clear ih
            have : ∀ env : List (List Nat × Nat), envC T env → v ∈ env.map (·.2) → v < 100 := by
              intro env
              induction env with
              | nil => intro _ hh; cases hh
              | cons y env ih =>
                intro hc hh
                rw [List.map_cons, List.mem_cons] at hh
                rcases hh with rfl | t
                · exact hc.2.2.2.1
                · exact ih hc.2.2.2.2 t
            exact this env hE'.2.2.2.2 t
      refine ⟨by omega, fun _ => ⟨q, hq, h1.1.2.2.2.2.1, ?_⟩, fun z => by omega⟩
      refine t_leaf (p := 0) h1 hl (by omega) (by omega) (fun T' h' fw' tk => ⟨_, rfl, k1 v y hlk T' h' (tR.atW.trans fw') tk⟩)
  · rw [hs] at y ⊢
    have h1 := h.at a2
    have g := h1.fail a2
    have fw : fW q 0 0 env.length T (gI (gI T 40 2 (zI (s : Int))) 40 3 (zI (s : Int))) := (fG.refl.gI (by unfold Wf; omega)).gI (by unfold Wf; omega)
    refine k4_fail0 h1.2.2.1 ?_
    refine k_mean (h.en fw) (by rw [v_o (by omega), v_o (by omega)]; exact e1') (by omega) (r := none) (Or.inl ⟨rfl, rfl⟩) ?_
    exact ⟨by decide, fun z => absurd rfl z, fun _ => G_fail g ⟨_, rfl, k0 (fun z => y z.1) _ g (fw.lo (Nat.le_refl _) (Nat.le_refl _) (Nat.zero_le _))⟩⟩
/-- digits -/
theorem k_nu {s : Nat} {l1 : Int} {Q : Option Value → gT → Prop} (h : tB T u m q) :
    ∀ (j p : Nat) (v : Int), j + p = s + 6 → s ≤ p → p ≤ m → gW (tP sa) lD b E (d + 1) mX4_takeNumber 99 [some (.ref (b + 40)), some (.int (zI l1)), some (.int (zI (s : Int))), some (.int (zI (nu u m j p v).2))] [] (gI T 40 2 (zI ((nu u m j p v).1 : Nat))) Q →
    gW (tP sa) lD b E (d + 1) mX4_takeNumber 44 [some (.ref (b + 40)), some (.int (zI l1)), some (.int (zI (s : Int))), some (.int (zI v))] [] (gI T 40 2 (zI (p : Int))) Q := by
  have hm := h.2.1
  intro j
  induction j with
  | zero =>
    intro p v hj hp hpm k
    refine w_X4_takeNumber_44 ?_
    unfold f_X4_takeNumber_44
    rw [v_s (by omega)]
    exact ⟨by omega, fun _ => k, fun z => by omega⟩
  | succ j ih =>
    intro p v hj hp hpm k
    have hB := h.gI (k := 40) (j := 2) (x := zI (p : Int)) (by omega) (by omega)
    have hc := hB.c (i := p)
    refine w_X4_takeNumber_44 ?_
    unfold f_X4_takeNumber_44
    rw [v_s (by omega)]
    unfold nu at k
    refine ⟨by omega, fun z => by omega, fun _ => k4_byte hB (by omega) ⟨by omega, fun z => ?_, fun z => ?_⟩⟩
    · rw [if_neg z] at k; exact k
    · rw [v_s (by omega)]
      refine k4_byte hB (by omega) ?_
      rw [v_s (by omega), gI_gI]
      rw [if_pos z] at k
      have lt := cz_lt (u := u) (n := m) (p := p) (by rw [zD_iff] at z; omega)
      rw [zD_iff] at z
      rw [show (p : Int) + 1 = ((p + 1 : Nat) : Int) by omega, show v * 10 + cz u m p - 48 = 10 * v + cz u m p - 48 by omega]
      exact ih (p + 1) _ (by omega) (by omega) (by omega) k
/-- a number -/
theorem t_number {up : Int} {φ : Int → gT → Prop} (h : tR T u m q env o σ) (hl : σ.2.1 < 200) (hc : zD (cz u m σ.1) = true ∨ cz u m σ.1 = 45) (k : match xNu u m up σ.1 σ with
    | .inl f => ∀ T', tGf T' u m q f → fW q 0 0 0 T T' → φ 0 T'
    | .inr (σ', ts) => ∀ T', tR T' u m q env o σ' → fW q σ.2.1 o env.length T T' → tks T' q σ.2.1 σ'.2.1 ts → σ'.2.1 = σ.2.1 + 1 ∧ σ'.2.2 = σ.2.2 → φ 1 T') :
    gC (tP sa) lD b E (d + 1) mX4_takeNumber [.ref (b + 40)] T (fun r T' => pI r (fun v => φ v T')) := by
  have hB := h.1
  have hm := hB.2.1
  have hq := hB.2.2.2.2.2
  have a1 := h.2.1.1
  have a2 := h.2.1.2
  have lt : σ.1 < m := cz_lt (u := u) (by rw [zD_iff] at hc; omega)
  have hcz := hB.c (i := σ.1)
  refine w_X4_takeNumber ?_
  unfold f_X4_takeNumber
  rw [a1]
  unfold xNu at k
  -- from the sign on
  have rest : ∀ (ng : Int) (p : Nat), (ng = 0 ∨ ng = 1) → p ≤ m → σ.1 ≤ p → (match (if zD (cz u m p) = true then (if zD (cz u m (nu u m 6 p 0).1) = true then .inl (nu u m 6 p 0).1
    else .inr (((nu u m 6 p 0).1, σ.2.1 + 1, σ.2.2), [xTok 1 (if ng = 1 then -(nu u m 6 p 0).2 else (nu u m 6 p 0).2) (-1) (-1) (-1) (-1) up])) else .inl p : xR) with
    | .inl f => ∀ T', tGf T' u m q f → fW q 0 0 0 T T' → φ 0 T'
    | .inr (σ', ts) => ∀ T', tR T' u m q env o σ' → fW q σ.2.1 o env.length T T' → tks T' q σ.2.1 σ'.2.1 ts → σ'.2.1 = σ.2.1 + 1 ∧ σ'.2.2 = σ.2.2 → φ 1 T') →
    gW (tP sa) lD b E (d + 1) mX4_takeNumber 44 [some (.ref (b + 40)), some (.int (zI ng)), some (.int (zI (p : Int))), some (.int (zI 0))] [] (gI T 40 2 (zI (p : Int))) (fun r T' => pI r (fun v => φ v T')) := by
    intro ng p hng hpm hp k
    obtain ⟨n1, n2, n3, n4⟩ := nu_rg (u := u) (n := m) (fun i hi => hB.b hi) 6 p 0 hpm (Int.le_refl _)
    have e6 : ((0 : Int) + 1) * 10 ^ 6 = 1000000 := by decide
    rw [e6] at n4
    refine k_nu hB 6 p 0 (by omega) (by omega) hpm ?_
    have h1 := h.at n2
    have nlt : zD (cz u m p) = true → p < (nu u m 6 p 0).1 := fun z => by
      have lt2 := cz_lt (u := u) (n := m) (p := p) (by rw [zD_iff] at z; omega)
      have hb2 := z
      rw [zD_iff] at hb2
      have := (nu_rg (u := u) (n := m) (fun i hi => hB.b hi) 5 (p + 1) (10 * 0 + cz u m p - 48) lt2 (by omega)).1
      unfold nu
      rw [if_pos z]
      exact Nat.lt_of_succ_le this
    have neq : ¬ zD (cz u m p) = true → nu u m 6 p 0 = (p, 0) := fun z => by unfold nu; rw [if_neg z]
    generalize hy : nu u m 6 p 0 = y at *
    have e2 : vI (gI T 40 2 (zI (y.1 : Int))) 40 2 = (y.1 : Int) := v_s (by omega)
    refine w_X4_takeNumber_99 ?_
    unfold f_X4_takeNumber_99
    rw [e2]
    refine ⟨by omega, fun z => ?_, fun z => k4_byte h1.1 (by omega) ?_⟩
    · have nz : ¬ zD (cz u m p) = true := fun zz => by have := nlt zz; omega
      rw [if_neg nz] at k
      have ey : y.1 = p := by rw [neq nz]
      refine h1.no n2 (fun T' g fw => ⟨_, rfl, k _ (by rw [← ey]; exact g) (tR.atW.trans fw)⟩)
    · have yz : zD (cz u m p) = true := by
        by_cases zz : zD (cz u m p) = true
        · exact zz
        · exact absurd (by rw [neq zz]) z
      rw [if_pos yz] at k
      have hce := hB.c (i := y.1)
      refine ⟨by omega, fun zz => ?_, fun zz => ?_⟩
      · rw [if_neg zz] at k
        have nx : ∀ T', tR T' u m q env o (y.1, σ.2.1 + 1, σ.2.2) → fW q σ.2.1 o env.length (gI T 40 2 (zI (y.1 : Int))) T' → tk3 T' q σ.2.1 1 (if ng = 1 then -y.2 else y.2) (-1) → φ 1 T' := fun T' h' fw' tk => k T' h' (tR.atW.trans fw') (tks_cons tk tks_nil) ⟨rfl, rfl⟩
        refine ⟨q, hq, h1.1.2.2.2.2.1, by omega, fun hz => ?_, fun hz => ?_⟩
        · rw [if_neg (by omega)] at nx
          exact t_leaf (p := 0) h1 hl (by omega) (by omega) (fun T' h' fw' tk => ⟨_, rfl, nx T' h' fw' tk⟩)
        · rw [if_pos (by omega)] at nx
          exact t_leaf (p := 0) h1 hl (by omega) (by omega) (fun T' h' fw' tk => ⟨_, rfl, nx T' h' fw' tk⟩)
      · rw [if_pos zz] at k
        rw [e2]
        exact h1.no n2 (fun T' g fw => ⟨_, rfl, k _ g (tR.atW.trans fw)⟩)
  refine k4_byte hB (by omega) ⟨by omega, fun z => ?_, fun z => ?_⟩
  · refine w_X4_takeNumber_18 ?_
    unfold f_X4_takeNumber_18
    refine ⟨by decide, fun _ => ?_, fun z => absurd rfl z⟩
    rw [a1, Int.add_zero]
    simp only [if_neg z] at k
    refine rest 0 σ.1 (Or.inl rfl) a2 (Nat.le_refl _) ?_
    rw [if_neg (show ¬ (0 : Int) = 1 by decide)]
    exact k
  · refine w_X4_takeNumber_18 ?_
    unfold f_X4_takeNumber_18
    refine ⟨by decide, fun z => absurd z (by decide), fun _ => ?_⟩
    rw [a1, show (σ.1 : Int) + 1 = ((σ.1 + 1 : Nat) : Int) by omega]
    simp only [if_pos z] at k
    refine rest 1 (σ.1 + 1) (Or.inr rfl) (by omega) (by omega) ?_
    rw [if_pos rfl]
    exact k
/-- the kind of a form -/
theorem t_kind {φ : Int → gT → Prop} (hE : mSta sa b E) (hK : mKeyC sa b E) (h : tR T u m q env o σ) (k : ∀ T', tR T' u m q env o (sk u m σ.1 + skA (kdA u m (sk u m σ.1)), σ.2) → (∀ l o2 e2, fW q l o2 e2 T T') → φ ((kdA u m (sk u m σ.1) : Nat) : Int) T') :
    gC (tP sa) lD b E (d + 5) mX4_takeFormKind [.ref (b + 40)] T (fun r T' => pI r (fun v => φ v T')) := by
  have hB := h.1
  have hm := hB.2.1
  refine w_X4_takeFormKind (d := d + 4) hE ?_
  unfold f_X4_takeFormKind
  refine t_look (d := d + 3) h (fun T1 h1 e1 => ?_)
  have hkl := skA_le (u := u) (n := m) (q := sk u m σ.1) (sk_le (u := u) h.2.1.2).2
  have w1 : ∀ l o2 e2, fW q l o2 e2 T T1 := fun l o2 e2 => by rw [e1]; exact tR.atW
  have a1 := h1.2.1.1
  have a2 := h1.2.1.2
  generalize hs : sk u m σ.1 = s at *
  dsimp only at a1 a2
  have hcz := hB.c (i := s)
  have hcz1 := hB.c (i := s + 1)
  have nx : ∀ (j x : Nat), kdA u m s = j → x = skA j → φ (j : Int) (gI T1 40 2 (zI ((s + x : Nat) : Int))) := fun j x hj hx => by
    rw [hj] at k hkl
    subst hx
    exact k _ (h1.at hkl) (fun l o2 e2 => (w1 l o2 e2).trans tR.atW)
  -- the words
  have wds : cz u m s ≠ 43 → ¬ (cz u m s = 45 ∧ ¬ zD (cz u m (s + 1)) = true) → cz u m s ≠ 42 → cz u m s ≠ 61 → cz u m s ≠ 60 → gC (tP sa) lD b E (d + 4) mX4_wordEnd [.ref (b + 40)] T1 (fun r T78 => pI r (fun v78 => gC (tP sa) lD b E (d + 4) mX4_isWord [.ref (b + 40), .int (zI v78), .ref (sa 0)] T78 (fun r T86 => pI r (fun v86 => (-2147483648 ≤ v86 ∧ v86 < 2147483648) ∧ ((v86 = 0 → gC (tP sa) lD b E (d + 4) mX4_isWord [.ref (b + 40), .int (zI v78), .ref (sa 1)] T86 (fun r T100 => pI r (fun v100 => (-2147483648 ≤ v100 ∧ v100 < 2147483648) ∧ ((v100 = 0 → gC (tP sa) lD b E (d + 4) mX4_isWord [.ref (b + 40), .int (zI v78), .ref (sa 2)] T100 (fun r T114 => pI r (fun v114 => (-2147483648 ≤ v114 ∧ v114 < 2147483648) ∧ ((v114 = 0 → (fun r T' => pI r (fun v => φ v T')) (some (.int (zI 11))) (gI T114 40 2 (zI (vI T114 40 2)))) ∧ (¬ v114 = 0 → (fun r T' => pI r (fun v => φ v T')) (some (.int (zI 3))) (gI T114 40 2 (zI v78))))))) ∧ (¬ v100 = 0 → (fun r T' => pI r (fun v => φ v T')) (some (.int (zI 5))) (gI T100 40 2 (zI v78))))))) ∧ (¬ v86 = 0 → (fun r T' => pI r (fun v => φ v T')) (some (.int (zI 4))) (gI T86 40 2 (zI v78)))))))) := by
    intro n1 n2 n3 n4 n5
    refine k4_word (d := d + 3) h1.1 a1 a2 ?_
    have hwn := wn_le (u := u) a2
    -- a word stands, or not
    have isT : ∀ w : List Nat, w ≠ [] → (wn u m s = s + w.length ∧ ∀ i, i < w.length → u (s + i) = w.getD i 0) → isW u m s w = true := fun w hw0 hw => by
      have hz : zL (cz u m s) = true := by
        by_cases y : zL (cz u m s) = true
        · exact y
        · have e := hw.1; unfold wn at e; rw [if_neg y] at e
          exact absurd (List.length_eq_zero_iff.mp (by omega)) hw0
      have e := hw.1; unfold wn at e; rw [if_pos hz] at e
      unfold isW
      simp only [Bool.and_eq_true, decide_eq_true_eq]
      exact ⟨⟨hz, e⟩, hw.2⟩
    have isF : ∀ w : List Nat, ¬ (wn u m s = s + w.length ∧ ∀ i, i < w.length → u (s + i) = w.getD i 0) → ¬ isW u m s w = true := fun w hw y => by
      unfold isW at y
      simp only [Bool.and_eq_true, decide_eq_true_eq] at y
      exact hw ⟨by unfold wn; rw [if_pos y.1.1]; exact y.1.2, y.2⟩
    refine k4_isWord (d := d) h1.1 a1 a2 hwn.1 hwn.2 hK.1 (by decide) (by decide) (fun e1 e2 => ⟨by decide, fun z => absurd z (by decide), fun _ => ?_⟩) (fun y1 => ⟨by decide, fun _ => ?_, fun z => absurd rfl z⟩)
    · have : kdA u m s = 4 := by unfold kdA; rw [if_pos (isT _ (by decide) ⟨e1, e2⟩)]
      rw [e1]
      exact ⟨_, rfl, nx 4 2 this rfl⟩
    have f1 := isF _ y1
    refine k4_isWord (d := d) h1.1 a1 a2 hwn.1 hwn.2 hK.2.1 (by decide) (by decide) (fun e1 e2 => ⟨by decide, fun z => absurd z (by decide), fun _ => ?_⟩) (fun y2 => ⟨by decide, fun _ => ?_, fun z => absurd rfl z⟩)
    · have : kdA u m s = 5 := by unfold kdA; rw [if_neg f1, if_pos (isT _ (by decide) ⟨e1, e2⟩)]
      rw [e1]
      exact ⟨_, rfl, nx 5 3 this rfl⟩
    have f2 := isF _ y2
    refine k4_isWord (d := d) h1.1 a1 a2 hwn.1 hwn.2 hK.2.2 (by decide) (by decide) (fun e1 e2 => ⟨by decide, fun z => absurd z (by decide), fun _ => ?_⟩) (fun y3 => ⟨by decide, fun _ => ?_, fun z => absurd rfl z⟩)
    · have : kdA u m s = 3 := by unfold kdA; rw [if_neg f1, if_neg f2, if_pos (isT _ (by decide) ⟨e1, e2⟩)]
      rw [e1]
      exact ⟨_, rfl, nx 3 3 this rfl⟩
    have f3 := isF _ y3
    have : kdA u m s = 11 := by unfold kdA; rw [if_neg f1, if_neg f2, if_neg f3, if_neg n1, if_neg n2, if_neg n3, if_neg n4, if_neg n5]
    rw [a1]
    exact ⟨_, rfl, nx 11 0 this rfl⟩
  -- no word begins with a sign
  have nw : ∀ w, cz u m s = 43 ∨ cz u m s = 45 ∨ cz u m s = 42 ∨ cz u m s = 61 ∨ cz u m s = 60 → ¬ isW u m s w = true := fun w hc y => by
    unfold isW at y
    simp only [Bool.and_eq_true, decide_eq_true_eq] at y
    have := y.1.1
    rw [zL_iff] at this
    omega
  have st : ∀ (i : Nat) (L3 : Option Value), i ≤ 5 → (L3 = none ∨ ∃ x, L3 = some (.int (zI x))) → (∀ i', i' < i → cz u m s = ((stB.getD i' 0 : Nat) : Int) → cz u m s = 45 ∧ zD (cz u m (s + 1)) = true) →
      gW (tP sa) lD b E (d + 4 + 1) mX4_takeFormKind 7 [some (.ref (b + 40)), some (.int (zI (cz u m s))), some (.int (zI (i : Int))), L3] [] T1 (fun r T' => pI r (fun v => φ v T')) := by
    have hst : ∀ i : Nat, -2147483648 ≤ ((stB.getD i 0 : Nat) : Int) ∧ ((stB.getD i 0 : Nat) : Int) < 2147483648 := fun i => by
      by_cases hi : i < 5
      · rcases (show i = 0 ∨ i = 1 ∨ i = 2 ∨ i = 3 ∨ i = 4 by omega) with rfl | rfl | rfl | rfl | rfl <;> decide
      · rw [show stB.getD i 0 = 0 by rw [List.getD_eq_getElem?_getD, List.getElem?_eq_none (by show 5 ≤ i; omega)]; rfl]; decide
    have main : ∀ (j i : Nat) (L3 : Option Value), j + i = 5 → (L3 = none ∨ ∃ x, L3 = some (.int (zI x))) → (∀ i', i' < i → cz u m s = ((stB.getD i' 0 : Nat) : Int) → cz u m s = 45 ∧ zD (cz u m (s + 1)) = true) →
      gW (tP sa) lD b E (d + 4 + 1) mX4_takeFormKind 7 [some (.ref (b + 40)), some (.int (zI (cz u m s))), some (.int (zI (i : Int))), L3] [] T1 (fun r T' => pI r (fun v => φ v T')) := by
      intro j
      induction j with
      | zero =>
        intro i L3 hj hL hp
        obtain rfl : i = 5 := by omega
        have c0 := hp 0 (by decide)
        have c1 := hp 1 (by decide)
        have c2 := hp 2 (by decide)
        have c3 := hp 3 (by decide)
        have c4 := hp 4 (by decide)
        have w := wds (fun z => by have := c0 z; omega) (fun z => absurd (c1 z.1).2 z.2) (fun z => by have := c2 z; omega) (fun z => by have := c3 z; omega) (fun z => by have := c4 z; omega)
        rcases hL with rfl | ⟨x, rfl⟩
        · refine w_X4_takeFormKind_7 (d := d + 4) hE ?_
          unfold f_X4_takeFormKind_7
          exact ⟨by decide, fun _ => w, fun z => absurd (by decide) z⟩
        · refine w_X4_takeFormKind_7b (d := d + 4) hE ?_
          unfold f_X4_takeFormKind_7b
          exact ⟨by decide, fun _ => w, fun z => absurd (by decide) z⟩
      | succ j ih =>
        intro i L3 hj hL hp
        have nxt : ∀ x : Int, (cz u m s = ((stB.getD i 0 : Nat) : Int) → cz u m s = 45 ∧ zD (cz u m (s + 1)) = true) → gW (tP sa) lD b E (d + 4 + 1) mX4_takeFormKind 7 [some (.ref (b + 40)), some (.int (zI (cz u m s))), some (.int (zI ((i + 1 : Nat) : Int))), some (.int (zI x))] [] T1 (fun r T' => pI r (fun v => φ v T')) := fun x hx => by
          refine ih (i + 1) _ (by omega) (Or.inr ⟨x, rfl⟩) (fun i' hi' => ?_)
          by_cases y : i' = i
          · rw [y]; exact hx
          · exact hp i' (by omega)
        have sgn : cz u m s = ((stB.getD i 0 : Nat) : Int) → ¬ (cz u m s = 45 ∧ zD (cz u m (s + 1)) = true) → (fun r T' => pI r (fun v => φ v T')) (some (.int (zI (6 + (i : Int))))) (gI T1 40 2 (zI (vI T1 40 2 + 1))) := by
          intro y y2
          rw [a1, show (s : Int) + 1 = ((s + 1 : Nat) : Int) by omega]
          rcases (show i = 0 ∨ i = 1 ∨ i = 2 ∨ i = 3 ∨ i = 4 by omega) with rfl | rfl | rfl | rfl | rfl
          · have e : cz u m s = 43 := y
            have kk : kdA u m s = 6 := by unfold kdA; rw [if_neg (nw _ (by omega)), if_neg (nw _ (by omega)), if_neg (nw _ (by omega)), if_pos e]
            exact ⟨_, rfl, nx 6 1 kk rfl⟩
          · have e : cz u m s = 45 := y
            have kk : kdA u m s = 7 := by unfold kdA; rw [if_neg (nw _ (by omega)), if_neg (nw _ (by omega)), if_neg (nw _ (by omega)), if_neg (by omega), if_pos ⟨e, fun z => y2 ⟨e, z⟩⟩]
            exact ⟨_, rfl, nx 7 1 kk rfl⟩
          · have e : cz u m s = 42 := y
            have kk : kdA u m s = 8 := by unfold kdA; rw [if_neg (nw _ (by omega)), if_neg (nw _ (by omega)), if_neg (nw _ (by omega)), if_neg (by omega), if_neg (fun z => by have := z.1; omega), if_pos e]
            exact ⟨_, rfl, nx 8 1 kk rfl⟩
          · have e : cz u m s = 61 := y
            have kk : kdA u m s = 9 := by unfold kdA; rw [if_neg (nw _ (by omega)), if_neg (nw _ (by omega)), if_neg (nw _ (by omega)), if_neg (by omega), if_neg (fun z => by have := z.1; omega), if_neg (by omega), if_pos e]
            exact ⟨_, rfl, nx 9 1 kk rfl⟩
          · have e : cz u m s = 60 := y
            have kk : kdA u m s = 10 := by unfold kdA; rw [if_neg (nw _ (by omega)), if_neg (nw _ (by omega)), if_neg (nw _ (by omega)), if_neg (by omega), if_neg (fun z => by have := z.1; omega), if_neg (by omega), if_neg (by omega), if_pos e]
            exact ⟨_, rfl, nx 10 1 kk rfl⟩
        rcases hL with rfl | ⟨x, rfl⟩
        · refine w_X4_takeFormKind_7 (d := d + 4) hE ?_
          unfold f_X4_takeFormKind_7
          refine ⟨by omega, fun z => by omega, fun _ => ⟨by omega, fun z => ?_, fun z => ?_⟩⟩
          · refine w_X4_takeFormKind_41 (d := d + 4) hE ?_
            unfold f_X4_takeFormKind_41
            refine w_X4_takeFormKind_42 (d := d + 4) hE ?_
            unfold f_X4_takeFormKind_42
            rw [Int.toNat_natCast, show (i : Int) + 1 = ((i + 1 : Nat) : Int) by omega]
            refine ⟨by omega, by omega, by omega, hst i, fun y => nxt 0 (fun y2 => absurd y2 y), fun y => ⟨by decide, fun z2 => absurd rfl z2, fun _ => ?_⟩⟩
            exact sgn y (fun z2 => z z2.1)
          · rw [a1, show (s : Int) + 1 = ((s + 1 : Nat) : Int) by omega]
            refine k4_byte h1.1 (by omega) ⟨by omega, fun zd => ?_, fun zd => ?_⟩
            · refine w_X4_takeFormKind_41 (d := d + 4) hE ?_
              unfold f_X4_takeFormKind_41
              refine w_X4_takeFormKind_42 (d := d + 4) hE ?_
              unfold f_X4_takeFormKind_42
              rw [Int.toNat_natCast, show (i : Int) + 1 = ((i + 1 : Nat) : Int) by omega]
              refine ⟨by omega, by omega, by omega, hst i, fun y => nxt 0 (fun y2 => absurd y2 y), fun y => ⟨by decide, fun z2 => absurd rfl z2, fun _ => ?_⟩⟩
              exact sgn y (fun z2 => zd z2.2)
            · refine w_X4_takeFormKind_42 (d := d + 4) hE ?_
              unfold f_X4_takeFormKind_42
              rw [Int.toNat_natCast, show (i : Int) + 1 = ((i + 1 : Nat) : Int) by omega]
              exact ⟨by omega, by omega, by omega, hst i, fun y => nxt 1 (fun y2 => absurd y2 y), fun y => ⟨by decide, fun _ => nxt 1 (fun _ => ⟨z, zd⟩), fun z2 => absurd z2 (by decide)⟩⟩
        · refine w_X4_takeFormKind_7b (d := d + 4) hE ?_
          unfold f_X4_takeFormKind_7b
          refine ⟨by omega, fun z => by omega, fun _ => ⟨by omega, fun z => ?_, fun z => ?_⟩⟩
          · refine w_X4_takeFormKind_41b (d := d + 4) hE ?_
            unfold f_X4_takeFormKind_41b
            refine w_X4_takeFormKind_42b (d := d + 4) hE ?_
            unfold f_X4_takeFormKind_42b
            rw [Int.toNat_natCast, show (i : Int) + 1 = ((i + 1 : Nat) : Int) by omega]
            refine ⟨by omega, by omega, by omega, hst i, fun y => nxt 0 (fun y2 => absurd y2 y), fun y => ⟨by decide, fun z2 => absurd rfl z2, fun _ => ?_⟩⟩
            exact sgn y (fun z2 => z z2.1)
          · rw [a1, show (s : Int) + 1 = ((s + 1 : Nat) : Int) by omega]
            refine k4_byte h1.1 (by omega) ⟨by omega, fun zd => ?_, fun zd => ?_⟩
            · refine w_X4_takeFormKind_41b (d := d + 4) hE ?_
              unfold f_X4_takeFormKind_41b
              refine w_X4_takeFormKind_42b (d := d + 4) hE ?_
              unfold f_X4_takeFormKind_42b
              rw [Int.toNat_natCast, show (i : Int) + 1 = ((i + 1 : Nat) : Int) by omega]
              refine ⟨by omega, by omega, by omega, hst i, fun y => nxt 0 (fun y2 => absurd y2 y), fun y => ⟨by decide, fun z2 => absurd rfl z2, fun _ => ?_⟩⟩
              exact sgn y (fun z2 => zd z2.2)
            · refine w_X4_takeFormKind_42b (d := d + 4) hE ?_
              unfold f_X4_takeFormKind_42b
              rw [Int.toNat_natCast, show (i : Int) + 1 = ((i + 1 : Nat) : Int) by omega]
              exact ⟨by omega, by omega, by omega, hst i, fun y => nxt 1 (fun y2 => absurd y2 y), fun y => ⟨by decide, fun _ => nxt 1 (fun _ => ⟨z, zd⟩), fun z2 => absurd z2 (by decide)⟩⟩
    intro i L3 hi hL hp
    exact main (5 - i) i L3 (by omega) hL hp
  exact st 0 none (by omega) (Or.inl rfl) (fun i' hi => absurd hi (Nat.not_lt_zero _))
end RD3
