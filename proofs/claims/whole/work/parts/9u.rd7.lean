/-! THE CLASS READS: the whole -/
section RD7
variable {sa : Nat → Nat} {b : Nat} {E : Nat × mH} {d : Nat} {u : Nat → Nat} {m q : Nat} {l2 : Int} {Q : Option Value → gT → Prop} {T : gT} {env : List (List Nat × Nat)} {o r s l nv nf : Nat} {up : Int}
/-- a form -/
theorem m_form (hE : mSta sa b E) (hK : mKeyC sa b E) (hR : hRd sa b E d u m q l2 Q r) (hro : r + 1 + o = 40) (h : tR T u m q env o (s, l, nv, nf)) (hl : l < 200) (hs : s < m) {s9 : Nat} (k : kR sa b E d u m q l2 Q T env o l nv (xFm u m (px u m r) env up s (s9, l, nv, nf))) :
    gC (tP sa) lD b E (d + 6) mX4_takeForm [.ref (b + 40)] T (fun r T' => pV r (l88 sa b E d q l2 Q (l : Int) T')) := by
  have hq := h.1.2.2.2.2.2
  have hkr := kdA_le (u := u) (n := m) (q := sk u m (s + 1))
  have hen : env.length ≤ nv := h.2.2.2.2.2.2.1.2
  unfold xFm at k
  dsimp only at k
  generalize hq0 : sk u m (s + 1) = s1 at *
  generalize hkd : kdA u m s1 = kd at *
  refine t_form (d := d) (s := s1) (kd := kd) hE hK h hl (by omega) hs hq0 hkd (fun f hf T' g fw => ?_) (fun w1 w2 σ1 σ2 k3 n50 hb1 hb2 T' h' fw p' t' => ?_) (fun w σ1 k5 hb hw T' h' fw p' h46 t' => ?_) (fun n3 n5 T' h' fw p' t' => ?_)
  · dsimp only at hf
    rcases hf with ⟨h1, h2, rfl⟩ | ⟨h1, h2, h3⟩ | ⟨h1, h2⟩
    · rw [if_pos h1, if_pos h2] at k
      exact k T' _ g fw (by omega) (by omega)
    · rw [if_pos h1, if_neg h2] at k
      have e : xFx u m (px u m r) env up (s1 + 3, l + 1, nv, nf + 1) = .inl f := by
        unfold xFx
        rcases h3 with h3 | ⟨w, σ1, h3, h4⟩
        · rw [h3]
        · rw [h3]; dsimp only; rw [h4]
      rw [e] at k
      exact k T' _ g fw (by omega) (by omega)
    · rw [if_neg (by omega), if_pos h1] at k
      have e : xLt u m (px u m r) env up (s1 + 3, l + 1, nv, nf) = .inl f := by
        unfold xLt
        rw [h2]
      rw [e] at k
      exact k T' _ g fw (by omega) (by omega)
  · dsimp only at *
    rw [if_pos k3, if_neg n50] at k
    exact m_fix hE hR hro hq hl ⟨rfl, rfl⟩ hb1 hb2 k h' fw p' t'
  · dsimp only at *
    rw [if_neg (by omega), if_pos k5] at k
    exact m_let hE hR hro hq hl hen ⟨rfl, rfl⟩ hb hw k h' fw p' h46 t'
  · dsimp only at *
    rw [if_neg n3, if_neg n5] at k
    exact m_many hE hR hro hq hl ⟨rfl, rfl⟩ (by omega) k h' fw p' t'
/-- what a name or a number is followed by -/
theorem m_end {σ' : xS} {ts : List (Nat → Int)} (h : tR T u m q env o σ') (hl : σ'.2.1 = l + 1) (hv : σ'.2.2.1 = nv) (tk : tks T q l σ'.2.1 ts) {T0 : gT} (k : kR sa b E d u m q l2 Q T0 env o l nv (.inr (σ', ts))) (fw : fW q l o env.length T0 T) :
    gC (tP sa) lD b E (d + 7) mX4_endExpr [.ref (b + 40)] T (fun r T85 => pV r (l88 sa b E d q l2 Q (l : Int) T85)) := by
  refine w_X4_endExpr (d := d + 6) ?_
  unfold f_X4_endExpr
  rw [h.2.2.2.2.2.2.2.1.1]
  have := k T none (Or.inl rfl) h fw tk (by omega) (by omega)
  rw [show (σ'.2.1 : Int) - 1 = (l : Int) by omega] at this
  exact this
/-- an expr, whatever may still be opened -/
theorem m_xE {big : Nat → Int → xR} {σ : xS} (h : tR T u m q env o σ) (k : kR sa b E d u m q l2 Q T env o σ.2.1 σ.2.2.1 (xE u m big env up σ))
    (hb : ∀ T1 c, tR T1 u m q env o (sk u m σ.1, σ.2) → σ.2.1 < 200 → sk u m σ.1 < m → kR sa b E d u m q l2 Q T1 env o σ.2.1 σ.2.2.1 (big (sk u m σ.1) c) → (c = 92 → gC (tP sa) lD b E (d + 6) mX4_takeLambda [.ref (b + 40)] T1 (fun r T' => pV r (l88 sa b E d q l2 Q (σ.2.1 : Int) T'))) ∧ (c = 40 → gC (tP sa) lD b E (d + 6) mX4_takeForm [.ref (b + 40)] T1 (fun r T' => pV r (l88 sa b E d q l2 Q (σ.2.1 : Int) T')))) :
    l64 sa b E d q l2 Q (σ.2.1 : Int) T := by
  have hq := h.1.2.2.2.2.2
  have hl2 := h.2.2.2.1.2
  refine w_X4_load_64 (d := d + 7) hq ?_
  unfold f_X4_load_64
  refine ⟨by omega, fun z => by omega, fun _ => ⟨by decide, fun z => absurd z (by decide), fun _ => ?_⟩⟩
  refine w_X4_takeExpr (d := d + 6) ?_
  unfold f_X4_takeExpr
  refine t_look (d := d + 5) h (fun T1 h1 e1 => ?_)
  have hcz := h.1.c (i := sk u m σ.1)
  have k1 := k.to (T1 := T1) (by rw [e1]; exact tR.atW)
  have a1 := h1.2.1.1
  have a2 := h1.2.1.2
  have b1 : vI T1 q 0 = (σ.2.1 : Int) := h1.2.2.2.1.1
  have lt : 0 ≤ cz u m (sk u m σ.1) → sk u m σ.1 < m := cz_lt
  clear k e1
  unfold xE at k1
  obtain ⟨s9, l, nv, nf⟩ := σ
  dsimp only at *
  have hss : sk u m (sk u m s9) = sk u m s9 := sk_sk
  generalize hs : sk u m s9 = s at *
  -- what a 0 leads to
  have z0 : ∀ {T2 : gT}, l88 sa b E d q l2 Q (l : Int) T2 → (-2147483648 ≤ (0 : Int) ∧ (0 : Int) < 2147483648) ∧ ((0 : Int) = 0 → l88 sa b E d q l2 Q (l : Int) T2) ∧ (¬ (0 : Int) = 0 → gC (tP sa) lD b E (d + 7) mX4_endExpr [.ref (b + 40)] T2 (fun r T85 => pV r (l88 sa b E d q l2 Q (l : Int) T85))) := fun hh => ⟨by decide, fun _ => hh, fun z => absurd rfl z⟩
  have z1 : ∀ {T2 : gT}, gC (tP sa) lD b E (d + 7) mX4_endExpr [.ref (b + 40)] T2 (fun r T85 => pV r (l88 sa b E d q l2 Q (l : Int) T85)) → (-2147483648 ≤ (1 : Int) ∧ (1 : Int) < 2147483648) ∧ ((1 : Int) = 0 → l88 sa b E d q l2 Q (l : Int) T2) ∧ (¬ (1 : Int) = 0 → gC (tP sa) lD b E (d + 7) mX4_endExpr [.ref (b + 40)] T2 (fun r T85 => pV r (l88 sa b E d q l2 Q (l : Int) T85))) := fun hh => ⟨by decide, fun z => absurd z (by decide), fun _ => hh⟩
  refine ⟨q, hq, h1.1.2.2.2.2.1, fun lt2 => ⟨by omega, fun nL => ⟨fun yD => ?_, fun nD => ⟨fun n45 => ⟨fun n92 => ⟨fun n40 => ?_, fun y40 => ?_⟩, fun y92 => ?_⟩, fun y45 => ?_⟩⟩, fun yL => ?_⟩, fun ge2 => ?_⟩
  · -- a number
    rw [if_neg (show ¬ l = 200 by omega), if_neg nL, if_pos (Or.inl yD)] at k1
    refine t_number (d := d + 5) (up := up) h1 (by show l < 200; omega) (Or.inl yD) ?_
    cases hx : xNu u m up s (s9, l, nv, nf) with
    | inl f =>
      rw [hx] at k1
      have hx' : xNu u m up s (s, l, nv, nf) = .inl f := hx
      dsimp only
      rw [hx']
      exact fun T2 g f2 => ⟨Or.inl rfl, _, rfl, z0 (k1 T2 _ g f2 (by omega) (by omega))⟩
    | inr y =>
      obtain ⟨σ', ts⟩ := y
      rw [hx] at k1
      have hx' : xNu u m up s (s, l, nv, nf) = .inr (σ', ts) := hx
      dsimp only
      rw [hx']
      exact fun T2 h2 f2 tk2 ⟨i1, i2⟩ => ⟨Or.inr rfl, _, rfl, z1 (m_end h2 i1 (by rw [i2]) tk2 k1 f2)⟩
  · rw [if_neg (show ¬ l = 200 by omega), if_neg nL, if_neg (fun z => z.elim nD n45), if_neg (fun z => z.elim n92 n40)] at k1
    rw [a1]
    exact h1.no a2 (fun T2 g f2 => ⟨_, rfl, z0 (k1 T2 _ g f2 (by omega) (by omega))⟩)
  · rw [if_neg (show ¬ l = 200 by omega), if_neg nL, if_neg (fun z => z.elim nD n45), if_pos (Or.inr y40)] at k1
    exact ((hb T1 _ h1 (by omega) (lt (by omega)) k1).2 y40).mono (Nat.le_refl _) (fun r T2 hr => ⟨hr.1, _, rfl, z0 hr.2⟩)
  · rw [if_neg (show ¬ l = 200 by omega), if_neg nL, if_neg (fun z => z.elim nD n45), if_pos (Or.inl y92)] at k1
    exact ((hb T1 _ h1 (by omega) (lt (by omega)) k1).1 y92).mono (Nat.le_refl _) (fun r T2 hr => ⟨hr.1, _, rfl, z0 hr.2⟩)
  · -- a number
    rw [if_neg (show ¬ l = 200 by omega), if_neg nL, if_pos (Or.inr y45)] at k1
    refine t_number (d := d + 5) (up := up) h1 (by show l < 200; omega) (Or.inr y45) ?_
    cases hx : xNu u m up s (s9, l, nv, nf) with
    | inl f =>
      rw [hx] at k1
      have hx' : xNu u m up s (s, l, nv, nf) = .inl f := hx
      dsimp only
      rw [hx']
      exact fun T2 g f2 => ⟨Or.inl rfl, _, rfl, z0 (k1 T2 _ g f2 (by omega) (by omega))⟩
    | inr y =>
      obtain ⟨σ', ts⟩ := y
      rw [hx] at k1
      have hx' : xNu u m up s (s, l, nv, nf) = .inr (σ', ts) := hx
      dsimp only
      rw [hx']
      exact fun T2 h2 f2 tk2 ⟨i1, i2⟩ => ⟨Or.inr rfl, _, rfl, z1 (m_end h2 i1 (by rw [i2]) tk2 k1 f2)⟩
  · rw [if_neg (show ¬ l = 200 by omega), if_pos yL] at k1
    refine t_meaning (d := d + 3) h1 hss (by show l < 200; omega) (fun hn T2 g f2 => ⟨Or.inl rfl, _, rfl, z0 ?_⟩) (fun v hn hv T2 h2 f2 tk2 => ⟨Or.inr rfl, _, rfl, z1 ?_⟩)
    · dsimp only at hn g
      by_cases y : nmo u m s
      · rw [if_pos y] at k1
        cases hlk : lk env (wd u s (we u m s)) with
        | none => rw [hlk] at k1; exact k1 T2 _ g f2 (by omega) (by omega)
        | some v => exact absurd ⟨y, v, hlk⟩ hn
      · rw [if_neg y] at k1; exact k1 T2 _ g f2 (by omega) (by omega)
    · dsimp only at hn hv h2 f2 tk2
      rw [if_pos hn, hv] at k1
      exact m_end h2 rfl rfl (tks_cons tk2 tks_nil) k1 f2
  · rw [if_pos (show l = 200 by omega)] at k1
    rw [a1]
    exact h1.no a2 (fun T2 g f2 => ⟨_, rfl, z0 (k1 T2 _ g f2 (by omega) (by omega))⟩)
/-- reading, however deep -/
theorem m_main (hE : mSta sa b E) (hK : mKeyC sa b E) : ∀ r, hRd sa b E d u m q l2 Q r := by
  intro r
  induction r with
  | zero =>
    intro T env o σ up ho h k
    refine m_xE (big := fun p _ => .inl p) h k (fun T1 c h1 hl lt k1 => ⟨fun _ => ?_, fun _ => ?_⟩)
    · refine w_X4_takeLambda (d := d + 5) ?_
      unfold f_X4_takeLambda
      have g := h1.2.2.2.2.2.2.2.1.1
      have a1 := h1.2.1.1
      refine ⟨fun _ => ?_, fun z => by omega⟩
      rw [a1]
      exact h1.no h1.2.1.2 (fun T2 g2 f2 => ⟨rfl, k1 T2 _ g2 f2 (by omega) (by omega)⟩)
    · refine w_X4_takeForm (d := d + 5) ?_
      unfold f_X4_takeForm
      have g := h1.2.2.2.2.2.2.2.1.1
      have a1 := h1.2.1.1
      refine ⟨fun z => by omega, fun _ => ?_⟩
      rw [a1]
      exact h1.no h1.2.1.2 (fun T2 g2 f2 => ⟨rfl, k1 T2 _ g2 f2 (by omega) (by omega)⟩)
  | succ r ih =>
    intro T env o σ up ho h k
    refine m_xE (big := fun p c => if c = 92 then xLam u m (px u m r) env up p σ else xFm u m (px u m r) env up p σ) h k (fun T1 c h1 hl lt k1 => ⟨fun hc => ?_, fun hc => ?_⟩)
    · rw [if_pos hc] at k1
      exact m_lambda (s9 := σ.1) hE ih ho h1 hl lt k1
    · rw [if_neg (by omega)] at k1
      exact m_form (s9 := σ.1) hE hK ih ho h1 hl lt k1
/-- the loop is left -/
theorem m_out {t : Int} {φ : Int → gT → Prop} (hq : q = 2 ∨ q = 21) (ht : -2 ≤ t ∧ t < 1000) (k : gC (tP sa) lD b E (d + 7) mX4_look [.ref (b + 40)] T (fun r T117 => pI r (fun v117 => (-2147483648 ≤ v117 ∧ v117 < 2147483648) ∧ ((v117 = (-1) → φ (vI T117 40 3) T117) ∧ (¬ v117 = (-1) → gC (tP sa) lD b E (d + 7) mX4_fail [.ref (b + 40), .int (zI (vI T117 40 2))] T117 (fun r T129 => pV r (φ (vI T129 40 3) T129))))))) (h14 : vI T 40 14 ≤ 0 ∨ vI T 40 3 ≠ -1) :
    l88 sa b E d q l2 (fun r T' => pI r (fun v => φ v T')) t T := by
  have k' : gC (tP sa) lD b E (d + 7) mX4_look [.ref (b + 40)] T (fun r T117 => pI r (fun v117 => (-2147483648 ≤ v117 ∧ v117 < 2147483648) ∧ ((v117 = (-1) → (fun r T' => pI r (fun v => φ v T')) (some (.int (zI (vI T117 40 3)))) T117) ∧ (¬ v117 = (-1) → gC (tP sa) lD b E (d + 7) mX4_fail [.ref (b + 40), .int (zI (vI T117 40 2))] T117 (fun r T129 => pV r ((fun r T' => pI r (fun v => φ v T')) (some (.int (zI (vI T129 40 3)))) T129)))))) := by
    refine k.mono (Nat.le_refl _) (fun r T1 hr => ?_)
    obtain ⟨v, e, h1, h2, h3⟩ := hr
    exact ⟨v, e, h1, fun z => ⟨_, rfl, h2 z⟩, fun z => (h3 z).mono (Nat.le_refl _) (fun r T2 hr2 => ⟨hr2.1, _, rfl, hr2.2⟩)⟩
  have k64 : gW (tP sa) lD b E (d + 7 + 1) mX4_load 64 [some (.ref (b + 40)), some (.ref (b + 1)), some (.int (zI l2)), some (.ref (b + q)), some (.int (zI 0)), some (.int (zI (t + 1)))] [] T (fun r T' => pI r (fun v => φ v T')) := by
    refine w_X4_load_64 (d := d + 7) hq ?_
    unfold f_X4_load_64
    exact ⟨by omega, fun _ => k', fun _ => ⟨by decide, fun _ => k', fun z => absurd rfl z⟩⟩
  refine w_X4_load_88 (d := d + 7) hq ?_
  unfold f_X4_load_88
  exact ⟨fun _ => k64, fun z => ⟨fun _ => k64, fun z2 => h14.elim (fun y => absurd y z) (fun y => absurd z2 y)⟩⟩
def Wg (q k i : Nat) : Prop := Wf q 0 0 0 k i ∨ k = 40
/-- load: a fault, or none -/
theorem d_load {φ : Int → gT → Prop} (hE : mSta sa b E) (hK : mKeyC sa b E) (hq : q = 2 ∨ q = 21) (hm : m ≤ 400) (ht : mTx T 1 u)
    (k0 : ∀ f T', rdP u m = .inl f → (f : Int) < 2147483648 → fG (Wg q) V0 T T' → φ (f : Int) T') (k1 : ∀ x T', rdP u m = .inr x → fG (Wg q) V0 T T' → vI T' q 0 = (x.2.1 : Int) → (∀ l, l < x.2.1 → tk3 T' q l (x.1 l 0) (x.1 l 1) (x.1 l 2)) → φ (-1) T') :
    gC (tP sa) lD b E (d + 7 + 1) mX4_load [.ref (b + 40), .ref (b + 1), .int (zI (m : Int)), .ref (b + q)] T (fun r T' => pI r (fun v => φ v T')) := by
  refine w_X4_load (d := d + 7) hq ?_
  unfold f_X4_load
  rw [if_neg (by omega), zI_nat, zI_nat]
  refine ⟨by omega, q, hq, v_s (by omega), ?_⟩
  have F0 : fG (Wg q) V0 T (gI (gI (gI (gI (gI (gI (gI (gI (gI (gI T 40 0 (zI ((1 : Nat) : Int))) 40 1 (zI (m : Int))) 40 2 (zI 0)) 40 3 (zI (-1))) 40 4 (zI (q : Int))) q 0 (zI 0)) 40 5 (zI 0)) 40 6 (zI 0)) 40 9 (zI 0)) 40 14 (zI 0)) := by
    refine ((((((((((fG.refl.gI ?_).gI ?_).gI ?_).gI ?_).gI ?_).gI ?_).gI ?_).gI ?_).gI ?_).gI ?_)
    case refine_6 => exact Or.inl (by unfold Wf; omega)
    all_goals exact Or.inr rfl
  have R0 : tR (gI (gI (gI (gI (gI (gI (gI (gI (gI (gI T 40 0 (zI ((1 : Nat) : Int))) 40 1 (zI (m : Int))) 40 2 (zI 0)) 40 3 (zI (-1))) 40 4 (zI (q : Int))) q 0 (zI 0)) 40 5 (zI 0)) 40 6 (zI 0)) 40 9 (zI 0)) 40 14 (zI 0)) u m q [] 0 (0, 0, 0, 0) := by
    refine ⟨⟨fun i hi => ⟨(ht i hi).1, (F0.1 1 i (by unfold Wg Wf; omega)).trans (ht i hi).2⟩, hm, ?_, ?_, ?_, hq⟩, ⟨?_, Nat.zero_le _⟩, ?_, ⟨?_, Nat.zero_le _⟩, ⟨?_, Nat.zero_le _⟩, ⟨?_, Nat.zero_le _⟩, ⟨?_, Nat.zero_le _⟩, ⟨?_, Nat.zero_le _⟩, trivial⟩
    all_goals (repeat first | rw [v_s (by omega)] | rw [v_o (by omega)])
    all_goals rfl
  generalize (gI (gI (gI (gI (gI (gI (gI (gI (gI (gI T 40 0 (zI ((1 : Nat) : Int))) 40 1 (zI (m : Int))) 40 2 (zI 0)) 40 3 (zI (-1))) 40 4 (zI (q : Int))) q 0 (zI 0)) 40 5 (zI 0)) 40 6 (zI 0)) 40 9 (zI 0)) 40 14 (zI 0)) = T0 at *
  refine m_main (d := d) hE hK 40 T0 [] 0 (0, 0, 0, 0) (-1) (by omega) R0 ?_
  have up : ∀ {l o e : Nat} {T1 : gT}, fW q l o e T0 T1 → fG (Wg q) V0 T T1 := fun f => F0.trans (fG.mono (fW.lo f (Nat.zero_le _) (Nat.zero_le _) (Nat.zero_le _)) (fun k i z => Or.inl z) (fun _ _ z => z))
  have px_r : rdP u m = _ := rfl
  unfold rdP at k0 k1
  cases hx : px u m 40 [] (-1) (0, 0, 0, 0) with
  | inl f =>
    rw [hx] at k0
    intro T' t g fw t0 t1
    refine m_out hq (by omega) (G_look (d := d + 6) g (fun s T1 hs g1 hp f1 => ?_)) (Or.inr g.f1)
    have hcz := g.1.c (i := s)
    have e3 : vI T1 40 3 = (f : Int) := g1.2.2.1
    have kk : φ (vI T1 40 3) T1 := by rw [e3]; exact k0 f T1 rfl (by rw [← e3]; exact vI_hi _ _ _) (up (fw.trans f1))
    exact ⟨by omega, fun _ => kk, fun _ => G_fail g1 kk⟩
  | inr y =>
    obtain ⟨σ', ts⟩ := y
    rw [hx] at k0 k1
    dsimp only at k0 k1
    intro T' L hL h' fw tk' hv hl
    refine en_ok (d := d + 6) hL ?_
    unfold f_X4_endExpr_7
    have hl9 := h'.2.2.2.1.2
    have h14 : vI T' 40 14 = 0 := h'.2.2.2.2.2.2.2.1.1
    refine ⟨by omega, fun _ => ⟨rfl, m_out hq (by omega) (t_look (d := d + 6) h' (fun T1 h1 e1 => ?_)) (Or.inl (by omega))⟩, fun z => by omega⟩
    have F1 : fG (Wg q) V0 T T1 := (up fw).trans (by rw [e1]; exact fG.refl.gI (Or.inr rfl))
    have hcz := h'.1.c (i := sk u m σ'.1)
    have a1 := h1.2.1.1
    have a2 := h1.2.1.2
    dsimp only at a1 a2
    refine ⟨by omega, fun z => ?_, fun z => ?_⟩
    · have nlt : ¬ sk u m σ'.1 < m := fun lt => by rw [cz_in lt] at z; omega
      rw [h1.2.2.1]
      rw [if_neg nlt] at k1
      have tl := tk'.1
      rw [Nat.zero_add] at tl
      refine k1 _ T1 rfl F1 (by rw [h1.2.2.2.1.1]; show (σ'.2.1 : Int) = _; rw [tl]) (fun l hl => ?_)
      have := tk'.2 l hl
      rw [Nat.zero_add] at this
      exact this.of (fun j j1 j2 => by rw [e1, v_o (by omega)])
    · have lt : sk u m σ'.1 < m := cz_lt (u := u) (by omega)
      rw [if_pos lt] at k0
      rw [a1]
      refine k4_fail0 h1.2.2.1 ?_
      rw [v_s (by have := h'.1.2.1; omega)]
      exact k0 _ _ rfl (by have := h'.1.2.1; omega) (F1.gI (Or.inr rfl))
end RD7
