/-! THE CLASS READS: its state -/
def envC (T : gT) : List (List Nat × Nat) → Prop
  | [] => True
  | x :: r => vI T 41 r.length = c6 x.1 ∧ vI T 42 r.length = (x.2 : Int) ∧ nmv x.1 ∧ x.2 < 100 ∧ envC T r
theorem envC.of {T T' : gT} : ∀ {env : List (List Nat × Nat)}, envC T env → (∀ i, i < env.length → vI T' 41 i = vI T 41 i ∧ vI T' 42 i = vI T 42 i) → envC T' env
  | [], _, _ => trivial
  | x :: r, ⟨h1, h2, h3, h4, h5⟩, f => ⟨(f r.length (by rw [List.length_cons]; omega)).1.trans h1, (f r.length (by rw [List.length_cons]; omega)).2.trans h2, h3, h4, h5.of (fun i hi => f i (by rw [List.length_cons]; omega))⟩
/-- what reading may write: labels from l, frames from o, bindings from e -/
def Wf (q l o e k i : Nat) : Prop := (k = 40 ∧ (i = 2 ∨ i = 3 ∨ i = 5 ∨ i = 6 ∨ i = 9 ∨ i = 14)) ∨ ((k = 41 ∨ k = 42) ∧ e ≤ i) ∨ ((k = 43 ∨ k = 44 ∨ k = 45 ∨ k = 46) ∧ o ≤ i) ∨ (k = q ∧ i = 0) ∨ ((k = q + 1 ∨ k = q + 2 ∨ k = q + 3) ∧ l ≤ i)
abbrev fW (q l o e : Nat) (T T' : gT) : Prop := fG (Wf q l o e) V0 T T'
theorem fW.lo {q l o e l2 o2 e2 : Nat} {T T' : gT} (h : fW q l o e T T') (h1 : l2 ≤ l) (h2 : o2 ≤ o) (h3 : e2 ≤ e) : fW q l2 o2 e2 T T' := h.mono (fun k i z => by unfold Wf at z ⊢; omega) (fun _ _ z => z)
theorem tB.fW {T T' : gT} {u : Nat → Nat} {m q l o e : Nat} (h : tB T u m q) (f : fW q l o e T T') : tB T' u m q := by
  have hq := h.2.2.2.2.2
  exact h.of (fun i => f.1 1 i (by unfold Wf; omega)) (f.v (by unfold Wf; omega)) (f.v (by unfold Wf; omega)) (f.v (by unfold Wf; omega))
/-- reading goes well -/
def tR (T : gT) (u : Nat → Nat) (m q : Nat) (env : List (List Nat × Nat)) (o : Nat) (σ : xS) : Prop := tB T u m q ∧ (vI T 40 2 = (σ.1 : Int) ∧ σ.1 ≤ m) ∧ vI T 40 3 = -1 ∧ (vI T q 0 = (σ.2.1 : Int) ∧ σ.2.1 ≤ 200) ∧ (vI T 40 6 = (σ.2.2.1 : Int) ∧ σ.2.2.1 ≤ 100) ∧ (vI T 40 5 = (σ.2.2.2 : Int) ∧ σ.2.2.2 ≤ 50) ∧ (vI T 40 9 = (env.length : Int) ∧ env.length ≤ σ.2.2.1) ∧ (vI T 40 14 = (o : Int) ∧ o ≤ 40) ∧ envC T env
/-- a fault at f -/
def tGf (T : gT) (u : Nat → Nat) (m q f : Nat) : Prop := tB T u m q ∧ (0 ≤ vI T 40 2 ∧ vI T 40 2 ≤ (m : Int)) ∧ vI T 40 3 = (f : Int) ∧ (0 ≤ vI T q 0 ∧ vI T q 0 ≤ 200) ∧ (0 ≤ vI T 40 9 ∧ vI T 40 9 ≤ 100) ∧ (0 ≤ vI T 40 14 ∧ vI T 40 14 ≤ 40)
section RD2
variable {sa : Nat → Nat} {b : Nat} {E : Nat × mH} {d : Nat} {T : gT} {u : Nat → Nat} {m q o f : Nat} {env : List (List Nat × Nat)} {σ : xS}
theorem tR.en {T2 : gT} {l o2 : Nat} (h : tR T u m q env o σ) (fw : fW q l o2 env.length T T2) : envC T2 env := h.2.2.2.2.2.2.2.2.of (fun i hi => by
  have hq := h.1.2.2.2.2.2
  exact ⟨fw.v (by unfold Wf; omega), fw.v (by unfold Wf; omega)⟩)
theorem tR.to {T2 : gT} {l o2 o' : Nat} {σ' : xS} (h : tR T u m q env o σ) (fw : fW q l o2 env.length T T2) (h2 : vI T2 40 2 = (σ'.1 : Int)) (hm : σ'.1 ≤ m) (h3 : vI T2 40 3 = -1) (h0 : vI T2 q 0 = (σ'.2.1 : Int)) (hl : σ'.2.1 ≤ 200) (h6 : vI T2 40 6 = (σ'.2.2.1 : Int)) (hv : σ'.2.2.1 ≤ 100) (h5 : vI T2 40 5 = (σ'.2.2.2 : Int)) (hn : σ'.2.2.2 ≤ 50) (h9 : vI T2 40 9 = (env.length : Int)) (he : env.length ≤ σ'.2.2.1) (h14 : vI T2 40 14 = (o' : Int)) (ho : o' ≤ 40) : tR T2 u m q env o' σ' :=
  ⟨h.1.fW fw, ⟨h2, hm⟩, h3, ⟨h0, hl⟩, ⟨h6, hv⟩, ⟨h5, hn⟩, ⟨h9, he⟩, ⟨h14, ho⟩, h.en fw⟩
theorem tR.at {s : Nat} (h : tR T u m q env o σ) (hs : s ≤ m) : tR (gI T 40 2 (zI (s : Int))) u m q env o (s, σ.2) := by
  obtain ⟨hB, ⟨a1, a2⟩, a3, ⟨b1, b2⟩, ⟨c1, c2⟩, ⟨d1, d2⟩, ⟨e1, e2⟩, ⟨g1, g2⟩, hE⟩ := id h
  have hq := hB.2.2.2.2.2
  have hm := hB.2.1
  refine h.to (l := 0) (o2 := 0) (fG.refl.gI (by unfold Wf; omega)) (v_s (by omega)) hs ?_ ?_ b2 ?_ c2 ?_ d2 ?_ e2 ?_ g2 <;> rw [v_o (by omega)] <;> assumption
theorem tR.atW {s l o2 e2 : Nat} : fW q l o2 e2 T (gI T 40 2 (zI (s : Int))) := fG.refl.gI (by unfold Wf; omega)
theorem tR.fail {s : Nat} (h : tR T u m q env o σ) (hs : s ≤ m) : tGf (gI T 40 3 (zI (s : Int))) u m q s := by
  obtain ⟨hB, ⟨a1, a2⟩, a3, ⟨b1, b2⟩, ⟨c1, c2⟩, ⟨d1, d2⟩, ⟨e1, e2⟩, ⟨g1, g2⟩, hE⟩ := id h
  have hq := hB.2.2.2.2.2
  have hm := hB.2.1
  refine ⟨hB.fW (l := 0) (o := 0) (e := 0) (fG.refl.gI (by unfold Wf; omega)), ?_, v_s (by omega), ?_, ?_, ?_⟩ <;> rw [v_o (by omega)] <;> omega
theorem tR.failW {s : Nat} : fW q 0 0 0 T (gI T 40 3 (zI (s : Int))) := fG.refl.gI (by unfold Wf; omega)
theorem tR.no {s : Nat} {φ : gT → Prop} (h : tR T u m q env o σ) (hs : s ≤ m) (k : ∀ T', tGf T' u m q s → fW q 0 0 0 T T' → φ T') : gC (tP sa) lD b E d mX4_fail [.ref (b + 40), .int (zI (s : Int))] T (fun r T' => pV r (φ T')) := k4_fail0 h.2.2.1 (k _ (h.fail hs) tR.failW)
theorem t_look {φ : Int → gT → Prop} (h : tR T u m q env o σ) (k : ∀ T', tR T' u m q env o (sk u m σ.1, σ.2) → T' = gI T 40 2 (zI ((sk u m σ.1 : Nat) : Int)) → φ (cz u m (sk u m σ.1)) T') : gC (tP sa) lD b E (d + 1) mX4_look [.ref (b + 40)] T (fun r T' => pI r (fun v => φ v T')) :=
  k4_look h.1 h.2.1.1 h.2.1.2 (k _ (h.at (sk_le (u := u) h.2.1.2).2) rfl)
/-! in a fault -/
theorem tGf.f1 (h : tGf T u m q f) : vI T 40 3 ≠ -1 := by have := h.2.2.1; omega
theorem tGf.pos {s : Nat} (h : tGf T u m q f) (hs : s ≤ m) : tGf (gI T 40 2 (zI (s : Int))) u m q f := by
  obtain ⟨hB, a, b, c, e, g⟩ := id h
  have hq := hB.2.2.2.2.2
  have hm := hB.2.1
  refine ⟨hB.fW (l := 0) (o := 0) (e := 0) (fG.refl.gI (by unfold Wf; omega)), ?_, ?_, ?_, ?_, ?_⟩
  · rw [v_s (by omega)]; omega
  all_goals rw [v_o (by omega)]; assumption
theorem tGf.set {k j : Nat} {x : Int32} (h : tGf T u m q f) (hk : (41 ≤ k ∧ k ≤ 46) ∨ k = q + 2 ∨ k = q + 3 ∨ (k = 40 ∧ (j = 5 ∨ j = 6))) : tGf (gI T k j x) u m q f := by
  obtain ⟨hB, a, b, c, e, g⟩ := id h
  have hq := hB.2.2.2.2.2
  refine ⟨hB.fW (l := 0) (o := 0) (e := 0) (fG.refl.gI (by unfold Wf; omega)), ?_, ?_, ?_, ?_, ?_⟩
  all_goals rw [v_o (by omega)]; assumption
theorem tGf.bd {x : Int} (h : tGf T u m q f) (hx : 0 ≤ x ∧ x ≤ 100) : tGf (gI T 40 9 (zI x)) u m q f := by
  obtain ⟨hB, a, b, c, e, g⟩ := id h
  have hq := hB.2.2.2.2.2
  refine ⟨hB.fW (l := 0) (o := 0) (e := 0) (fG.refl.gI (by unfold Wf; omega)), ?_, ?_, ?_, ?_, ?_⟩
  case refine_4 => rw [v_s (by omega)]; exact hx
  all_goals rw [v_o (by omega)]; assumption
theorem G_fail {x : Int} {φ : gT → Prop} (h : tGf T u m q f) (k : φ T) : gC (tP sa) lD b E d mX4_fail [.ref (b + 40), .int (zI x)] T (fun r T' => pV r (φ T')) := k4_fail1 h.f1 k
theorem G_look {φ : Int → gT → Prop} (h : tGf T u m q f) (k : ∀ (s : Nat) T', s ≤ m → tGf T' u m q f → vI T' 40 2 = (s : Int) → fW q 0 0 0 T T' → φ (cz u m s) T') : gC (tP sa) lD b E (d + 1) mX4_look [.ref (b + 40)] T (fun r T' => pI r (fun v => φ v T')) := by
  obtain ⟨hB, a, b, c, e, g⟩ := id h
  have hm := hB.2.1
  have hp : vI T 40 2 = (((vI T 40 2).toNat : Nat) : Int) := by omega
  have hs := sk_le (u := u) (n := m) (p := (vI T 40 2).toNat) (by omega)
  exact k4_look hB hp (by omega) (k _ _ hs.2 (h.pos hs.2) (v_s (by omega)) tR.atW)
theorem G_expect {c : Int} {φ : gT → Prop} (hc : 0 ≤ c ∧ c < 256) (h : tGf T u m q f) (k : ∀ T', tGf T' u m q f → fW q 0 0 0 T T' → φ T') : gC (tP sa) lD b E (d + 2) mX4_expect [.ref (b + 40), .int (zI c)] T (fun r T' => pV r (φ T')) := by
  refine w_X4_expect (d := d + 1) ?_
  unfold f_X4_expect
  refine G_look (d := d) h (fun s T1 hs h1 hp f1 => ?_)
  have hcz := h.1.c (i := s)
  have hm := h.1.2.1
  refine ⟨by omega, by omega, fun z => G_fail h1 ⟨rfl, k _ h1 f1⟩, fun z => ?_⟩
  have lt := cz_lt (u := u) (n := m) (p := s) (by omega)
  rw [hp, show (s : Int) + 1 = ((s + 1 : Nat) : Int) by omega]
  exact ⟨rfl, k _ (h1.pos (by omega)) (f1.trans tR.atW)⟩
theorem G_setV {x y : Int} {φ : gT → Prop} (h : tGf T u m q f) (k : ∀ T', tGf T' u m q f → fW q 0 0 0 T T' → φ T') : gC (tP sa) lD b E d mX4_setVariable [.ref (b + 40), .int (zI x), .int (zI y)] T (fun r T' => pV r (φ T')) := by
  obtain ⟨hB, a, b, c, e, g⟩ := id h
  have hq := hB.2.2.2.2.2
  have h4 := hB.2.2.2.2.1
  refine w_X4_setVariable ?_
  unfold f_X4_setVariable
  refine ⟨q, hq, h4, fun z => ⟨rfl, k _ h fG.refl⟩, fun z => ⟨q, hq, h4, q, hq, h4, by omega, by omega, q, hq, ?_, q, hq, ?_, ?_, ?_, rfl, ?_⟩⟩
  · rw [v_o (by omega)]; exact h4
  · rw [v_o (by omega)]; exact h4
  · rw [v_o (by omega)]; omega
  · rw [v_o (by omega)]; omega
  · exact k _ ((h.set (by omega)).set (by omega)) ((fG.refl.gI (by unfold Wf; omega)).gI (by unfold Wf; omega))
theorem G_bind {x y : Int} {φ : gT → Prop} (h : tGf T u m q f) (k : ∀ T', tGf T' u m q f → fW q 0 0 0 T T' → φ T') : gC (tP sa) lD b E d mX4_bind [.ref (b + 40), .int (zI x), .int (zI y)] T (fun r T' => pV r (φ T')) := by
  obtain ⟨hB, a, b, c, e, g⟩ := id h
  refine w_X4_bind ?_
  unfold f_X4_bind
  refine ⟨fun z => ⟨rfl, k _ h fG.refl⟩, fun z => ⟨by omega, by omega, rfl, ?_⟩⟩
  exact k _ (((h.set (by omega)).set (by omega)).bd (by omega)) (((fG.refl.gI (by unfold Wf; omega)).gI (by unfold Wf; omega)).gI (by unfold Wf; omega))
theorem G_nameLet {x : Int} {φ : gT → Prop} (h : tGf T u m q f) (k : ∀ T', tGf T' u m q f → fW q 0 0 0 T T' → φ T') : gC (tP sa) lD b E d mX4_nameLet [.ref (b + 40), .int (zI x)] T (fun r T' => pV r (φ T')) := by
  obtain ⟨hB, a, b, c, e, g⟩ := id h
  refine w_X4_nameLet ?_
  unfold f_X4_nameLet
  exact ⟨fun z => ⟨rfl, k _ h fG.refl⟩, fun z => ⟨by omega, by omega, rfl, k _ (h.set (by omega)) (fG.refl.gI (by unfold Wf; omega))⟩⟩
theorem G_binding {φ : Int → gT → Prop} (h : tGf T u m q f) (k : ∀ v T', tGf T' u m q f → fW q 0 0 0 T T' → φ v T') : gC (tP sa) lD b E (d + 3) mX4_takeBinding [.ref (b + 40)] T (fun r T' => pI r (fun v => φ v T')) := by
  refine w_X4_takeBinding (d := d + 2) ?_
  unfold f_X4_takeBinding
  refine G_look (d := d + 1) h (fun s T1 hs h1 hp f1 => ?_)
  refine ⟨fun z => ?_, fun z => G_fail h1 ⟨_, rfl, k _ _ h1 f1⟩⟩
  have h2 : tGf (gI T1 40 6 (zI (vI T1 40 6 + 1))) u m q f := h1.set (by omega)
  have f2 : fW q 0 0 0 T (gI T1 40 6 (zI (vI T1 40 6 + 1))) := f1.gI (by unfold Wf; omega)
  have hs2 := sk_le (u := u) hs
  refine k4_name (d := d) h2.1 (p := s) (by rw [v_o (by omega)]; exact hp) hs (fun _ => ?_) (fun _ => ?_)
  · exact ⟨_, rfl, k _ _ (h2.pos (we_le (u := u) hs2.2).2) (f2.trans tR.atW)⟩
  · exact G_fail (h2.pos hs2.2) ⟨_, rfl, k _ _ (h2.pos hs2.2) (f2.trans tR.atW)⟩
/-! well -/
/-- a name is bound -/
theorem t_binding {φ : Int → gT → Prop} (h : tR T u m q env o σ) (k : match xBd u m σ with
    | .inl f => ∀ v T', tGf T' u m q f → fW q 0 0 0 T T' → φ v T'
    | .inr (w, σ') => ∀ T', nmv w → tR T' u m q env o σ' → fG (fun k i => k = 40 ∧ (i = 2 ∨ i = 6)) V0 T T' → φ (c6 w) T') : gC (tP sa) lD b E (d + 3) mX4_takeBinding [.ref (b + 40)] T (fun r T' => pI r (fun v => φ v T')) := by
  refine w_X4_takeBinding (d := d + 2) ?_
  unfold f_X4_takeBinding
  refine t_look (d := d + 1) h (fun T1 h1 e1 => ?_)
  obtain ⟨s0, l, nv, nf⟩ := σ
  obtain ⟨hB, ⟨a1, a2⟩, a3, ⟨b1, b2⟩, ⟨c1, c2⟩, ⟨d1, d2⟩, ⟨e1', e2⟩, ⟨g1, g2⟩, hE⟩ := id h1
  have hq := hB.2.2.2.2.2
  have hm := hB.2.1
  have f1 : fG (fun k i => k = 40 ∧ (i = 2 ∨ i = 6)) V0 T T1 := by rw [e1]; exact fG.refl.gI ⟨rfl, Or.inl rfl⟩
  have f1' : fW q 0 0 0 T T1 := by rw [e1]; exact tR.atW
  dsimp only at *
  generalize hs : sk u m s0 = s at *
  have hss : sk u m s = s := by rw [← hs]; exact sk_sk
  unfold xBd at k
  dsimp only at k
  rw [hs] at k
  rw [c1, a1]
  refine ⟨fun z => ?_, fun z => ?_⟩
  · have h2 : tR (gI T1 40 6 (zI ((nv : Int) + 1))) u m q env o (s, l, nv + 1, nf) := by
      refine h1.to (l := 0) (o2 := 0) (σ' := (s, l, nv + 1, nf)) (fG.refl.gI (by unfold Wf; omega)) ?_ a2 ?_ ?_ b2 ?_ (by show nv + 1 ≤ 100; omega) ?_ d2 ?_ (by show env.length ≤ nv + 1; omega) ?_ g2
      case refine_4 => rw [v_s (by omega)]; show (nv : Int) + 1 = ((nv + 1 : Nat) : Int); omega
      all_goals rw [v_o (by omega)]; assumption
    have f2 : fG (fun k i => k = 40 ∧ (i = 2 ∨ i = 6)) V0 T (gI T1 40 6 (zI ((nv : Int) + 1))) := f1.gI ⟨rfl, Or.inr rfl⟩
    have f2' : fW q 0 0 0 T (gI T1 40 6 (zI ((nv : Int) + 1))) := f1'.gI (by unfold Wf; omega)
    refine k4_name (d := d) h2.1 h2.2.1.1 a2 (fun y => ?_) (fun y => ?_)
    · dsimp only at y ⊢
      rw [hss] at y ⊢
      rw [if_pos y, if_neg (by omega)] at k
      have hw := we_le (u := u) a2
      exact ⟨_, rfl, k _ y.v (h2.at hw.2) (f2.gI ⟨rfl, Or.inl rfl⟩)⟩
    · dsimp only at y ⊢
      rw [hss] at y ⊢
      rw [if_neg y] at k
      exact (h2.at a2).no a2 (fun T' g fw => ⟨_, rfl, k _ _ g ((f2'.trans tR.atW).trans fw)⟩)
  · refine h1.no a2 (fun T' g fw => ⟨_, rfl, ?_⟩)
    rw [if_pos (show nv = 100 by omega)] at k
    rw [show (if nmo u m s then (Sum.inl s : Nat ⊕ (List Nat × xS)) else Sum.inl s) = Sum.inl s by split <;> rfl] at k
    exact k _ _ g (f1'.trans fw)
/-- a sign is asked for -/
theorem t_expect {c : Int} {φ : gT → Prop} (hc : 0 ≤ c ∧ c < 256) (h : tR T u m q env o σ) (k : match xEnd u m c σ with
    | .inl f => ∀ T', tGf T' u m q f → fW q 0 0 0 T T' → φ T'
    | .inr σ' => ∀ T', tR T' u m q env o σ' → fG (fun k i => k = 40 ∧ i = 2) V0 T T' → φ T') : gC (tP sa) lD b E (d + 2) mX4_expect [.ref (b + 40), .int (zI c)] T (fun r T' => pV r (φ T')) := by
  refine w_X4_expect (d := d + 1) ?_
  unfold f_X4_expect
  refine t_look (d := d) h (fun T1 h1 e1 => ?_)
  have hm := h.1.2.1
  have a1 := h1.2.1.1
  have a2 := h1.2.1.2
  have hcz := h.1.c (i := sk u m σ.1)
  unfold xEnd at k
  dsimp only at a1 a2
  refine ⟨by omega, by omega, fun z => ?_, fun z => ?_⟩
  · rw [if_neg z] at k
    rw [a1]
    exact h1.no a2 (fun T' g fw => ⟨rfl, k _ g (fG.trans (by rw [e1]; exact tR.atW) fw)⟩)
  · rw [if_pos z] at k
    have lt := cz_lt (u := u) (n := m) (p := sk u m σ.1) (by omega)
    rw [a1, show ((sk u m σ.1 : Nat) : Int) + 1 = ((sk u m σ.1 + 1 : Nat) : Int) by omega]
    exact ⟨rfl, k _ (h1.at (by omega)) (by rw [e1]; exact (fG.refl.gI ⟨rfl, rfl⟩).gI ⟨rfl, rfl⟩)⟩
/-- a frame: its label, what it misses, the bindings round it -/
def fP (T : gT) (o l mi e : Nat) : Prop := vI T 43 o = (l : Int) ∧ vI T 44 o = (mi : Int) ∧ vI T 45 o = (e : Int)
/-- a label's token -/
def tk3 (T : gT) (q l : Nat) (k v s : Int) : Prop := vI T (q + 1) l = k ∧ vI T (q + 2) l = v ∧ vI T (q + 3) l = s
theorem t_open {k0 : Nat} {φ : gT → Prop} (hE : mSta sa b E) (h : tR T u m q env o σ) (hk : k0 ≤ 11) (hl : σ.2.1 < 200) (ho : o < 40) (k : ∀ T', tR T' u m q env (o + 1) (σ.1, σ.2.1 + 1, σ.2.2) → fW q σ.2.1 o env.length T T' → fP T' o σ.2.1 (np k0) env.length → tk3 T' q σ.2.1 k0 (-1) (-1) → φ T') :
    gC (tP sa) lD b E (d + 1) mX4_open [.ref (b + 40), .int (zI (k0 : Int))] T (fun r T' => pV r (φ T')) := by
  obtain ⟨s0, l, nv, nf⟩ := σ
  obtain ⟨hB, ⟨a1, a2⟩, a3, ⟨b1, b2⟩, ⟨c1, c2⟩, ⟨d1, d2⟩, ⟨e1', e2⟩, ⟨g1, g2⟩, hE'⟩ := id h
  have hq := hB.2.2.2.2.2
  have hm := hB.2.1
  dsimp only at *
  refine w_X4_open hE ?_
  unfold f_X4_open
  refine ⟨q, hq, hB.2.2.2.2.1, d_add hq (by omega) (by omega) (by omega) b1 hl (fun T1 f1 z0 z1 z2 z3 => ?_)⟩
  have f1' : fW q l o env.length T T1 := f1.mono (fun k i z => by unfold Wf; omega) (fun _ _ z => z)
  have q14 : vI T1 40 14 = (o : Int) := by rw [f1.v (by omega)]; exact g1
  have q9 : vI T1 40 9 = (env.length : Int) := by rw [f1.v (by omega)]; exact e1'
  have hnp : aS stA (k0 : Int) = (np k0 : Int) := aS_np (by omega)
  have hnp2 : (np k0 : Int) ≤ 3 := by unfold np; split <;> (try split) <;> (try split) <;> omega
  rw [q14, q9, Int.toNat_natCast, hnp]
  refine ⟨by omega, fun z => by omega, fun _ => ⟨fun _ => ⟨by omega, by omega, by omega, rfl, ?_⟩, fun z => by omega⟩⟩
  refine k _ ?_ ((((f1'.gI (by unfold Wf; omega)).gI (by unfold Wf; omega)).gI (by unfold Wf; omega)).gI (by unfold Wf; omega)) ⟨?_, ?_, ?_⟩ ⟨?_, ?_, ?_⟩
  · refine h.to (l := l) (o2 := o) (σ' := (s0, l + 1, nv, nf)) ((((f1'.gI (by unfold Wf; omega)).gI (by unfold Wf; omega)).gI (by unfold Wf; omega)).gI (by unfold Wf; omega)) ?_ a2 ?_ ?_ (by show l + 1 ≤ 200; omega) ?_ c2 ?_ d2 ?_ e2 ?_ (by omega)
    case refine_7 => rw [v_s (by omega)]; omega
    all_goals rw [v_o (by omega), v_o (by omega), v_o (by omega), v_o (by omega)]
    case refine_3 => rw [z0]; show (l : Int) + 1 = ((l + 1 : Nat) : Int); omega
    all_goals (rw [f1.v (by omega)]; assumption)
  · rw [v_o (by omega), v_o (by omega), v_o (by omega), v_s (by omega)]
  · rw [v_o (by omega), v_o (by omega), v_s (by omega)]
  · rw [v_o (by omega), v_s (by omega)]
  · rw [v_o (by omega), v_o (by omega), v_o (by omega), v_o (by omega)]; exact z1
  · rw [v_o (by omega), v_o (by omega), v_o (by omega), v_o (by omega)]; exact z2
  · rw [v_o (by omega), v_o (by omega), v_o (by omega), v_o (by omega)]; exact z3
theorem t_setV {x y : Int} {l : Nat} {φ : gT → Prop} (h : tR T u m q env o σ) (hl : σ.2.1 = l + 1) (hx : okI x) (hy : okI y) (k : ∀ T', tR T' u m q env o σ → fG (fun k i => (k = q + 2 ∨ k = q + 3) ∧ i = l) V0 T T' → vI T' (q + 2) l = x → vI T' (q + 3) l = y → φ T') : gC (tP sa) lD b E d mX4_setVariable [.ref (b + 40), .int (zI x), .int (zI y)] T (fun r T' => pV r (φ T')) := by
  obtain ⟨hB, ⟨a1, a2⟩, a3, ⟨b1, b2⟩, ⟨c1, c2⟩, ⟨d1, d2⟩, ⟨e1', e2⟩, ⟨g1, g2⟩, hE'⟩ := id h
  have hq := hB.2.2.2.2.2
  have h4 := hB.2.2.2.2.1
  refine w_X4_setVariable ?_
  unfold f_X4_setVariable
  have e0 : (vI T q 0 - 1).toNat = l := by omega
  have q0 : vI (gI T (q + 2) l (zI x)) q 0 = vI T q 0 := v_o (by omega)
  refine ⟨q, hq, h4, fun z => by omega, fun z => ⟨q, hq, h4, q, hq, h4, by omega, by omega, q, hq, ?_, q, hq, ?_, ?_, ?_, rfl, ?_⟩⟩
  · rw [v_o (by omega)]; exact h4
  · rw [v_o (by omega)]; exact h4
  · rw [v_o (by omega)]; omega
  · rw [v_o (by omega)]; omega
  rw [e0, q0, e0]
  refine k _ ?_ ((fG.refl.gI ⟨Or.inl rfl, rfl⟩).gI ⟨Or.inr rfl, rfl⟩) ?_ (v_s hy)
  · refine h.to (l := 0) (o2 := 0) ((fG.refl.gI (by unfold Wf; omega)).gI (by unfold Wf; omega)) ?_ a2 ?_ ?_ b2 ?_ c2 ?_ d2 ?_ e2 ?_ g2
    all_goals (rw [v_o (by omega), v_o (by omega)]; assumption)
  · rw [v_o (by omega), v_s hx]
theorem t_bind {w : List Nat} {v : Nat} {φ : gT → Prop} (h : tR T u m q env o σ) (hw : nmv w) (hv : v < 100) (he : env.length < σ.2.2.1) (k : ∀ T', tR T' u m q ((w, v) :: env) o σ → fG (fun k i => (k = 40 ∧ i = 9) ∨ ((k = 41 ∨ k = 42) ∧ i = env.length)) V0 T T' → φ T') : gC (tP sa) lD b E d mX4_bind [.ref (b + 40), .int (zI (c6 w)), .int (zI (v : Int))] T (fun r T' => pV r (φ T')) := by
  obtain ⟨hB, ⟨a1, a2⟩, a3, ⟨b1, b2⟩, ⟨c1, c2⟩, ⟨d1, d2⟩, ⟨e1', e2⟩, ⟨g1, g2⟩, hE'⟩ := id h
  have hq := hB.2.2.2.2.2
  have hcr := c6_rg hw
  refine w_X4_bind ?_
  unfold f_X4_bind
  rw [e1', Int.toNat_natCast]
  refine ⟨fun z => by omega, fun z => ⟨by omega, by omega, rfl, ?_⟩⟩
  refine k _ ?_ (((fG.refl.gI (Or.inr ⟨Or.inl rfl, rfl⟩)).gI (Or.inr ⟨Or.inr rfl, rfl⟩)).gI (Or.inl ⟨rfl, rfl⟩))
  have fw : fW q 0 0 env.length T (gI (gI (gI T 41 env.length (zI (c6 w))) 42 env.length (zI (v : Int))) 40 9 (zI ((env.length : Int) + 1))) := ((fG.refl.gI (by unfold Wf; omega)).gI (by unfold Wf; omega)).gI (by unfold Wf; omega)
  refine ⟨hB.fW fw, ⟨?_, a2⟩, ?_, ⟨?_, b2⟩, ⟨?_, c2⟩, ⟨?_, d2⟩, ⟨?_, ?_⟩, ⟨?_, g2⟩, ?_, ?_, hw, hv, h.en fw⟩
  case refine_6 => rw [v_s (by omega)]; rw [List.length_cons]; omega
  case refine_7 => rw [List.length_cons]; omega
  case refine_9 => rw [v_o (by omega), v_o (by omega), v_s (by omega)]
  case refine_10 => rw [v_o (by omega), v_s (by omega)]
  all_goals (rw [v_o (by omega), v_o (by omega), v_o (by omega)]; assumption)
end RD2
