/-! THE LEAST SOLUTION ITSELF -/
def itr (c : Nat → Nat → Int) (n : Nat) : Nat → fS → fS
  | 0, s => s
  | k + 1, s => itr c n k (bkw c n n (s0 s))
def fxs (c : Nat → Nat → Int) (n : Nat) : fS := itr c n 15001 zS
def Fx (c : Nat → Nat → Int) (n l : Nat) : Nat := (fxs c n).1 l
def Gx (c : Nat → Nat → Int) (n v : Nat) : Nat := (fxs c n).2.1 v
def Rx (c : Nat → Nat → Int) (n nf : Nat) : Nat → Nat := rc c n nf (Fx c n)
section FX
variable {c : Nat → Nat → Int} {n nv nf : Nat}
theorem itr_stay {s : fS} (h : bkw c n n (s0 s) = s0 s) : ∀ k, itr c n k (s0 s) = s0 s := by
  intro k
  induction k with
  | zero => rfl
  | succ k ih => rw [itr, show s0 (s0 s) = s0 s from rfl, h]; exact ih
theorem itr_ok (hw : wP c n nv nf) : ∀ (m : Nat) (s : fS), 15000 - mu s < m → bnd s → (∀ X Y, sol c n X Y → und s X Y n nv) → bnd (itr c n m s) ∧ (∀ X Y, sol c n X Y → und (itr c n m s) X Y n nv) ∧ sol c n (itr c n m s).1 (itr c n m s).2.1 := by
  intro m
  induction m with
  | zero => intro s h; omega
  | succ m ih =>
    intro s hm hb hU
    have st := bkw_stp hw n (s0 s) (Nat.le_refl _) (s0_bnd hb)
    rw [itr]
    cases q : (bkw c n n (s0 s)).2.2 with
    | false =>
      obtain ⟨e1, e2⟩ := bkw_no hw n (s0 s) (Nat.le_refl _) (s0_bnd hb) q
      rw [e1, itr_stay e1]
      exact ⟨hb, hU, e2⟩
    | true =>
      have h1 := st.2.2.2.2 rfl q
      have h3 : mu (s0 s) = mu s := rfl
      have h4 := mu_le (s := bkw c n n (s0 s))
      exact ih _ (by omega) st.1 (fun X Y hX => bkw_und hw hX n _ (Nat.le_refl _) (s0_und (hU X Y hX)))
theorem fxs_ok (hw : wP c n nv nf) : bnd (fxs c n) ∧ lst c n nv (Fx c n) (Gx c n) := by
  have h := itr_ok hw 15001 zS (by omega) zS_bnd (fun X Y _ => zS_und)
  unfold Fx Gx fxs
  generalize itr c n 15001 zS = z at h ⊢
  exact ⟨h.1, h.2.2, h.2.1⟩
theorem Fx_lt (hw : wP c n nv nf) (l : Nat) : Fx c n l < 2 ^ 50 := (fxs_ok hw).1.1 l
theorem Gx_lt (hw : wP c n nv nf) (l : Nat) : Gx c n l < 2 ^ 50 := (fxs_ok hw).1.2 l
theorem cg_congr (hw : wP c n nv nf) {F F2 : Nat → Nat} (h : ∀ l, l < n → F l = F2 l) : ∀ i t, i ≤ n → cg c F i t = cg c F2 i t := by
  obtain ⟨g1, g2, g3, g4⟩ := hw.flat
  intro i
  induction i with
  | zero => intro t _; rfl
  | succ i ih =>
    intro t hi
    rw [cg, cg, ih t (by omega)]
    by_cases e : c i 0 = 11 ∧ wi c i = (t : Int)
    · rw [if_pos e, if_pos e]
      have q := (g4 i (by omega)).1.2.2.2.1 (by omega)
      rw [h _ (by omega)]
    · rw [if_neg e, if_neg e]
theorem rc_congr (hw : wP c n nv nf) {F F2 : Nat → Nat} (h : ∀ l, l < n → F l = F2 l) : rc c n nf F = rc c n nf F2 := by
  unfold rc
  rw [show cg c F n = cg c F2 n from funext fun t => cg_congr hw h n t (Nat.le_refl _)]
end FX
/-! THE STATE OF A DESK: text, size; a program: cells, exprs, variables, functions; steps, outcome, used -/
abbrev aPg : Type := (Nat → Nat → Int) × Nat × Nat × Nat
abbrev aRn : Type := Nat × Int64 × (Nat → Int64)
abbrev aSt : Type := (Nat → Nat) × Nat × Option aPg × aRn
def rn0 : aRn := (0, 0, fun _ => 0)
/-- the reference has program x, at a -/
def rPa (T : gT) (a : Nat) (c : Nat → Nat → Int) (n nv nf : Nat) : Prop := wP c n nv nf ∧ mCn T a n c n ∧ vI T 3 a = (nv : Int) ∧ vI T 0 4 = 1 ∧ (∀ l, l < n → T.2.1 9 l = lJ (Fx c n l)) ∧ (∀ v, v < nv → T.2.1 10 v = lJ (Gx c n v)) ∧ mRw 11 T (Rx c n nf)
def rPg (T : gT) (x : aPg) : Prop := ∃ a, rPa T a x.1 x.2.1 x.2.2.1 x.2.2.2
def rRn (T : gT) (r : aRn) : Prop := vI T 0 17 = (r.1 : Int) ∧ r.1 ≤ 2000 ∧ ((vI T 0 16 = 1 ∧ T.2.1 0 18 = r.2.1 ∧ ∀ l, l < 200 → T.2.1 12 l = r.2.2 l) ∨ (vI T 0 16 = 0 ∧ r = rn0))
def rPo (T : gT) : Option aPg → Prop
  | none => vI T 0 4 = 0
  | some x => rPg T x
def rA (T : gT) (A : aSt) : Prop := tx T A.1 A.2.1 ∧ (vI T 0 3 = 0 ∨ vI T 0 3 = 1) ∧ rPo T A.2.2.1 ∧ rRn T A.2.2.2
/-- what never touches the state -/
def Wo (k i : Nat) : Prop := (k = 0 ∧ (i = 0 ∨ 19 ≤ i)) ∨ 12 < k
def Vo (k i : Nat) : Prop := (k = 0 ∧ i ≠ 18) ∨ 12 < k
theorem mCn.of {T T' : gT} {a n i : Nat} {c : Nat → Nat → Int} (h : mCn T a n c i) (hn : n ≤ 200) (hq : ∀ k j, (k = 0 ∧ (j = 3 ∨ j = 8)) ∨ (k = 2 ∧ j = a) ∨ (k = 4 ∧ 1400 * a ≤ j ∧ j < 1400 * a + 1400) ∨ (5 ≤ k ∧ k ≤ 8) → vI T' k j = vI T k j) : mCn T' a n c i := by
  obtain ⟨h1, h2, h3, h4, h5, h6, h7, h8, h9⟩ := h
  exact ⟨h1, (hq 0 3 (by omega)).trans h2, (hq 2 a (by omega)).trans h3, fun l w hl hw => (hq 4 _ (by omega)).trans (h4 l w hl hw), (hq 0 8 (by omega)).trans h5, fun l hl => (hq 5 l (by omega)).trans (h6 l hl), fun l hl hf => (hq 6 _ (by omega)).trans (h7 l hl hf), fun l hl => (hq 7 l (by omega)).trans (h8 l hl), fun v hv => (hq 8 v (by omega)).trans (h9 v hv)⟩
theorem rPa.of {T T' : gT} {a n nv nf : Nat} {c : Nat → Nat → Int} (h : rPa T a c n nv nf) (hq : ∀ k j, (k = 0 ∧ (j = 3 ∨ j = 4 ∨ j = 8)) ∨ ((k = 2 ∨ k = 3) ∧ j = a) ∨ (k = 4 ∧ 1400 * a ≤ j ∧ j < 1400 * a + 1400) ∨ (5 ≤ k ∧ k ≤ 8) → vI T' k j = vI T k j) (hJ : ∀ k j, 9 ≤ k → k ≤ 11 → T'.2.1 k j = T.2.1 k j) : rPa T' a c n nv nf := by
  obtain ⟨h1, h2, h3, h4, h5, h6, h7⟩ := h
  exact ⟨h1, h2.of h1.1 (fun k j z => hq k j (by omega)), (hq 3 a (by omega)).trans h3, (hq 0 4 (by omega)).trans h4, fun l hl => (hJ 9 l (by omega) (by omega)).trans (h5 l hl), fun l hl => (hJ 10 l (by omega) (by omega)).trans (h6 l hl), h7.of (fun t _ => hJ 11 t (by omega) (by omega))⟩
theorem rRn.of {T T' : gT} {r : aRn} (h : rRn T r) (h1 : vI T' 0 17 = vI T 0 17) (h2 : vI T' 0 16 = vI T 0 16) (h3 : T'.2.1 0 18 = T.2.1 0 18) (h4 : ∀ l, T'.2.1 12 l = T.2.1 12 l) : rRn T' r := by
  obtain ⟨q1, q2, q3⟩ := h
  refine ⟨h1.trans q1, q2, ?_⟩
  rcases q3 with ⟨z1, z2, z3⟩ | ⟨z1, z2⟩
  · exact Or.inl ⟨h2.trans z1, h3.trans z2, fun l hl => (h4 l).trans (z3 l hl)⟩
  · exact Or.inr ⟨h2.trans z1, z2⟩
theorem rA.of {T T' : gT} {A : aSt} (h : rA T A) (hf : fG Wo Vo T T') : rA T' A := by
  obtain ⟨h1, h2, h3, h4⟩ := h
  have q : ∀ {k i}, ¬ Wo k i → vI T' k i = vI T k i := fun z => hf.v z
  refine ⟨h1.of (fun i => hf.1 1 i (by unfold Wo; omega)) (hf.1 0 2 (by unfold Wo; omega)), by rw [q (by unfold Wo; omega)]; exact h2, ?_, h4.of (q (by unfold Wo; omega)) (q (by unfold Wo; omega)) (hf.2.1 _ _ (by unfold Vo; omega)) (fun l => hf.2.1 _ _ (by unfold Vo; omega))⟩
  revert h3
  cases A.2.2.1 with
  | none => intro h3; show vI T' 0 4 = 0; rw [q (by unfold Wo; omega)]; exact h3
  | some x =>
    rintro ⟨a, h3⟩
    have ha := h3.2.1.1
    exact ⟨a, h3.of (fun k j z => q (by unfold Wo; omega)) (fun k j z z2 => hf.2.1 _ _ (by unfold Vo; omega))⟩
section CH
variable {sa : Nat → Nat} {b : Nat} {E : Nat × mH} {d : Nat} {T : gT} {c : Nat → Nat → Int} {n nv nf : Nat}
def Vc (k i : Nat) : Prop := (k = 0 ∧ i = 18) ∨ k = 9 ∨ k = 10 ∨ k = 11
theorem c_change {p : Nat} {φ : gT → Prop} (hw : wP c n nv nf) (hp : p < 2) (hnow : vI T 0 3 = 1 - (p : Int)) (hex : vI T 2 p = (n : Int)) (hva : vI T 3 p = (nv : Int)) (hcl : ∀ l w, l < n → w < 7 → cV T p l w = c l w)
    (k : ∀ T', rPa T' p c n nv nf → rRn T' rn0 → fG Wc Vc T T' → φ T') : gC (tP sa) lM b E (d + 4) mX7_change [.ref (b + 0)] T (fun r T' => pV r (φ T')) := by
  refine c_change_to (d := d + 2) hw hp hnow hex hcl (fun T1 hm hf h4 h16 h17 hJ => ?_)
  refine c_findFlows (d := d) (a := p) (T := T1) hw (fun T2 hK => ⟨rfl, ?_⟩) hm
  obtain ⟨s, hm2, hl, hF, hR, hX⟩ := hK
  obtain ⟨e1, e2⟩ := lst_eq hl (fxs_ok hw).2
  have q : ∀ {k i}, ¬ (k = 0 ∧ i = 28) → vI T2 k i = vI T1 k i := fun z => hX.v z
  have hn := hw.1
  have hnv := hw.2.1
  refine k T2 ⟨hw, hm2, ?_, ?_, fun l hl => ?_, fun v hv => ?_, ?_⟩ ⟨?_, by decide, Or.inr ⟨?_, rfl⟩⟩ ?_
  · rw [q (by omega), hf.v (by unfold Wc; omega)]; exact hva
  · rw [q (by omega)]; exact h4
  · rw [← e1 l hl]; exact hF.1 l (by omega)
  · rw [← e2 v hv]; exact hF.2.1 v (by omega)
  · rw [show Rx c n nf = rc c n nf s.1 from (rc_congr hw e1).symm]; exact hR
  · rw [q (by omega), h17]; rfl
  · rw [q (by omega)]; exact h16
  · refine ⟨fun k i z => ?_, fun k i z => ?_, ?_⟩
    · rw [hX.1 k i (by unfold Wc at z; unfold Wm; omega)]; exact hf k i z
    · rw [hX.2.1 k i (by unfold Vc at z; unfold Vf; omega), hJ, gJ_J, if_neg (by unfold Vc at z; omega)]
    · rw [hX.2.2, hJ]; rfl
/-- what read answers, and the program that it finds -/
def rdP (u : Nat → Nat) (m : Nat) : Nat ⊕ aPg := match px u m 40 [] (-1) (0, 0, 0, 0) with
  | .inl q => .inl q
  | .inr (σ, ts) => if sk u m σ.1 < m then .inl (sk u m σ.1) else .inr (fun l w => ts.getD l (fun _ => 0) w, ts.length, σ.2.2.1, σ.2.2.2)
theorem rdP_wP {u : Nat → Nat} {m : Nat} {x : aPg} (hu : ∀ i, i < m → u i < 256) (h : rdP u m = .inr x) : wP x.1 x.2.1 x.2.2.1 x.2.2.2 := by
  unfold rdP at h
  split at h
  · cases h
  rename_i σ ts hx
  split at h
  · cases h
  cases h
  have hw := px_wf hu 40 [] (-1) (0, 0, 0, 0) σ ts (fun l w => ts.getD l (fun _ => 0) w) (Nat.zero_le _) (Nat.zero_le _) hx (fun m w _ _ => by rw [Nat.zero_add])
  obtain ⟨h1, h2, h3, h4⟩ := hw
  have hb := px_b 40 [] (-1) (0, 0, 0, 0) σ ts ⟨Nat.zero_le _, Nat.zero_le _⟩ hx
  dsimp only at h2 h4
  rw [Nat.zero_add] at h2 h4
  exact ⟨by rw [← h2]; exact h3, hb.1, hb.2, 41, h4⟩
theorem r_read {A : aSt} (hK : mKeys sa b E) (h : rA T A) : gC (tP sa) lM b E (d + 87) mX7_read [.ref (b + 0)] T (fun r T' => pI r (fun v => T'.2.2 = T.2.2 ∧ match rdP A.1 A.2.1 with
    | .inl q => v = (q : Int) ∧ rA T' A
    | .inr x => v = -1 ∧ rA T' (A.1, A.2.1, some x, rn0))) := by
  obtain ⟨ht, hnow, hp, hr⟩ := id h
  obtain ⟨p, hp2, hp1⟩ : ∃ p : Nat, p < 2 ∧ 1 - vI T 0 3 = (p : Int) := ⟨(1 - vI T 0 3).toNat, by omega, by omega⟩
  obtain ⟨u, m, po, rn⟩ := A
  dsimp only at *
  refine w_X7_read (d := d + 86) ?_
  unfold f_X7_read
  rw [hp1, Int.toNat_natCast]
  have ce := c_expr (sa := sa) (b := b) (E := E) (u := u) (n := m) (p := p) (d := d) hK 40 (by omega)
  refine ⟨by omega, by omega, ?_⟩
  generalize hT0 : (gI (gI (gI (gI (gI (gI (gI (gI T 0 0 (zI 0)) 2 p (zI 0)) 3 p (zI 0)) 0 20 (zI 0)) 0 22 (zI 0)) 0 23 (zI 0)) 0 24 (zI 0)) 0 27 (zI 0)) = T0
  -- all that reading does leaves the state
  have keep : ∀ T', T'.2 = T.2 → (∀ k i, ¬ (k = 0 ∧ i = 0) → ¬ Wp p k i → T'.1 k i = T.1 k i) → rA T' (u, m, po, rn) := by
    intro T' hJ hI
    have q : ∀ {k i}, ¬ (k = 0 ∧ i = 0) → ¬ Wp p k i → vI T' k i = vI T k i := fun z z2 => by unfold vI; rw [hI _ _ z z2]
    refine ⟨ht.of (fun i => hI 1 i (by omega) (by unfold Wp; omega)) (hI 0 2 (by omega) (by unfold Wp; omega)), by rw [q (by omega) (by unfold Wp; omega)]; exact hnow, ?_, hr.of (q (by omega) (by unfold Wp; omega)) (q (by omega) (by unfold Wp; omega)) (by rw [hJ]) (fun l => by rw [hJ])⟩
    revert hp
    cases po with
    | none => intro hp; show vI T' 0 4 = 0; rw [q (by omega) (by unfold Wp; omega)]; exact hp
    | some x =>
      rintro ⟨a, hp⟩
      have ha := hp.2.1.1
      have ha2 := hp.2.1.2.1
      exact ⟨a, hp.of (fun k j z => q (by omega) (by unfold Wp; omega)) (fun k j _ _ => by rw [hJ])⟩
  have f0 : ∀ k i, ¬ (k = 0 ∧ i = 0) → ¬ Wp p k i → T0.1 k i = T.1 k i := by
    intro k i z z2
    unfold Wp at z2
    rw [← hT0]
    repeat (rw [gI_I, if_neg (by omega)])
  have j0 : T0.2 = T.2 := by rw [← hT0]; rfl
  have r0 : pR T0 u m p [] (40 - ((40 : Nat) : Int)) (0, 0, 0, 0) := by
    have q3 : vI T0 0 3 = vI T 0 3 := by unfold vI; rw [f0 0 3 (by omega) (by unfold Wp; omega)]
    refine ⟨ht.of (fun i => f0 1 i (by omega) (by unfold Wp; omega)) (f0 0 2 (by omega) (by unfold Wp; omega)), hp2, by omega, ?_, Nat.zero_le _, ?_, by decide, ?_, by decide, ?_, by decide, ?_, by decide, trivial, ?_, ?_⟩
    all_goals (rw [← hT0]; repeat first | rw [v_o (by omega)] | rw [v_s (by omega)])
    all_goals rfl
  refine ce T0 [] (0, 0, 0, 0) (-1) _ r0 (by omega) (fun v T1 hP => ?_)
  have hm := ht.n
  unfold rdP
  revert hP
  cases hx : px u m 40 [] (-1) (0, 0, 0, 0) with
  | inl q =>
    intro hP
    obtain ⟨b1, b2, b3, b4, b5, b6, b7, b8⟩ := hP
    have t1 : tx T1 u m := Wp.tx b1 r0.1
    obtain ⟨z, hz⟩ : ∃ z : Nat, vI T1 0 20 = (z : Int) := ⟨(vI T1 0 20).toNat, by omega⟩
    refine k_blanks (d := d + 85) t1 hz (by omega) ?_
    have e22 : vI (gI T1 0 20 (zI (sk u m z : Nat))) 0 22 = 1 := by rw [v_o (by omega)]; exact b2
    refine ⟨fun _ => ⟨fun z => by omega, fun _ => ⟨_, rfl, ?_⟩⟩, fun z => by omega⟩
    refine ⟨by rw [gI_J, b1.2, j0], by rw [v_o (by omega)]; exact b3, keep _ (by rw [gI_J, b1.2, j0]) (fun k i z z2 => ?_)⟩
    rw [gI_I, if_neg (fun e => z2 (by rw [e.1, e.2]; exact Or.inl ⟨rfl, by omega⟩)), b1.1 k i z2]
    exact f0 k i z z2
  | inr y =>
    obtain ⟨σ, ts⟩ := y
    intro hP
    obtain ⟨b1, b2, b3, b4, b5, b6⟩ := hP
    have t1 : tx T1 u m := b2.1
    have hs := sk_le (u := u) b2.2.2.2.2.1
    refine k_blanks (d := d + 85) t1 b2.2.2.2.1 (by have := b2.2.2.2.2.1; omega) ?_
    generalize hT2 : gI T1 0 20 (zI (sk u m σ.1 : Nat)) = T2
    have f2 : ∀ k i, ¬ (k = 0 ∧ i = 0) → ¬ Wp p k i → T2.1 k i = T.1 k i := by
      intro k i z z2
      rw [← hT2, gI_I, if_neg (fun e => z2 (by rw [e.1, e.2]; exact Or.inl ⟨rfl, by omega⟩)), b3.1 k i z2]
      exact f0 k i z z2
    have j2 : T2.2 = T.2 := by rw [← hT2, gI_J, b3.2, j0]
    have e22 : vI T2 0 22 = 0 := by rw [← hT2, v_o (by omega)]; exact b2.2.2.2.2.2.2.2.2.2.2.2.2.2.2.2
    have e20 : vI T2 0 20 = (sk u m σ.1 : Nat) := by rw [← hT2, v_s (by omega)]
    have e2 : vI T2 0 2 = (m : Int) := by rw [← hT2, v_o (by omega)]; exact t1.2.1
    dsimp only
    have hwp : ¬ sk u m σ.1 < m → wP (fun l w => ts.getD l (fun _ => 0) w) ts.length σ.2.2.1 σ.2.2.2 := fun hlt => by
      have := rdP_wP (u := u) (m := m) (x := (fun l w => ts.getD l (fun _ => 0) w, ts.length, σ.2.2.1, σ.2.2.2)) (fun i hi => ht.b (by omega)) (by unfold rdP; rw [hx]; dsimp only; rw [if_neg hlt])
      exact this
    refine ⟨fun z => by omega, fun _ => ⟨fun hle => ⟨fun _ => ?_, fun z => by omega⟩, fun hle => ?_⟩⟩
    · rw [if_neg (by omega)]
      have n2 : σ.2.1 = ts.length := by rw [b5]; exact Nat.zero_add _
      refine c_change (d := d + 82) (T := T2) (p := p) (c := fun l w => ts.getD l (fun _ => 0) w) (hwp (by omega)) hp2 ?_ ?_ ?_ ?_ (fun T' hq hrn hf => ⟨_, rfl, ?_⟩)
      · rw [← hT2, v_o (by omega)]; exact b2.2.2.1
      · rw [← hT2, v_o (by omega), ← n2]; exact b2.2.2.2.2.2.1
      · rw [← hT2, v_o (by omega)]; exact b2.2.2.2.2.2.2.2.1
      · intro l w hl hw
        have := b4.2 l w hl hw
        rw [← this, ← hT2]; unfold cV; rw [v_o (by omega), Nat.zero_add]
      · refine ⟨by rw [hf.2.2, j2], rfl, ?_, ?_, ⟨p, hq⟩, hrn⟩
        · refine tx.of (T := T2) (ht.of (fun i => f2 1 i (by omega) (by unfold Wp; omega)) (f2 0 2 (by omega) (by unfold Wp; omega))) (fun i => hf.1 1 i (by unfold Wc; omega)) (hf.1 0 2 (by unfold Wc; omega))
        · have := hq.2.1.2.1; omega
    · rw [if_pos (by omega)]
      refine k_fail0 e22 ?_
      have e22' : vI (gI (gI T2 0 21 (zI (vI T2 0 20))) 0 22 (zI 1)) 0 22 = 1 := v_s (by omega)
      refine ⟨fun z => by omega, fun _ => ⟨_, rfl, ?_⟩⟩
      refine ⟨by rw [gI_J, gI_J, j2], ?_, keep _ (by rw [gI_J, gI_J, j2]) (fun k i z z2 => ?_)⟩
      · rw [v_o (by omega), v_s (by omega), e20]
      · rw [gI_I, if_neg (fun e => z2 (by rw [e.1, e.2]; exact Or.inl ⟨rfl, by omega⟩)), gI_I, if_neg (fun e => z2 (by rw [e.1, e.2]; exact Or.inl ⟨rfl, by omega⟩))]
        exact f2 k i z z2
end CH
