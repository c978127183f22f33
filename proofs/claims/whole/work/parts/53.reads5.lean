/-! THE REFERENCE READS: forms -/
section FM
variable {sa : Nat → Nat} {b : Nat} {E : Nat × mH} {d : Nat} {T : gT} {u : Nat → Nat} {n p : Nat} {env : List (List Nat × Nat)} {o : Int} {σ : xS}
theorem pF.dn {T' : gT} {q : Nat} {m bd nv : Int} (h : pF T T' p q m (bd + 1) (nv + 1)) : pF T T' p q m bd nv := by
  obtain ⟨h1, h2, h3, h4, h5, h6, h7, h8⟩ := h
  exact ⟨h1, h2, h3, h4, h5, by omega, by omega, h8⟩
theorem pF.nv {T' : gT} {q : Nat} {m bd nv nv2 : Int} (h : pF T T' p q m bd nv) (hn : nv2 ≤ nv) : pF T T' p q m bd nv2 := by
  obtain ⟨h1, h2, h3, h4, h5, h6, h7, h8⟩ := h
  exact ⟨h1, h2, h3, h4, h5, h6, by omega, h8⟩
theorem pR.bind {w : List Nat} {x : Nat} {z : Int} (h : pR T u n p env o σ) (hw : nmv w) (hx : x < 1000) (hb : env.length + 1 ≤ σ.2.2.1) (hz : z = (env.length : Int) + 1) : pR (gI (gI (gI T 13 env.length (zI (c7 w))) 14 env.length (zI (x : Int))) 0 27 (zI z)) u n p ((w, x) :: env) o σ := by
  obtain ⟨ht, hp2, hnow, hpl, hpn, hex, hex2, hva, hva2, hfu, hfu2, hbo, hbo2, hen, hop, hwr⟩ := h
  have hr := c7_rg hw
  refine ⟨((ht.gI (by decide) (by omega)).gI (by decide) (by omega)).gI (by decide) (by decide), hp2, ?_, ?_, hpn, ?_, hex2, ?_, hva2, ?_, hfu2, ?_, by rw [List.length_cons]; exact hb, ⟨?_, ?_, hw, envH_of hen (fun i hi => ⟨?_, ?_⟩)⟩, ?_, ?_⟩
  all_goals (repeat first | rw [v_o (by omega)] | rw [v_s (by omega)])
  all_goals first | assumption | (rw [hz, List.length_cons]; omega)
theorem pR.un2 {x y : List Nat × Nat} {z : Int} (h : pR T u n p (x :: y :: env) o σ) (hz : z = (env.length : Int)) : pR (gI T 0 27 (zI z)) u n p env o σ := by
  have h1 := h.un (z := (env.length : Int) + 1) (by rw [List.length_cons]; omega)
  have h2 := h1.un hz
  rwa [gI_gI] at h2
theorem fm_cl519 {m0 l nv nf s9 : Nat} {a1 a2 a3 a4 a5 a7 a8 a9 a10 m : Int} {T9 : gT} {σ3 : xS} {t t9 : Nat → Int} {ts : List (Nat → Int)} {φ : Int → gT → Prop} (h9 : pR T9 u n p env o σ3) (f9 : fr (Wp p) T T9) (hE : cE T T9 p l) (hr : cR T9 p l t) (hc : cC T9 p (l + 1) ts) (ht : ∀ w, w < 7 → t w = t9 w) (hct : σ3.2.1 = l + 1 + ts.length) (hnv : nv ≤ σ3.2.2.1) (hm : 401 ≤ m)
    (hφ : ∀ v T', xP T T' u n p env o (s9, l, nv, nf) m (xCl u n σ3 (t9 :: ts)) v → φ v T') :
    gW (tP sa) lM b E (d + 1 + 1) mX7_form 519 [some (.ref (b + 0)), some (.int (zI a1)), some (.int (zI a2)), some (.int (zI a3)), some (.int (zI a4)), some (.int (zI a5)), some (.int (zI (l : Int))), some (.int (zI a7)), some (.int (zI a8)), none, none] [] T9 (fun r T' => pI r (fun v => φ v T')) := by
  have hn := h9.1.n
  have hs := sk_le (u := u) h9.pn
  have hc9 := cz_rg (u := u) (n := n) (p := sk u n σ3.1) (fun _ => h9.1.b (by omega))
  refine w_X7_form_519 ?_
  unfold f_X7_form_519
  refine k_blanks h9.1 h9.pl (by have := h9.pn; omega) ?_
  have h3 := h9.pos (s := sk u n σ3.1) hs.2
  refine ⟨fun z => absurd h3.wr z, fun _ => ?_⟩
  refine k_peek (p := sk u n σ3.1) h3.1 h3.pl (by omega) ?_
  refine ⟨by omega, fun c => ⟨_, rfl, hφ _ _ ?_⟩, fun c => ?_⟩
  · have hlt : sk u n σ3.1 < n := cz_lt (u := u) (by omega)
    rw [h3.pl]
    unfold xCl xEnd
    rw [if_pos c]
    refine ⟨rfl, h3.posZ (s := sk u n σ3.1 + 1) (z := (sk u n σ3.1 : Int) + 1) (by omega) (by omega), (f9.gI (Or.inl ⟨rfl, by omega⟩)).gI (Or.inl ⟨rfl, by omega⟩), cH.mk ((hE.gI (by decide)).gI (by decide)) (cR_gI (cR_gI hr (by decide)) (by decide)) ((hc.gI (by decide)).gI (by decide)) ht, ?_, hnv⟩
    rw [List.length_cons]
    show σ3.2.1 = l + (ts.length + 1)
    omega
  · rw [h3.pl]
    refine k_fail0 h3.wr ⟨_, rfl, hφ _ _ ?_⟩
    unfold xCl xEnd
    rw [if_neg c]
    exact ((h3.fail0 (q := sk u n σ3.1) (m := m) (by omega) (by show ((sk u n σ3.1 : Nat) : Int) ≤ _; omega)).pre (f9.gI (Or.inl ⟨rfl, by omega⟩))).nv (by show (nv : Int) ≤ (σ3.2.2.1 : Int); omega)
theorem fm_cf519 {q : Nat} {l a1 a2 a3 a4 a5 a7 a8 a9 a10 m m0 bd nv : Int} {T9 : gT} {φ : Int → gT → Prop} (ht : tx T u n) (h9 : pF T T9 p q m0 bd nv) (hm0 : 400 ≤ m0) (hm : m0 + 1 ≤ m) (hm2 : m < 900) (hφ : ∀ v T', pF T T' p q m bd nv → φ v T') :
    gW (tP sa) lM b E (d + 1 + 1) mX7_form 519 [some (.ref (b + 0)), some (.int (zI a1)), some (.int (zI a2)), some (.int (zI a3)), some (.int (zI a4)), some (.int (zI a5)), some (.int (zI l)), some (.int (zI a7)), some (.int (zI a8)), none, none] [] T9 (fun r T' => pI r (fun v => φ v T')) := by
  have hn := ht.n
  have y4 := h9.2.2.2.1
  have y5 := h9.2.2.2.2.1
  obtain ⟨x9, hx9⟩ : ∃ x9 : Nat, vI T9 0 20 = (x9 : Int) := ⟨(vI T9 0 20).toNat, by omega⟩
  have hsk := sk_ge (u := u) (n := n) n x9 (by omega)
  refine w_X7_form_519 ?_
  unfold f_X7_form_519
  refine k_blanks (Wp.tx h9.1 ht) hx9 (by omega) ?_
  have hF : pF T (gI T9 0 20 (zI (sk u n x9 : Nat))) p q m0 bd nv := pF_pos (m2 := m0) h9 (by omega) (by omega) (by omega)
  have hw := hF.2.1
  refine ⟨fun _ => ⟨_, rfl, hφ _ _ ?_⟩, fun z => absurd z (by omega)⟩
  have := hF.2.2.2.1
  have := hF.2.2.2.2.1
  exact pF_pos hF (by omega) (by omega) (by omega)
theorem fm_cl519b {m0 l nv nf s9 : Nat} {a1 a2 a3 a4 a5 a7 a8 a9 a10 m : Int} {T9 : gT} {σ3 : xS} {t t9 : Nat → Int} {ts : List (Nat → Int)} {φ : Int → gT → Prop} (h9 : pR T9 u n p env o σ3) (f9 : fr (Wp p) T T9) (hE : cE T T9 p l) (hr : cR T9 p l t) (hc : cC T9 p (l + 1) ts) (ht : ∀ w, w < 7 → t w = t9 w) (hct : σ3.2.1 = l + 1 + ts.length) (hnv : nv ≤ σ3.2.2.1) (hm : 401 ≤ m)
    (hφ : ∀ v T', xP T T' u n p env o (s9, l, nv, nf) m (xCl u n σ3 (t9 :: ts)) v → φ v T') :
    gW (tP sa) lM b E (d + 1 + 1) mX7_form 519 [some (.ref (b + 0)), some (.int (zI a1)), some (.int (zI a2)), some (.int (zI a3)), some (.int (zI a4)), some (.int (zI a5)), some (.int (zI (l : Int))), some (.int (zI a7)), some (.int (zI a8)), some (.int (zI a9)), some (.int (zI a10))] [] T9 (fun r T' => pI r (fun v => φ v T')) := by
  have hn := h9.1.n
  have hs := sk_le (u := u) h9.pn
  have hc9 := cz_rg (u := u) (n := n) (p := sk u n σ3.1) (fun _ => h9.1.b (by omega))
  refine w_X7_form_519b ?_
  unfold f_X7_form_519b
  refine k_blanks h9.1 h9.pl (by have := h9.pn; omega) ?_
  have h3 := h9.pos (s := sk u n σ3.1) hs.2
  refine ⟨fun z => absurd h3.wr z, fun _ => ?_⟩
  refine k_peek (p := sk u n σ3.1) h3.1 h3.pl (by omega) ?_
  refine ⟨by omega, fun c => ⟨_, rfl, hφ _ _ ?_⟩, fun c => ?_⟩
  · have hlt : sk u n σ3.1 < n := cz_lt (u := u) (by omega)
    rw [h3.pl]
    unfold xCl xEnd
    rw [if_pos c]
    refine ⟨rfl, h3.posZ (s := sk u n σ3.1 + 1) (z := (sk u n σ3.1 : Int) + 1) (by omega) (by omega), (f9.gI (Or.inl ⟨rfl, by omega⟩)).gI (Or.inl ⟨rfl, by omega⟩), cH.mk ((hE.gI (by decide)).gI (by decide)) (cR_gI (cR_gI hr (by decide)) (by decide)) ((hc.gI (by decide)).gI (by decide)) ht, ?_, hnv⟩
    rw [List.length_cons]
    show σ3.2.1 = l + (ts.length + 1)
    omega
  · rw [h3.pl]
    refine k_fail0 h3.wr ⟨_, rfl, hφ _ _ ?_⟩
    unfold xCl xEnd
    rw [if_neg c]
    exact ((h3.fail0 (q := sk u n σ3.1) (m := m) (by omega) (by show ((sk u n σ3.1 : Nat) : Int) ≤ _; omega)).pre (f9.gI (Or.inl ⟨rfl, by omega⟩))).nv (by show (nv : Int) ≤ (σ3.2.2.1 : Int); omega)
theorem fm_cf519b {q : Nat} {l a1 a2 a3 a4 a5 a7 a8 a9 a10 m m0 bd nv : Int} {T9 : gT} {φ : Int → gT → Prop} (ht : tx T u n) (h9 : pF T T9 p q m0 bd nv) (hm0 : 400 ≤ m0) (hm : m0 + 1 ≤ m) (hm2 : m < 900) (hφ : ∀ v T', pF T T' p q m bd nv → φ v T') :
    gW (tP sa) lM b E (d + 1 + 1) mX7_form 519 [some (.ref (b + 0)), some (.int (zI a1)), some (.int (zI a2)), some (.int (zI a3)), some (.int (zI a4)), some (.int (zI a5)), some (.int (zI l)), some (.int (zI a7)), some (.int (zI a8)), some (.int (zI a9)), some (.int (zI a10))] [] T9 (fun r T' => pI r (fun v => φ v T')) := by
  have hn := ht.n
  have y4 := h9.2.2.2.1
  have y5 := h9.2.2.2.2.1
  obtain ⟨x9, hx9⟩ : ∃ x9 : Nat, vI T9 0 20 = (x9 : Int) := ⟨(vI T9 0 20).toNat, by omega⟩
  have hsk := sk_ge (u := u) (n := n) n x9 (by omega)
  refine w_X7_form_519b ?_
  unfold f_X7_form_519b
  refine k_blanks (Wp.tx h9.1 ht) hx9 (by omega) ?_
  have hF : pF T (gI T9 0 20 (zI (sk u n x9 : Nat))) p q m0 bd nv := pF_pos (m2 := m0) h9 (by omega) (by omega) (by omega)
  have hw := hF.2.1
  refine ⟨fun _ => ⟨_, rfl, hφ _ _ ?_⟩, fun z => absurd z (by omega)⟩
  have := hF.2.2.2.1
  have := hF.2.2.2.2.1
  exact pF_pos hF (by omega) (by omega) (by omega)
theorem fm_cl519c {m0 l nv nf s9 : Nat} {a1 a2 a3 a4 a5 a7 a8 a9 a10 m : Int} {T9 : gT} {σ3 : xS} {t t9 : Nat → Int} {ts : List (Nat → Int)} {φ : Int → gT → Prop} (h9 : pR T9 u n p env o σ3) (f9 : fr (Wp p) T T9) (hE : cE T T9 p l) (hr : cR T9 p l t) (hc : cC T9 p (l + 1) ts) (ht : ∀ w, w < 7 → t w = t9 w) (hct : σ3.2.1 = l + 1 + ts.length) (hnv : nv ≤ σ3.2.2.1) (hm : 401 ≤ m)
    (hφ : ∀ v T', xP T T' u n p env o (s9, l, nv, nf) m (xCl u n σ3 (t9 :: ts)) v → φ v T') :
    gW (tP sa) lM b E (d + 1 + 1) mX7_form 519 [some (.ref (b + 0)), some (.int (zI a1)), some (.int (zI a2)), some (.int (zI a3)), some (.int (zI a4)), some (.int (zI a5)), some (.int (zI (l : Int))), some (.int (zI a7)), some (.int (zI a8)), some (.int (zI a9)), none] [] T9 (fun r T' => pI r (fun v => φ v T')) := by
  have hn := h9.1.n
  have hs := sk_le (u := u) h9.pn
  have hc9 := cz_rg (u := u) (n := n) (p := sk u n σ3.1) (fun _ => h9.1.b (by omega))
  refine w_X7_form_519c ?_
  unfold f_X7_form_519c
  refine k_blanks h9.1 h9.pl (by have := h9.pn; omega) ?_
  have h3 := h9.pos (s := sk u n σ3.1) hs.2
  refine ⟨fun z => absurd h3.wr z, fun _ => ?_⟩
  refine k_peek (p := sk u n σ3.1) h3.1 h3.pl (by omega) ?_
  refine ⟨by omega, fun c => ⟨_, rfl, hφ _ _ ?_⟩, fun c => ?_⟩
  · have hlt : sk u n σ3.1 < n := cz_lt (u := u) (by omega)
    rw [h3.pl]
    unfold xCl xEnd
    rw [if_pos c]
    refine ⟨rfl, h3.posZ (s := sk u n σ3.1 + 1) (z := (sk u n σ3.1 : Int) + 1) (by omega) (by omega), (f9.gI (Or.inl ⟨rfl, by omega⟩)).gI (Or.inl ⟨rfl, by omega⟩), cH.mk ((hE.gI (by decide)).gI (by decide)) (cR_gI (cR_gI hr (by decide)) (by decide)) ((hc.gI (by decide)).gI (by decide)) ht, ?_, hnv⟩
    rw [List.length_cons]
    show σ3.2.1 = l + (ts.length + 1)
    omega
  · rw [h3.pl]
    refine k_fail0 h3.wr ⟨_, rfl, hφ _ _ ?_⟩
    unfold xCl xEnd
    rw [if_neg c]
    exact ((h3.fail0 (q := sk u n σ3.1) (m := m) (by omega) (by show ((sk u n σ3.1 : Nat) : Int) ≤ _; omega)).pre (f9.gI (Or.inl ⟨rfl, by omega⟩))).nv (by show (nv : Int) ≤ (σ3.2.2.1 : Int); omega)
theorem fm_cf519c {q : Nat} {l a1 a2 a3 a4 a5 a7 a8 a9 a10 m m0 bd nv : Int} {T9 : gT} {φ : Int → gT → Prop} (ht : tx T u n) (h9 : pF T T9 p q m0 bd nv) (hm0 : 400 ≤ m0) (hm : m0 + 1 ≤ m) (hm2 : m < 900) (hφ : ∀ v T', pF T T' p q m bd nv → φ v T') :
    gW (tP sa) lM b E (d + 1 + 1) mX7_form 519 [some (.ref (b + 0)), some (.int (zI a1)), some (.int (zI a2)), some (.int (zI a3)), some (.int (zI a4)), some (.int (zI a5)), some (.int (zI l)), some (.int (zI a7)), some (.int (zI a8)), some (.int (zI a9)), none] [] T9 (fun r T' => pI r (fun v => φ v T')) := by
  have hn := ht.n
  have y4 := h9.2.2.2.1
  have y5 := h9.2.2.2.2.1
  obtain ⟨x9, hx9⟩ : ∃ x9 : Nat, vI T9 0 20 = (x9 : Int) := ⟨(vI T9 0 20).toNat, by omega⟩
  have hsk := sk_ge (u := u) (n := n) n x9 (by omega)
  refine w_X7_form_519c ?_
  unfold f_X7_form_519c
  refine k_blanks (Wp.tx h9.1 ht) hx9 (by omega) ?_
  have hF : pF T (gI T9 0 20 (zI (sk u n x9 : Nat))) p q m0 bd nv := pF_pos (m2 := m0) h9 (by omega) (by omega) (by omega)
  have hw := hF.2.1
  refine ⟨fun _ => ⟨_, rfl, hφ _ _ ?_⟩, fun z => absurd z (by omega)⟩
  have := hF.2.2.2.1
  have := hF.2.2.2.2.1
  exact pF_pos hF (by omega) (by omega) (by omega)
theorem fm_lp {q0 : Nat} {l nv nf s9 r : Nat} {a1 a2 a4 a5 m : Int} {t0 : Nat → Int} {many : Nat} {φ : Int → gT → Prop} (hr : r ≤ 40) (hR : hRec sa b E u n p r (d + 1)) (hl : l < 200) (hp2 : p < 2) (hmany : many ≤ 3) (ht : tx T u n) (hm : m = 403 + (r : Int)) :
    ∀ (k i : Nat) (T1 : gT) (σ1 : xS) (t : Nat → Int) (ts : List (Nat → Int)) (a9 : Option Value) (hk : k + i = many), (a9 = none ∨ ∃ z : Int, a9 = some (.int (zI z))) → pR T1 u n p env (40 - (r : Int)) σ1 → fr (Wp p) T T1 → cE T T1 p l → cR T1 p l t → cC T1 p (l + 1) ts → σ1.2.1 = l + 1 + ts.length → nv ≤ σ1.2.2.1 →
    (∀ v T', (match xKs (px u n r) env l k σ1 with
      | .inl q => pF T T' p q m env.length nv
      | .inr (σ', ls, t2) => xP T T' u n p env (40 - (r : Int)) (s9, l, nv, nf) m (xCl u n σ' (tkL t i ls :: (ts ++ t2))) v) → φ v T') →
    gW (tP sa) lM b E (d + 1 + 1) mX7_form 478 [some (.ref (b + 0)), some (.int (zI a1)), some (.int (zI a2)), some (.int (zI (p : Int))), some (.int (zI a4)), some (.int (zI a5)), some (.int (zI (l : Int))), some (.int (zI (many : Int))), some (.int (zI (i : Int))), a9, none] [] T1 (fun r T' => pI r (fun v => φ v T')) := by
  intro k
  induction k with
  | zero =>
    intro i T1 σ1 t ts a9 hk ha h1 f1 e1 r1 c1 hct hnv hφ
    have hφ' : ∀ v T', xP T T' u n p env (40 - (r : Int)) (s9, l, nv, nf) m (xCl u n σ1 (t :: ts)) v → φ v T' := fun v T' z => hφ v T' (by
      rw [xKs]; dsimp only; rw [List.append_nil]; exact z)
    rcases ha with rfl | ⟨z, rfl⟩
    · refine w_X7_form_478 ?_
      unfold f_X7_form_478
      refine ⟨by omega, by omega, fun _ => ?_, fun c => absurd c (by omega)⟩
      exact fm_cl519 (m0 := 0) (a9 := 0) (a10 := 0) h1 f1 e1 r1 c1 (fun _ _ => rfl) hct hnv (by omega) hφ'
    · refine w_X7_form_478b ?_
      unfold f_X7_form_478b
      refine ⟨by omega, by omega, fun _ => ?_, fun c => absurd c (by omega)⟩
      exact fm_cl519c (m0 := 0) (a10 := 0) h1 f1 e1 r1 c1 (fun _ _ => rfl) hct hnv (by omega) hφ'
  | succ k ih =>
    intro i T1 σ1 t ts a9 hk ha h1 f1 e1 r1 c1 hct hnv hφ
    have step : gC (tP sa) lM b E (d + 1) mX7_expression [.ref (b + 0), .int (zI (l : Int))] T1 (fun r T495 => pI r (fun v495 => (0 ≤ (p : Int) ∧ (p : Int) < 2) ∧ (0 ≤ (l : Int) ∧ (l : Int) < 200) ∧ (0 ≤ 3 + (i : Int) ∧ 3 + (i : Int) < 7) ∧ gW (tP sa) lM b E (d + 1 + 1) mX7_form 478 [some (.ref (b + 0)), some (.int (zI a1)), some (.int (zI a2)), some (.int (zI (p : Int))), some (.int (zI a4)), some (.int (zI a5)), some (.int (zI (l : Int))), some (.int (zI (many : Int))), some (.int (zI ((i : Int) + 1))), some (.int (zI v495)), none] [] (cS T495 (p : Int).toNat (l : Int).toNat (3 + (i : Int)).toNat v495) (fun r T' => pI r (fun v => φ v T')))) := by
      refine hR T1 env σ1 (l : Int) _ h1 (by omega) (fun v T9 hP => ?_)
      refine ⟨by omega, by omega, by omega, ?_⟩
      rw [Int.toNat_natCast, Int.toNat_natCast, show (3 + (i : Int)).toNat = 3 + i by omega]
      cases hpx : px u n r env l σ1 with
      | inl q =>
        rw [hpx] at hP
        have hP1 : pF T1 T9 p q (402 + (r : Int)) env.length σ1.2.2.1 := hP
        have hF := pF_cS (l := l) (w := 3 + i) (x := v) ((hP1.pre f1).nv (nv2 := (nv : Int)) (by omega)) hl (by omega)
        refine w_X7_form_478b ?_
        unfold f_X7_form_478b
        have hw := hF.2.1
        have fin : gW (tP sa) lM b E (d + 1 + 1) mX7_form 519 [some (.ref (b + 0)), some (.int (zI a1)), some (.int (zI a2)), some (.int (zI (p : Int))), some (.int (zI a4)), some (.int (zI a5)), some (.int (zI (l : Int))), some (.int (zI (many : Int))), some (.int (zI ((i : Int) + 1))), some (.int (zI v)), none] [] (cS T9 p l (3 + i) v) (fun r T' => pI r (fun v => φ v T')) :=
          fm_cf519c (a10 := 0) ht hF (by omega) (m := m) (by omega) (by omega) (fun v T' z => hφ v T' (by rw [xKs, hpx]; exact z))
        exact ⟨by omega, by omega, fun _ => fin, fun _ => ⟨fun _ => fin, fun z => absurd z (by omega)⟩⟩
      | inr y =>
        obtain ⟨σ2, t1⟩ := y
        rw [hpx] at hP
        obtain ⟨hv, h9, f9, ⟨k1, k2⟩, h8, h7⟩ := hP
        have k1' : cE T1 T9 p σ1.2.1 := k1
        have k2' : cC T9 p σ1.2.1 t1 := k2
        have hex := h1.ex2
        have hi := ih (i + 1) (cS T9 p l (3 + i) v) σ2 (tokS t (3 + i) v) (ts ++ t1) (some (.int (zI v))) (by omega) (Or.inr ⟨v, rfl⟩) (pR_cS h9) (cS_fr (f1.trans f9) hl (by omega)) ((e1.trans (k1'.mono (by omega))).cS (Nat.le_refl _) (by omega)) (cR_cS (r1.cE k1' (by omega)) (by omega) (by omega)) ?_ (by rw [h8, List.length_append]; omega) (by omega) ?_
        · rw [show ((i + 1 : Nat) : Int) = (i : Int) + 1 by omega] at hi
          exact hi
        · exact (cC.app (c1.cE k1' (by omega)) (by rw [← hct]; exact k2')).cS (by omega) (by omega)
        · intro v' T' hz
          refine hφ v' T' ?_
          rw [xKs, hpx]
          dsimp only
          cases hks : xKs (px u n r) env l k σ2 with
          | inl q => rw [hks] at hz; exact hz
          | inr y =>
            obtain ⟨σ', ls, t2⟩ := y
            rw [hks] at hz
            dsimp only at hz ⊢
            rw [tkL, ← List.append_assoc, ← hv]
            exact hz
    have hw := h1.wr
    rcases ha with rfl | ⟨z, rfl⟩
    · refine w_X7_form_478 ?_
      unfold f_X7_form_478
      exact ⟨by omega, by omega, fun c => absurd c (by omega), fun _ => ⟨fun c => absurd hw c, fun _ => step⟩⟩
    · refine w_X7_form_478b ?_
      unfold f_X7_form_478b
      exact ⟨by omega, by omega, fun c => absurd c (by omega), fun _ => ⟨fun c => absurd hw c, fun _ => step⟩⟩
end FM
