/-! THE REFERENCE READS: number, and what is kept -/
def cR (T : gT) (p l : Nat) (t : Nat → Int) : Prop := ∀ w, w < 7 → cV T p l w = t w
theorem cV_cS {T : gT} {p l w m w' : Nat} {x : Int} (hx : -2147483648 ≤ x ∧ x < 2147483648) (hw : w < 7) (hw' : w' < 7) : cV (cS T p l w x) p m w' = if m = l ∧ w' = w then x else cV T p m w' := by
  unfold cV cS
  by_cases e : m = l ∧ w' = w
  · rw [e.1, e.2, v_s hx, if_pos ⟨rfl, rfl⟩]
  · rw [if_neg e, v_o (by omega)]
theorem cV_ne {T : gT} {p l w m w' : Nat} {x : Int} (hw : w < 7) (hw' : w' < 7) (h : m ≠ l) : cV (cS T p l w x) p m w' = cV T p m w' := by
  unfold cV cS
  rw [v_o (by omega)]
theorem cR_cS {T : gT} {p l w : Nat} {x : Int} {t : Nat → Int} (h : cR T p l t) (hw : w < 7) (hx : -2147483648 ≤ x ∧ x < 2147483648) : cR (cS T p l w x) p l (tokS t w x) := by
  intro w' hw'
  rw [cV_cS hx hw hw']
  unfold tokS
  by_cases e : w' = w
  · rw [if_pos ⟨rfl, e⟩, if_pos e]
  · rw [if_neg (fun z => e z.2), if_neg e]; exact h w' hw'
theorem cR_gI {T : gT} {p l k j : Nat} {x : Int32} {t : Nat → Int} (h : cR T p l t) (hk : k ≠ 4) : cR (gI T k j x) p l t := by
  intro w hw
  unfold cV
  rw [v_o (by omega)]
  exact h w hw
theorem cS_fr {T T' : gT} {p l w : Nat} {x : Int} (h : fr (Wp p) T T') (hl : l < 200) (hw : w < 7) : fr (Wp p) T (cS T' p l w x) := h.gI (by unfold Wp; omega)
theorem pR_cS {T : gT} {u : Nat → Nat} {n p l w : Nat} {x : Int} {env : List (List Nat × Nat)} {o : Int} {σ : xS} (h : pR T u n p env o σ) : pR (cS T p l w x) u n p env o σ := by
  obtain ⟨ht, hp2, hnow, hpl, hpn, hex, hex2, hva, hva2, hfu, hfu2, hbo, hbo2, hen, hop, hwr⟩ := h
  refine ⟨ht.gI (by decide) (by omega), hp2, ?_, ?_, hpn, ?_, hex2, ?_, hva2, ?_, hfu2, ?_, hbo2, envH_of hen (fun i hi => ⟨?_, ?_⟩), ?_, ?_⟩
  all_goals (unfold cS; rw [v_o (by omega)])
  all_goals assumption
theorem pF_cS {T T' : gT} {p l w : Nat} {x : Int} {q : Nat} {m bd nv : Int} (h : pF T T' p q m bd nv) (hl : l < 200) (hw : w < 7) : pF T (cS T' p l w x) p q m bd nv := by
  obtain ⟨h1, h2, h3, h4, h5, h6, h7, h8⟩ := h
  refine ⟨cS_fr h1 hl hw, ?_⟩
  unfold cS
  repeat rw [v_o (by omega)]
  exact ⟨h2, h3, h4, h5, h6, h7, h8⟩
theorem pF_pos {T T' : gT} {p q : Nat} {s m m2 bd nv : Int} (h : pF T T' p q m bd nv) (hs : 0 ≤ s) (hs2 : s ≤ m2) (hm : m2 < 10000) : pF T (gI T' 0 20 (zI s)) p q m2 bd nv := by
  obtain ⟨h1, h2, h3, h4, h5, h6, h7, h8⟩ := h
  refine ⟨h1.gI (Or.inl ⟨rfl, by omega⟩), ?_⟩
  rw [v_s (by omega), v_o (by omega), v_o (by omega), v_o (by omega), v_o (by omega)]
  exact ⟨h2, h3, hs, hs2, h6, h7, h8⟩
theorem pF_bd {T T' : gT} {p q : Nat} {m bd nv bd2 nv2 x : Int} (h : pF T T' p q m bd nv) (hx : x < 10000) (h0 : 0 ≤ bd2) (hb : bd2 ≤ x) (hv : x - bd2 ≤ vI T' 3 p - nv2) : pF T (gI T' 0 27 (zI x)) p q m bd2 nv2 := by
  obtain ⟨h1, h2, h3, h4, h5, h6, h7, h8⟩ := h
  refine ⟨h1.gI (Or.inl ⟨rfl, by omega⟩), ?_⟩
  rw [v_s (by omega), v_o (by omega), v_o (by omega), v_o (by omega), v_o (by omega)]
  exact ⟨h2, h3, h4, h5, hb, hv, h8⟩
theorem pF_op {T T' : gT} {p q : Nat} {m bd nv : Int} {x : Int32} (h : pF T T' p q m bd nv) : pF T (gI T' 0 23 x) p q m bd nv := by
  obtain ⟨h1, h2, h3, h4, h5, h6, h7, h8⟩ := h
  refine ⟨h1.gI (Or.inl ⟨rfl, by omega⟩), ?_⟩
  repeat rw [v_o (by omega)]
  exact ⟨h2, h3, h4, h5, h6, h7, h8⟩
theorem pR.op {T : gT} {u : Nat → Nat} {n p : Nat} {env : List (List Nat × Nat)} {o o2 : Int} {σ : xS} (h : pR T u n p env o σ) (ho : -1000 < o2 ∧ o2 < 1000) : pR (gI T 0 23 (zI o2)) u n p env o2 σ := by
  obtain ⟨ht, hp2, hnow, hpl, hpn, hex, hex2, hva, hva2, hfu, hfu2, hbo, hbo2, hen, hop, hwr⟩ := h
  refine ⟨ht.gI (by decide) (by decide), hp2, ?_, ?_, hpn, ?_, hex2, ?_, hva2, ?_, hfu2, ?_, hbo2, envH_of hen (fun i hi => ⟨?_, ?_⟩), v_s (by omega), ?_⟩
  all_goals (rw [v_o (by omega)])
  all_goals assumption
theorem pR.fn {T : gT} {u : Nat → Nat} {n p : Nat} {env : List (List Nat × Nat)} {o : Int} {σ : xS} (h : pR T u n p env o σ) (hf : σ.2.2.2 + 1 ≤ 50) : pR (gI T 0 24 (zI ((σ.2.2.2 : Int) + 1))) u n p env o (σ.1, σ.2.1, σ.2.2.1, σ.2.2.2 + 1) := by
  obtain ⟨ht, hp2, hnow, hpl, hpn, hex, hex2, hva, hva2, hfu, hfu2, hbo, hbo2, hen, hop, hwr⟩ := h
  refine ⟨ht.gI (by decide) (by decide), hp2, ?_, ?_, hpn, ?_, hex2, ?_, hva2, ?_, hf, ?_, hbo2, envH_of hen (fun i hi => ⟨?_, ?_⟩), ?_, ?_⟩
  rotate_left 4
  · rw [v_s (by omega)]; show (σ.2.2.2 : Int) + 1 = ((σ.2.2.2 + 1 : Nat) : Int); omega
  all_goals (rw [v_o (by omega)])
  all_goals assumption
/-- the innermost binding ends -/
theorem pR.un {T : gT} {u : Nat → Nat} {n p : Nat} {env : List (List Nat × Nat)} {o : Int} {σ : xS} {x : List Nat × Nat} {z : Int} (h : pR T u n p (x :: env) o σ) (hz : z = (env.length : Int)) : pR (gI T 0 27 (zI z)) u n p env o σ := by
  obtain ⟨ht, hp2, hnow, hpl, hpn, hex, hex2, hva, hva2, hfu, hfu2, hbo, hbo2, hen, hop, hwr⟩ := h
  rw [List.length_cons] at hbo2
  refine ⟨ht.gI (by decide) (by decide), hp2, ?_, ?_, hpn, ?_, hex2, ?_, hva2, ?_, hfu2, ?_, by omega, envH_of hen.2.2.2 (fun i hi => ⟨?_, ?_⟩), ?_, ?_⟩
  rotate_left 5
  · rw [v_s (by omega), hz]
  all_goals (rw [v_o (by omega)])
  all_goals assumption
section EX
variable {sa : Nat → Nat} {b : Nat} {E : Nat × mH} {d : Nat} {T : gT} {u : Nat → Nat} {n p : Nat} {env : List (List Nat × Nat)} {o : Int} {σ : xS}
theorem pR.rg {T : gT} (h : pR T u n p env o σ) : 1 - vI T 0 3 = (p : Int) := by rw [h.2.2.1]; omega
theorem c_number {up : Int} {φ : Int → gT → Prop} (h : pR T u n p env o σ) (hl : σ.2.1 < 200) (hup : -2147483648 ≤ up ∧ up < 2147483648)
    (hφ : ∀ v T', xP T T' u n p env o σ 400 (xNu u n up σ.1 σ) v → φ v T') :
    gC (tP sa) lM b E (d + 3) mX7_number [.ref (b + 0), .int (zI up)] T (fun r T' => pI r (fun v => φ v T')) := by
  have hn := h.1.n
  have hpn := h.2.2.2.2.1
  have hb : ∀ i, i < n → u i < 256 := fun i hi => h.1.b (by omega)
  have last : ∀ (q : Nat) (T1 : gT) (v : Int) (l2 i : Int), q ≤ n → 0 ≤ v → v < 1000000 → pR T1 u n p env o (q, σ.2) → fr (Wp p) T T1 → (∀ i, vI T1 4 i = vI T 4 i) → (l2 = 0 ∨ l2 = 1) →
      (∀ v' T', xP T T' u n p env o σ 400 (if zD (cz u n q) = true then .inl q else .inr ((q, σ.2.1 + 1, σ.2.2), [xTok 1 (if l2 = 0 then v else -v) (-1) (-1) (-1) (-1) up])) v' → φ v' T') →
      gW (tP sa) lM b E (d + 2 + 1) mX7_number 103 [some (.ref (b + 0)), some (.int (zI up)), some (.int (zI l2)), some (.int (zI v)), some (.int (zI i))] [] T1 (fun r T' => pI r (fun v => φ v T')) := by
    intro q T1 v l2 i hq hv0 hv1 h1 hf h4 hl2 hx
    have hc := cz_rg (u := u) (n := n) (p := q) (fun _ => h.1.b (by omega))
    refine w_X7_number_103 ?_
    unfold f_X7_number_103
    refine k_peek (p := q) h1.1 h1.2.2.2.1 (by omega) ?_
    have beg : ∀ z : Int, z = (if l2 = 0 then v else -v) → ¬ zD (cz u n q) = true → gC (tP sa) lM b E (d + 2) mX7_begin [.ref (b + 0), .int (zI (1 - (vI T1 0 3))), .int (zI 1), .int (zI z), .int (zI up)] T1 (fun r T143 => pI r (fun v143 => pI (some (.int (zI v143))) (fun v => φ v T143))) := by
      intro z hz hnd
      rw [h1.rg]
      have hzr : -2147483648 ≤ z ∧ z < 2147483648 := by rw [hz]; split <;> omega
      refine k_begin h1.2.1 hl h1.2.2.2.2.2.1 ⟨_, rfl, ?_⟩
      refine hx _ _ ?_
      rw [if_neg hnd]
      have hcb := cH_beg (T := T1) (p := p) (u := up) hl (k := 1) (by omega) hzr hup
      refine ⟨rfl, pR_beg h1 hl, mBeg_fr hl hf, ⟨fun m w hm hw => ?_, ?_⟩, rfl, Nat.le_refl _⟩
      · rw [hcb.1 m w hm hw]; exact h4 _
      · rw [← hz]; exact hcb.2
    refine ⟨by omega, fun c => ⟨by omega, fun c2 => beg v (by rw [if_pos c2]) c, fun c2 => beg (-v) (by rw [if_neg c2]) c⟩, fun c => ?_⟩
    rw [h1.2.2.2.1]
    refine k_fail0 h1.2.2.2.2.2.2.2.2.2.2.2.2.2.2.2 ⟨_, rfl, hx _ _ ?_⟩
    rw [if_pos c]
    exact (h1.fail0 (q := q) (m := 400) (by omega) (by show (q : Int) ≤ 400; omega)).pre hf
  have mid : ∀ (q : Nat) (l2 : Int), q ≤ n → (l2 = 0 ∨ l2 = 1) →
      (∀ v' T', xP T T' u n p env o σ 400 (if zD (cz u n q) = true then (if zD (cz u n (nu u n 6 q 0).1) = true then .inl (nu u n 6 q 0).1 else .inr (((nu u n 6 q 0).1, σ.2.1 + 1, σ.2.2), [xTok 1 (if l2 = 0 then (nu u n 6 q 0).2 else -(nu u n 6 q 0).2) (-1) (-1) (-1) (-1) up])) else .inl q) v' → φ v' T') →
      ∀ s0 s1 : Int, s1 + s0 = (q : Int) → gW (tP sa) lM b E (d + 2 + 1) mX7_number 29 [some (.ref (b + 0)), some (.int (zI up)), some (.int (zI l2)), none, none] [.int (zI s0), .int (zI s1), .ref (b + 0)] T (fun r T' => pI r (fun v => φ v T')) := by
    intro q l2 hq hl2 hx s0 s1 hs
    have hc := cz_rg (u := u) (n := n) (p := q) (fun _ => h.1.b (by omega))
    refine w_X7_number_29 ?_
    unfold f_X7_number_29
    rw [hs]
    have h1 := h.pos hq
    have hf1 : fr (Wp p) T (gI T 0 20 (zI (q : Nat))) := fr.refl.gI (Or.inl ⟨rfl, by omega⟩)
    refine k_peek (p := q) h1.1 h1.2.2.2.1 (by omega) ?_
    refine ⟨by omega, fun c => ?_, fun c => ?_⟩
    · obtain ⟨g1, g2, g3, g4⟩ := nu_rg hb 6 q 0 hq (by omega)
      refine c_num_lp (σ := σ) 6 q 0 0 _ h1 (by omega) (by omega) (fun h2 i' => ?_)
      rw [gI_gI] at h2 ⊢
      refine last _ _ _ l2 i' g2 g3 (by have : ((0 : Int) + 1) * 10 ^ 6 = 1000000 := by decide
                                        omega) h2 (fr.refl.gI (Or.inl ⟨rfl, by omega⟩)) (fun i => by rw [v_o (by omega)]) hl2 ?_
      intro v' T' hv
      refine hx v' T' ?_
      rw [if_pos c]; exact hv
    · rw [v_s (by omega)]
      refine k_fail0 h1.2.2.2.2.2.2.2.2.2.2.2.2.2.2.2 ⟨_, rfl, hx _ _ ?_⟩
      rw [if_neg c]
      exact (h1.fail0 (q := q) (m := 400) (by omega) (by show (q : Int) ≤ 400; omega)).pre hf1
  refine w_X7_number (d := d + 2) ?_
  unfold f_X7_number
  have hpl := h.2.2.2.1
  refine k_peek h.1 hpl (by omega) ?_
  have hc := cz_rg (u := u) (n := n) (p := σ.1) (fun _ => h.1.b (by omega))
  refine ⟨by omega, fun c => ?_, fun c => ?_⟩
  · refine w_X7_number_14 ?_
    unfold f_X7_number_14
    refine ⟨by omega, fun _ => ?_, fun z => absurd rfl z⟩
    rw [hpl]
    refine mid σ.1 0 hpn (Or.inl rfl) (fun v' T' hv => hφ v' T' ?_) 0 _ (by omega)
    unfold xNu
    rw [if_neg c]
    dsimp only
    rw [if_neg c]
    rw [if_pos rfl] at hv
    exact hv
  · have hlt : σ.1 < n := cz_lt (u := u) (by omega)
    refine w_X7_number_14 ?_
    unfold f_X7_number_14
    refine ⟨by omega, fun z => absurd z (by decide), fun _ => ?_⟩
    rw [hpl]
    refine mid (σ.1 + 1) 1 (by omega) (Or.inr rfl) (fun v' T' hv => hφ v' T' ?_) 1 _ (by omega)
    unfold xNu
    rw [if_pos c]
    dsimp only
    rw [if_pos c]
    rw [if_neg (show ¬ (1 : Int) = 0 by decide)] at hv
    exact hv
end EX
