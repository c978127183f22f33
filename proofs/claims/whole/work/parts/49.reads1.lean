/-! THE REFERENCE READS: its state while it reads into program p -/
/-- what reading may change -/
def Wp (p k i : Nat) : Prop := (k = 0 ∧ (i = 20 ∨ i = 21 ∨ i = 22 ∨ i = 23 ∨ i = 24 ∨ i = 27)) ∨ ((k = 2 ∨ k = 3) ∧ i = p) ∨ (k = 4 ∧ 1400 * p ≤ i ∧ i < 1400 * p + 1400) ∨ k = 13 ∨ k = 14
def fr (W : Nat → Nat → Prop) (T T' : gT) : Prop := (∀ k i, ¬ W k i → T'.1 k i = T.1 k i) ∧ T'.2 = T.2
theorem fr.refl {W : Nat → Nat → Prop} {T : gT} : fr W T T := ⟨fun _ _ _ => rfl, rfl⟩
theorem fr.trans {W : Nat → Nat → Prop} {T T' T'' : gT} (h : fr W T T') (h2 : fr W T' T'') : fr W T T'' := ⟨fun k i q => (h2.1 k i q).trans (h.1 k i q), h2.2.trans h.2⟩
theorem fr.gI {W : Nat → Nat → Prop} {T T' : gT} (h : fr W T T') {k j : Nat} {x : Int32} (hw : W k j) : fr W T (gI T' k j x) := ⟨fun k2 i q => by rw [gI_I, if_neg (fun e => q (by rw [e.1, e.2]; exact hw))]; exact h.1 k2 i q, h.2⟩
theorem fr.v {W : Nat → Nat → Prop} {T T' : gT} (h : fr W T T') {k i : Nat} (hw : ¬ W k i) : vI T' k i = vI T k i := by unfold vI; rw [h.1 k i hw]
theorem fr.mono {W W2 : Nat → Nat → Prop} {T T' : gT} (h : fr W T T') (h2 : ∀ k i, W k i → W2 k i) : fr W2 T T' := ⟨fun k i q => h.1 k i (fun z => q (h2 k i z)), h.2⟩
theorem Wp.tx {p : Nat} {T T' : gT} {u : Nat → Nat} {n : Nat} (h : fr (Wp p) T T') (ht : tx T u n) : tx T' u n := ht.of (fun i => h.1 1 i (by unfold Wp; omega)) (h.1 0 2 (by unfold Wp; omega))
theorem Wp.now {p : Nat} {T T' : gT} (h : fr (Wp p) T T') : vI T' 0 3 = vI T 0 3 := h.v (by unfold Wp; omega)
def pR (T : gT) (u : Nat → Nat) (n p : Nat) (env : List (List Nat × Nat)) (o : Int) (σ : xS) : Prop :=
  tx T u n ∧ p < 2 ∧ vI T 0 3 = 1 - (p : Int) ∧ vI T 0 20 = (σ.1 : Int) ∧ σ.1 ≤ n ∧ vI T 2 p = (σ.2.1 : Int) ∧ σ.2.1 ≤ 200 ∧ vI T 3 p = (σ.2.2.1 : Int) ∧ σ.2.2.1 ≤ 100 ∧ vI T 0 24 = (σ.2.2.2 : Int) ∧ σ.2.2.2 ≤ 50 ∧ vI T 0 27 = (env.length : Int) ∧ env.length ≤ σ.2.2.1 ∧ envH T env ∧ vI T 0 23 = o ∧ vI T 0 22 = 0
/-- it has failed, at q -/
def pF (T T' : gT) (p : Nat) (q : Nat) (m : Int) (bd nv : Int) : Prop :=
  fr (Wp p) T T' ∧ vI T' 0 22 = 1 ∧ vI T' 0 21 = (q : Int) ∧ 0 ≤ vI T' 0 20 ∧ vI T' 0 20 ≤ m ∧ bd ≤ vI T' 0 27 ∧ vI T' 0 27 - bd ≤ vI T' 3 p - nv ∧ vI T' 3 p ≤ 100
theorem envH_of {T T' : gT} : ∀ {env : List (List Nat × Nat)}, envH T env → (∀ i, i < env.length → vI T' 13 i = vI T 13 i ∧ vI T' 14 i = vI T 14 i) → envH T' env := by
  intro env
  induction env with
  | nil => intro _ _; trivial
  | cons x r ih =>
    intro h hs
    have q := hs r.length (by rw [List.length_cons]; omega)
    exact ⟨q.1.trans h.1, q.2.trans h.2.1, h.2.2.1, ih h.2.2.2 (fun i hi => hs i (by rw [List.length_cons]; omega))⟩
section BD
variable {sa : Nat → Nat} {b : Nat} {E : Nat × mH} {d : Nat} {T : gT} {u : Nat → Nat} {n p : Nat} {env : List (List Nat × Nat)} {o : Int} {σ : xS}
theorem c_binding {φ : Int → gT → Prop} (h : pR T u n p env o σ)
    (hY : ∀ w σ' T', xBd u n σ = .inr (w, σ') → pR T' u n p ((w, σ.2.2.1) :: env) o σ' → fr (Wp p) T T' → (∀ i, vI T' 4 i = vI T 4 i) → φ (σ.2.2.1 : Int) T')
    (hN : ∀ q v T', xBd u n σ = .inl q → pF T T' p q 400 env.length σ.2.2.1 → φ v T') :
    gC (tP sa) lM b E (d + 3) mX7_binding [.ref (b + 0)] T (fun r T' => pI r (fun v => φ v T')) := by
  obtain ⟨ht, hp2, hnow, hpl, hpn, hex, hex2, hva, hva2, hfu, hfu2, hbo, hbo2, hen, hop, hwr⟩ := h
  have hn := ht.n
  obtain ⟨hs1, hs2⟩ := sk_le (u := u) hpn
  refine w_X7_binding (d := d + 2) ?_
  unfold f_X7_binding
  refine k_blanks ht hpl (by omega) ?_
  generalize hsp : sk u n σ.1 = s at *
  have ht1 : tx (gI T 0 20 (zI (s : Nat))) u n := ht.gI (by decide) (by decide)
  have hp1 : vI (gI T 0 20 (zI (s : Nat))) 0 20 = (s : Int) := v_s (by omega)
  have hw1 : vI (gI T 0 20 (zI (s : Nat))) 0 22 = 0 := by rw [v_o (by decide), hwr]
  have hss : sk u n s = s := by rw [← hsp, sk_sk]
  have W20 : ∀ {i}, i = 20 ∨ i = 21 ∨ i = 22 ∨ i = 27 → Wp p 0 i := fun {i} q => Or.inl ⟨rfl, by omega⟩
  refine c_name ht1 hp1 (by omega) hw1 (fun hm => ?_) (fun hm => ?_)
  · rw [hss] at hm ⊢
    have hnv := hm.v
    have hrg := c7_rg hnv
    have hwe := we_le (u := u) (n := n) (p := s) (by omega)
    rw [gI_gI]
    generalize hw : wd u s (we u n s) = w at *
    have e22 : vI (gI T 0 20 (zI (we u n s : Nat))) 0 22 = 0 := by rw [v_o (by decide), hwr]
    have e3 : vI (gI T 0 20 (zI (we u n s : Nat))) 0 3 = 1 - (p : Int) := by rw [v_o (by decide), hnow]
    have e27 : vI (gI T 0 20 (zI (we u n s : Nat))) 0 27 = env.length := by rw [v_o (by decide), hbo]
    have e1p : (1 - (1 - (p : Int))).toNat = p := by omega
    refine ⟨fun _ => ?_, fun c => absurd e22 c⟩
    rw [e3, e1p, e27]
    have e3p : vI (gI T 0 20 (zI (we u n s : Nat))) 3 p = σ.2.2.1 := by rw [v_o (by omega), hva]
    rw [e3p, Int.toNat_natCast]
    refine ⟨by omega, by omega, fun c => ⟨by omega, by omega, by omega, by omega, ⟨_, rfl, ?_⟩⟩, fun c => ?_⟩
    · rw [show ((env.length : Int) + 1 - 1).toNat = env.length by omega]
      have ev : vI (gI (gI (gI (gI (gI T 0 20 (zI (we u n s : Nat))) 13 env.length (zI (c7 w))) 14 env.length (zI (σ.2.2.1 : Int))) 3 p (zI ((σ.2.2.1 : Int) + 1))) 0 27 (zI ((env.length : Int) + 1))) 14 env.length = σ.2.2.1 := by
        rw [v_o (by omega), v_o (by omega), v_s (by omega)]
      rw [ev]
      have hx : xBd u n σ = .inr (w, (we u n s, σ.2.1, σ.2.2.1 + 1, σ.2.2.2)) := by
        unfold xBd
        rw [hsp, if_pos hm, if_neg (by omega), hw]
      refine hY w _ _ hx ⟨?_, hp2, ?_, ?_, hwe.2, ?_, hex2, ?_, ?_, ?_, hfu2, ?_, ?_, ?_, ?_, ?_⟩ ?_ ?_
      · exact ((((ht.gI (by decide) (by decide)).gI (by decide) (by omega)).gI (by decide) (by omega)).gI (by decide) (by omega)).gI (by decide) (by decide)
      · rw [v_o (by decide), v_o (by omega), v_o (by omega), v_o (by omega), v_o (by decide), hnow]
      · rw [v_o (by decide), v_o (by omega), v_o (by omega), v_o (by omega), v_s (by omega)]
      · rw [v_o (by omega), v_o (by omega), v_o (by omega), v_o (by omega), v_o (by omega), hex]
      · rw [v_o (by omega), v_s (by omega)]; show (σ.2.2.1 : Int) + 1 = ((σ.2.2.1 + 1 : Nat) : Int); omega
      · show σ.2.2.1 + 1 ≤ 100; omega
      · rw [v_o (by decide), v_o (by omega), v_o (by omega), v_o (by omega), v_o (by decide), hfu]
      · rw [v_s (by omega), List.length_cons]; omega
      · show (_ :: env).length ≤ σ.2.2.1 + 1
        rw [List.length_cons]; omega
      · refine ⟨?_, ?_, hnv, envH_of hen (fun i hi => ⟨?_, ?_⟩)⟩
        · rw [v_o (by omega), v_o (by omega), v_o (by omega), v_s (by omega)]
        · rw [v_o (by omega), v_o (by omega), v_s (by omega)]
        · rw [v_o (by omega), v_o (by omega), v_o (by omega), v_o (by omega), v_o (by omega)]
        · rw [v_o (by omega), v_o (by omega), v_o (by omega), v_o (by omega), v_o (by omega)]
      · rw [v_o (by decide), v_o (by omega), v_o (by omega), v_o (by omega), v_o (by decide), hop]
      · rw [v_o (by decide), v_o (by omega), v_o (by omega), v_o (by omega), v_o (by decide), hwr]
      · refine ((((fr.refl.gI (W20 (by omega))).gI ?_).gI ?_).gI ?_).gI (W20 (by omega))
        · unfold Wp; omega
        · unfold Wp; omega
        · unfold Wp; omega
      · intro i
        rw [v_o (by omega), v_o (by omega), v_o (by omega), v_o (by omega), v_o (by omega)]
    · rw [hp1]
      refine k_fail0 e22 ⟨_, rfl, hN s _ _ (by unfold xBd; rw [hsp, if_pos hm, if_pos (by omega)]) ⟨?_, ?_, ?_, ?_, ?_, ?_, ?_, ?_⟩⟩
      · exact ((fr.refl.gI (W20 (by omega))).gI (W20 (by omega))).gI (W20 (by omega))
      · rw [v_s (by omega)]
      · rw [v_o (by decide), v_s (by omega)]
      · rw [v_o (by decide), v_o (by decide), v_s (by omega)]; omega
      · rw [v_o (by decide), v_o (by decide), v_s (by omega)]; omega
      · rw [v_o (by decide), v_o (by decide), v_o (by decide), hbo]; omega
      · rw [v_o (by decide), v_o (by decide), v_o (by decide), hbo, v_o (by omega), v_o (by omega), v_o (by omega), hva]; omega
      · rw [v_o (by omega), v_o (by omega), v_o (by omega), hva]; omega
  · rw [hss] at hm ⊢
    rw [gI_gI]
    refine ⟨fun c => absurd c (by rw [v_s (by omega)]; decide), fun _ => ⟨_, rfl, hN s _ _ (by unfold xBd; rw [hsp, if_neg hm]) ⟨?_, ?_, ?_, ?_, ?_, ?_, ?_, ?_⟩⟩⟩
    · exact ((fr.refl.gI (W20 (by omega))).gI (W20 (by omega))).gI (W20 (by omega))
    · rw [v_s (by omega)]
    · rw [v_o (by decide), v_s (by omega)]
    · rw [v_o (by decide), v_o (by decide), v_s (by omega)]; omega
    · rw [v_o (by decide), v_o (by decide), v_s (by omega)]; omega
    · rw [v_o (by decide), v_o (by decide), v_o (by decide), hbo]; omega
    · rw [v_o (by decide), v_o (by decide), v_o (by decide), hbo, v_o (by omega), v_o (by omega), v_o (by omega), hva]; omega
    · rw [v_o (by omega), v_o (by omega), v_o (by omega), hva]; omega
end BD
