/-! THE REFERENCE READS: a form's kind, an expr -/
section FM3
variable {sa : Nat → Nat} {b : Nat} {E : Nat × mH} {d : Nat} {T : gT} {u : Nat → Nat} {n p : Nat} {env : List (List Nat × Nat)} {o : Int} {σ : xS}
def mKeys (sa : Nat → Nat) (b : Nat) (E : Nat × mH) : Prop := mStr E b (sa 8) [105, 102] ∧ mStr E b (sa 9) [108, 101, 116] ∧ mStr E b (sa 10) [102, 105, 120]
theorem kdA_le {q : Nat} : 3 ≤ kdA u n q ∧ kdA u n q ≤ 11 := by
  unfold kdA
  repeat' split
  all_goals omega
theorem isW_we {q : Nat} {s : List Nat} (h : isW u n q s = true) : we u n q = q + s.length := by
  unfold isW at h
  simp only [Bool.and_eq_true, decide_eq_true_eq] at h
  exact h.1.2
/-- what the kind's word takes stands in the text -/
theorem skA_le {q : Nat} (hq : q ≤ n) : q + skA (kdA u n q) ≤ n := by
  have hw := (we_le (u := u) hq).2
  unfold kdA
  split
  · rename_i h; have := isW_we h; show q + 2 ≤ n; simp at this; omega
  split
  · rename_i h; have := isW_we h; show q + 3 ≤ n; simp at this; omega
  split
  · rename_i h; have := isW_we h; show q + 3 ≤ n; simp at this; omega
  split
  · rename_i h; have := cz_lt (u := u) (n := n) (p := q) (by omega); show q + 1 ≤ n; omega
  split
  · rename_i h; have := cz_lt (u := u) (n := n) (p := q) (by omega); show q + 1 ≤ n; omega
  split
  · rename_i h; have := cz_lt (u := u) (n := n) (p := q) (by omega); show q + 1 ≤ n; omega
  split
  · rename_i h; have := cz_lt (u := u) (n := n) (p := q) (by omega); show q + 1 ≤ n; omega
  split
  · rename_i h; have := cz_lt (u := u) (n := n) (p := q) (by omega); show q + 1 ≤ n; omega
  · exact hq
theorem pR.fn0 (h : pR T u n p env o σ) : gI T 0 24 (zI ((σ.2.2.2 : Int) + 0)) = T := gI_same (by rw [vI_to h.fu, Int.add_zero])
theorem c_form {r p0 s9 l nv nf : Nat} {up : Int} {φ : Int → gT → Prop} (hK : mKeys sa b E) (hr : r ≤ 40) (hR : hRec sa b E u n p r (d + 4)) (h : pR T u n p env (40 - (r : Int)) (p0 + 1, l, nv, nf)) (hl : l < 200) (hup : -1 ≤ up ∧ up < 1000)
    (hφ : ∀ v T', xP T T' u n p env (40 - (r : Int)) (s9, l, nv, nf) (403 + (r : Int)) (xFm u n (px u n r) env up p0 (s9, l, nv, nf)) v → φ v T') :
    gC (tP sa) lM b E (d + 5) mX7_form [.ref (b + 0), .int (zI (p0 : Int)), .int (zI up)] T (fun r T' => pI r (fun v => φ v T')) := by
  have hn := h.1.n
  have hpn : p0 + 1 ≤ n := h.pn
  have hp2 := h.p2
  have hf2 : nf ≤ 50 := h.fu2
  have hs := sk_le (u := u) hpn
  generalize hq : sk u n (p0 + 1) = q at hs
  have h1 := h.pos (s := q) hs.2
  dsimp only at h1
  have f1 : fr (Wp p) T (gI T 0 20 (zI (q : Nat))) := fr.refl.gI (Or.inl ⟨rfl, by omega⟩)
  have e1 : cE T (gI T 0 20 (zI (q : Nat))) p l := cE.refl.gI (by decide)
  have hk := kdA_le (u := u) (n := n) (q := q)
  have hsk := skA_le (u := u) (n := n) (q := q) hs.2
  have hc9 := cz_rg (u := u) (n := n) (p := q) (fun _ => h.1.b (by omega))
  -- from the begin on
  have h214 : ∀ (k nf1 : Nat) (T1 : gT) (s0 s1 : Int), kdA u n q = k → s1 + s0 = ((q + skA k : Nat) : Int) → nf1 = (if k = 3 then nf + 1 else nf) → (k = 3 → ¬ nf = 50) → pR T1 u n p env (40 - (r : Int)) (q, l, nv, nf1) → fr (Wp p) T T1 → cE T T1 p l →
      gW (tP sa) lM b E (d + 4 + 1) mX7_form 214 [some (.ref (b + 0)), some (.int (zI (p0 : Int))), some (.int (zI up)), some (.int (zI (p : Int))), some (.int (zI (cz u n q))), some (.int (zI (k : Int))), none, none, none, none, none] [.int (zI s0), .int (zI s1), .ref (b + 0)] T1 (fun r T' => pI r (fun v => φ v T')) := by
    intro k nf1 T1 s0 s1 hkk hss hnf h50 hT1 fT1 eT1
    rw [hkk] at hk hsk
    refine w_X7_form_214 ?_
    unfold f_X7_form_214
    rw [hss]
    have h2 := hT1.posZ (s := q + skA k) (z := ((q + skA k : Nat) : Int)) hsk rfl
    dsimp only at h2
    refine k_begin hp2 hl h2.ex ?_
    have h3 := pR_beg (k := zI (k : Int)) (v := zI (-1)) (w := zI up) h2 hl
    dsimp only at h3
    have f3 : fr (Wp p) T (mBeg (gI T1 0 20 (zI ((q + skA k : Nat) : Int))) p l (zI (k : Int)) (zI (-1)) (zI up)) := mBeg_fr hl (fT1.gI (Or.inl ⟨rfl, by omega⟩))
    have e3 : cE T (mBeg (gI T1 0 20 (zI ((q + skA k : Nat) : Int))) p l (zI (k : Int)) (zI (-1)) (zI up)) p l := (eT1.gI (by decide)).beg (Nat.le_refl _)
    have r3 : cR (mBeg (gI T1 0 20 (zI ((q + skA k : Nat) : Int))) p l (zI (k : Int)) (zI (-1)) (zI up)) p l (xTok k (-1) (-1) (-1) (-1) (-1) up) := cR_beg (by omega) (by omega) (by omega)
    generalize hT3 : mBeg (gI T1 0 20 (zI ((q + skA k : Nat) : Int))) p l (zI (k : Int)) (zI (-1)) (zI up) = T3 at *
    refine ⟨by omega, fun c3 => ⟨fun c5 => ?_, fun c5 => ?_⟩, fun c3 => ?_⟩
    · have k3 : ¬ k = 3 := by omega
      have k5 : ¬ k = 5 := by omega
      rw [if_neg k3] at hnf
      subst hnf
      have lp : ∀ many : Nat, many = (if k = 4 then 3 else 2) → gW (tP sa) lM b E (d + 4 + 1) mX7_form 478 [some (.ref (b + 0)), some (.int (zI (p0 : Int))), some (.int (zI up)), some (.int (zI (p : Int))), some (.int (zI (cz u n q))), some (.int (zI (k : Int))), some (.int (zI (l : Int))), some (.int (zI (many : Int))), some (.int (zI ((0 : Nat) : Int))), none, none] [] T3 (fun r T' => pI r (fun v => φ v T')) := by
        intro many hmn
        refine fm_lp (d := d + 3) (q0 := 0) (s9 := s9) (nf := nf1) (nv := nv) (t0 := fun _ => 0) (m := 403 + (r : Int)) hr hR hl hp2 (by split at hmn <;> omega) h.1 rfl many 0 T3 _ _ [] none (by omega) (Or.inl rfl) h3 f3 e3 r3 (fun m w hm => by simp at hm) (by simp) (Nat.le_refl _) (fun v T' z => hφ v T' ?_)
        unfold xFm
        rw [hq, hkk, if_neg k3, if_neg k5, ← hmn]
        unfold xMn
        dsimp only
        rw [show (((l + 1 : Nat) : Int) - 1) = (l : Int) by omega]
        cases hks : xKs (px u n r) env l many (q + skA k, l + 1, nv, nf1) with
        | inl q' => rw [hks] at z; exact z
        | inr y => rw [hks] at z; exact z
      refine ⟨fun c4 => lp 2 (by rw [if_neg (by omega)]), fun c4 => lp 3 (by rw [if_pos (by omega)])⟩
    · obtain rfl : k = 5 := by omega
      rw [if_neg (by decide)] at hnf
      subst hnf
      refine fm_let (m := 403 + (r : Int)) (s9 := s9) hr hR hl h3 f3 e3 r3 h.1 rfl (fun v T' z => hφ v T' ?_)
      unfold xFm
      rw [hq, hkk, if_neg (by decide), if_pos rfl]
      exact z
    · obtain rfl : k = 3 := by omega
      rw [if_pos rfl] at hnf
      subst hnf
      refine fm_fix (m := 403 + (r : Int)) (s9 := s9) hr hR hl h3 f3 e3 r3 h.1 rfl (fun v T' z => hφ v T' ?_)
      have h50' := h50 rfl
      unfold xFm
      dsimp only
      rw [hq, hkk, if_pos rfl, if_neg h50']
      exact z
  -- the kind is known
  have h128 : gW (tP sa) lM b E (d + 4 + 1) mX7_form 128 [some (.ref (b + 0)), some (.int (zI (p0 : Int))), some (.int (zI up)), some (.int (zI (p : Int))), some (.int (zI (cz u n q))), none, none, none, none, none, none] [.int (zI (kdA u n q : Nat))] (gI T 0 20 (zI (q : Nat))) (fun r T' => pI r (fun v => φ v T')) := by
    generalize hkk : kdA u n q = k at *
    have hfu : vI (gI T 0 20 (zI (q : Nat))) 0 24 = (nf : Int) := h1.fu
    have hpl : vI (gI T 0 20 (zI (q : Nat))) 0 20 = (q : Int) := h1.pl
    have h151 : (k = 3 → ¬ nf = 50) → gW (tP sa) lM b E (d + 4 + 1) mX7_form 151 [some (.ref (b + 0)), some (.int (zI (p0 : Int))), some (.int (zI up)), some (.int (zI (p : Int))), some (.int (zI (cz u n q))), some (.int (zI (k : Int))), none, none, none, none, none] [] (gI T 0 20 (zI (q : Nat))) (fun r T' => pI r (fun v => φ v T')) := by
      intro h50
      have h167 : ∀ s0 : Int, s0 = (if k = 3 then 1 else 0) → gW (tP sa) lM b E (d + 4 + 1) mX7_form 167 [some (.ref (b + 0)), some (.int (zI (p0 : Int))), some (.int (zI up)), some (.int (zI (p : Int))), some (.int (zI (cz u n q))), some (.int (zI (k : Int))), none, none, none, none, none] [.int (zI s0), .int (zI (nf : Int)), .ref (b + 0)] (gI T 0 20 (zI (q : Nat))) (fun r T' => pI r (fun v => φ v T')) := by
        intro s0 hs0
        refine w_X7_form_167 ?_
        unfold f_X7_form_167
        rw [hpl]
        have hX : pR (gI (gI T 0 20 (zI (q : Nat))) 0 24 (zI ((nf : Int) + s0))) u n p env (40 - (r : Int)) (q, l, nv, if k = 3 then nf + 1 else nf) ∧ fr (Wp p) T (gI (gI T 0 20 (zI (q : Nat))) 0 24 (zI ((nf : Int) + s0))) ∧ cE T (gI (gI T 0 20 (zI (q : Nat))) 0 24 (zI ((nf : Int) + s0))) p l := by
          refine ⟨?_, f1.gI (Or.inl ⟨rfl, by omega⟩), e1.gI (by decide)⟩
          by_cases k3 : k = 3
          · rw [if_pos k3] at hs0 ⊢
            rw [hs0]
            have := h50 k3
            exact h1.fn (by show nf + 1 ≤ 50; omega)
          · rw [if_neg k3] at hs0 ⊢
            rw [hs0]
            have := h1.fn0
            dsimp only at this
            rw [this]
            exact h1
        have go : ∀ x : Nat, x = skA k → gW (tP sa) lM b E (d + 4 + 1) mX7_form 214 [some (.ref (b + 0)), some (.int (zI (p0 : Int))), some (.int (zI up)), some (.int (zI (p : Int))), some (.int (zI (cz u n q))), some (.int (zI (k : Int))), none, none, none, none, none] [.int (zI (x : Int)), .int (zI (q : Int)), .ref (b + 0)] (gI (gI T 0 20 (zI (q : Nat))) 0 24 (zI ((nf : Int) + s0))) (fun r T' => pI r (fun v => φ v T')) := by
          intro x hx
          subst hx
          exact h214 k _ _ _ _ rfl (by omega) rfl h50 hX.1 hX.2.1 hX.2.2
        refine ⟨by omega, fun c4 => ⟨fun c5 => w_X7_form_198 (go 3 (by unfold skA; rw [if_neg (by omega), if_pos (by omega)])), fun c5 => ⟨fun c3 => ⟨fun c11 => go 0 (by unfold skA; rw [if_neg (by omega), if_neg (by omega), if_neg (by omega)]), fun c11 => go 1 (by unfold skA; rw [if_neg (by omega), if_neg (by omega), if_pos (by omega)])⟩, fun c3 => w_X7_form_198 (go 3 (by unfold skA; rw [if_neg (by omega), if_pos (by omega)]))⟩⟩, fun c4 => go 2 (by unfold skA; rw [if_pos (by omega)])⟩
      refine w_X7_form_151 ?_
      unfold f_X7_form_151
      rw [hfu]
      exact ⟨by omega, fun c => h167 0 (by rw [if_neg (by omega)]), fun c => h167 1 (by rw [if_pos (by omega)])⟩
    refine w_X7_form_128 ?_
    unfold f_X7_form_128
    rw [hfu]
    refine ⟨by omega, fun c => h151 (fun z => absurd z (by omega)), fun c => ⟨fun c50 => h151 (fun _ => by omega), fun c50 => ?_⟩⟩
    obtain rfl : k = 3 := by omega
    refine k_fail0 h1.wr ⟨_, rfl, hφ _ _ ?_⟩
    unfold xFm
    dsimp only
    rw [hq, hkk, if_pos rfl, if_pos (by omega)]
    exact (h1.fail0 (q := p0) (m := 403 + (r : Int)) (by omega) (by show ((q : Nat) : Int) ≤ _; omega)).pre f1
  have h90 : ¬ isW u n q [105, 102] = true → ¬ isW u n q [108, 101, 116] = true → ¬ isW u n q [102, 105, 120] = true → ¬ cz u n q = 43 → ¬ (cz u n q = 45 ∧ ¬ zD (cz u n (q + 1)) = true) → gW (tP sa) lM b E (d + 4 + 1) mX7_form 90 [some (.ref (b + 0)), some (.int (zI (p0 : Int))), some (.int (zI up)), some (.int (zI (p : Int))), some (.int (zI (cz u n q))), none, none, none, none, none, none] [] (gI T 0 20 (zI (q : Nat))) (fun r T' => pI r (fun v => φ v T')) := by
    intro w1 w2 w3 w4 w5
    have hkd : kdA u n q = if cz u n q = 42 then 8 else if cz u n q = 61 then 9 else if cz u n q = 60 then 10 else 11 := by
      unfold kdA
      rw [if_neg w1, if_neg w2, if_neg w3, if_neg w4, if_neg w5]
    rw [hkd] at h128
    refine w_X7_form_90 ?_
    unfold f_X7_form_90
    refine ⟨by omega, fun c => ⟨fun c2 => ⟨fun c3 => ?_, fun c3 => ?_⟩, fun c2 => ?_⟩, fun c => ?_⟩
    · rw [if_neg c, if_neg c2, if_neg c3] at h128; exact h128
    · rw [if_neg c, if_neg c2, if_pos c3] at h128; exact h128
    · rw [if_neg c, if_pos c2] at h128; exact h128
    · rw [if_pos c] at h128; exact h128
  refine w_X7_form (d := d + 4) ?_
  unfold f_X7_form
  refine k_blanks h.1 h.pl (by show p0 + 1 < 1000; omega) ?_
  dsimp only
  rw [hq, show (1 : Int) - vI (gI T 0 20 (zI (q : Nat))) 0 3 = (p : Int) from h1.rg]
  refine k_peek (p := q) h1.1 h1.pl (by omega) ?_
  have hcb := cz_rg (u := u) (n := n) (p := q + 1) (fun _ => h.1.b (by omega))
  refine c_isWord (q := q) h1.1 h1.pl hs.2 hK.1 ?_
  refine ⟨by split <;> omega, fun w1 => ?_, fun w1 => ?_⟩
  · have w1' : ¬ isW u n q [105, 102] = true := by intro z; rw [if_pos z] at w1; omega
    refine c_isWord (q := q) h1.1 h1.pl hs.2 hK.2.1 ?_
    refine ⟨by split <;> omega, fun w2 => ?_, fun w2 => ?_⟩
    · have w2' : ¬ isW u n q [108, 101, 116] = true := by intro z; rw [if_pos z] at w2; omega
      refine c_isWord (q := q) h1.1 h1.pl hs.2 hK.2.2 ?_
      refine ⟨by split <;> omega, fun w3 => ?_, fun w3 => ?_⟩
      · have w3' : ¬ isW u n q [102, 105, 120] = true := by intro z; rw [if_pos z] at w3; omega
        refine ⟨by omega, fun c => ⟨fun c2 => h90 w1' w2' w3' c (fun z => c2 z.1), fun c2 => ?_⟩, fun c => ?_⟩
        · refine k_peekBehind (p := q) h1.1 h1.pl (by omega) ?_
          refine ⟨by omega, fun c3 => h90 w1' w2' w3' c (fun z => z.2 c3), fun c3 => ?_⟩
          have : kdA u n q = 7 := by unfold kdA; rw [if_neg w1', if_neg w2', if_neg w3', if_neg c, if_pos ⟨c2, c3⟩]
          rw [this] at h128; exact h128
        · have : kdA u n q = 6 := by unfold kdA; rw [if_neg w1', if_neg w2', if_neg w3', if_pos c]
          rw [this] at h128; exact h128
      · have w3' : isW u n q [102, 105, 120] = true := by
          by_cases z : isW u n q [102, 105, 120] = true
          · exact z
          · rw [if_neg z] at w3; omega
        have : kdA u n q = 3 := by unfold kdA; rw [if_neg w1', if_neg w2', if_pos w3']
        rw [this] at h128; exact h128
    · have w2' : isW u n q [108, 101, 116] = true := by
        by_cases z : isW u n q [108, 101, 116] = true
        · exact z
        · rw [if_neg z] at w2; omega
      have : kdA u n q = 5 := by unfold kdA; rw [if_neg w1', if_pos w2']
      rw [this] at h128; exact h128
  · have w1' : isW u n q [105, 102] = true := by
      by_cases z : isW u n q [105, 102] = true
      · exact z
      · rw [if_neg z] at w1; omega
    have : kdA u n q = 4 := by unfold kdA; rw [if_pos w1']
    rw [this] at h128; exact h128
end FM3
