/-! THE REFERENCE READS: an expr -/
section EXP
variable {sa : Nat → Nat} {b : Nat} {E : Nat × mH} {d : Nat} {T : gT} {u : Nat → Nat} {n p : Nat} {env : List (List Nat × Nat)} {o : Int} {σ : xS}
theorem c_look {Q : Option Value → gT → Prop} {a1 a2 a3 a4 : Int} {w : List Nat} (hw : nmv w) (hwr : vI T 0 22 = 0) :
    ∀ (e2 : List (List Nat × Nat)), envH T e2 → e2.length ≤ 100 →
    (∀ x i, lk e2 w = some x → vI T 14 i = (x : Int) → i < 100 → gW (tP sa) lM b E (d + 1) mX7_expression 94 [some (.ref (b + 0)), some (.int (zI a1)), some (.int (zI a2)), some (.int (zI a3)), some (.int (zI a4)), some (.int (zI (c7 w))), some (.int (zI (i : Nat)))] [] T Q) →
    (lk e2 w = none → gW (tP sa) lM b E (d + 1) mX7_expression 94 [some (.ref (b + 0)), some (.int (zI a1)), some (.int (zI a2)), some (.int (zI a3)), some (.int (zI a4)), some (.int (zI (c7 w))), some (.int (zI (-1)))] [] T Q) →
    gW (tP sa) lM b E (d + 1) mX7_expression 64 [some (.ref (b + 0)), some (.int (zI a1)), some (.int (zI a2)), some (.int (zI a3)), some (.int (zI a4)), some (.int (zI (c7 w))), some (.int (zI ((e2.length : Int) - 1)))] [] T Q := by
  have hr := c7_rg hw
  intro e2
  induction e2 with
  | nil =>
    intro _ _ _ h2
    refine w_X7_expression_64 ?_
    unfold f_X7_expression_64
    exact ⟨fun z => absurd hwr z, fun _ => ⟨by simp, fun _ => h2 rfl, fun z => absurd z (by simp)⟩⟩
  | cons x r ih =>
    intro he hl h1 h2
    rw [List.length_cons] at hl
    have e0 : (((x :: r).length : Int) - 1) = (r.length : Int) := by rw [List.length_cons]; omega
    rw [e0]
    refine w_X7_expression_64 ?_
    unfold f_X7_expression_64
    rw [Int.toNat_natCast, he.1]
    have hx := c7_rg he.2.2.1
    refine ⟨fun z => absurd hwr z, fun _ => ⟨by omega, fun z => absurd z (by omega), fun _ => ⟨by omega, by omega, by omega, fun c => ?_, fun c => ?_⟩⟩⟩
    · have e1 : x.1 = w := c7_inj he.2.2.1 hw c
      exact h1 x.2 r.length (by rw [lk, if_pos e1]) he.2.1 (by omega)
    · have e1 : ¬ x.1 = w := fun z => c (by rw [z])
      have e2 : lk (x :: r) w = lk r w := by rw [lk, if_neg e1]
      rw [e2] at h1 h2
      exact ih he.2.2.2 (by omega) h1 h2
/-- an expr, its brackets' contents granted: big -/
theorem c_expr_of {r : Nat} {up m : Int} {φ : Int → gT → Prop} {big : Nat → Int → xR} (h : pR T u n p env (40 - (r : Int)) σ) (hr : r ≤ 40) (hup : -1 ≤ up ∧ up < 1000) (hm : 400 ≤ m)
    (hbig : ∀ s c T1, cz u n s = c → (c = 92 ∨ c = 40) → s < n → σ.2.1 < 200 → s = sk u n σ.1 → pR T1 u n p env (40 - (r : Int)) (s, σ.2) → fr (Wp p) T T1 → cE T T1 p σ.2.1 → gW (tP sa) lM b E (d + 5 + 1) mX7_expression 159 [some (.ref (b + 0)), some (.int (zI up)), some (.int (zI (p : Int))), some (.int (zI c)), none, none, none] [] T1 (fun r T' => pI r (fun v => φ v T')))
    (hφ : ∀ v T', xP T T' u n p env (40 - (r : Int)) σ m (xE u n big env up σ) v → (σ.2.1 = 200 ∨ ¬ (cz u n (sk u n σ.1) = 92 ∨ cz u n (sk u n σ.1) = 40)) → φ v T') :
    gC (tP sa) lM b E (d + 5 + 1) mX7_expression [.ref (b + 0), .int (zI up)] T (fun r T' => pI r (fun v => φ v T')) := by
  have hn := h.1.n
  have hp2 := h.p2
  have hs := sk_le (u := u) h.pn
  have hex := h.ex2
  generalize hq : sk u n σ.1 = s at hs hφ hbig
  have h1 := h.pos (s := s) hs.2
  have f1 : fr (Wp p) T (gI T 0 20 (zI (s : Nat))) := fr.refl.gI (Or.inl ⟨rfl, by omega⟩)
  have e1 : cE T (gI T 0 20 (zI (s : Nat))) p σ.2.1 := cE.refl.gI (by decide)
  have hc9 := cz_rg (u := u) (n := n) (p := s) (fun _ => h.1.b (by omega))
  have hexI : vI (gI T 0 20 (zI (s : Nat))) 2 p = (σ.2.1 : Int) := h1.ex
  have hplI : vI (gI T 0 20 (zI (s : Nat))) 0 20 = (s : Int) := h1.pl
  refine w_X7_expression (d := d + 5) ?_
  unfold f_X7_expression
  refine k_blanks h.1 h.pl (by have := h.pn; omega) ?_
  rw [hq, show (1 : Int) - vI (gI T 0 20 (zI (s : Nat))) 0 3 = (p : Int) from h1.rg, Int.toNat_natCast, hexI, hplI]
  refine ⟨by omega, by omega, fun c200 => ?_, fun c200 => ?_⟩
  · have hl : σ.2.1 < 200 := by omega
    have bad : ∀ {v : Int}, xE u n big env up σ = .inl s → ¬ (cz u n s = 92 ∨ cz u n s = 40) → φ v (gI (gI (gI T 0 20 (zI (s : Nat))) 0 21 (zI (s : Int))) 0 22 (zI 1)) := by
      intro v hx hnb
      refine hφ _ _ ?_ (Or.inr hnb)
      rw [hx]
      exact (h1.fail0 (q := s) (m := m) (by omega) (by show ((s : Nat) : Int) ≤ _; omega)).pre f1
    have num : ¬ zL (cz u n s) = true → (zD (cz u n s) = true ∨ cz u n s = 45) → gC (tP sa) lM b E (d + 5) mX7_number [.ref (b + 0), .int (zI up)] (gI T 0 20 (zI (s : Nat))) (fun r T143 => pI r (fun v143 => pI (some (.int (zI v143))) (fun v => φ v T143))) := by
      intro hz hd
      refine c_number h1 hl (by omega) (fun v T' hP => ⟨_, rfl, hφ _ _ ?_ ?_⟩)
      · unfold xE
        rw [hq, if_neg (by omega), if_neg hz, if_pos hd]
        dsimp only at hP
        have hxx : xNu u n up s (s, σ.2) = xNu u n up s σ := rfl
        rw [hxx] at hP
        unfold xP at hP ⊢
        split
        · rename_i q hxq
          rw [hxq] at hP
          exact (hP.pre f1).le hm
        · rename_i σ' ts hxq
          rw [hxq] at hP
          obtain ⟨y1, y2, y3, ⟨y4, y5⟩, y6⟩ := hP
          exact ⟨y1, y2, f1.trans y3, ⟨fun m w a c => (y4 m w a c).trans (e1 m w a c), y5⟩, y6⟩
      · right
        rw [zD_iff] at hd
        omega
    refine k_peek (p := s) h1.1 h1.pl (by omega) ?_
    refine ⟨by omega, fun cL => ⟨fun cD => num cL (Or.inl cD), fun cD => ⟨fun c45 => ⟨fun c92 => ?_, fun c92 => ⟨fun c40 => ?_, fun c40 => ?_⟩⟩, fun c45 => num cL (Or.inr c45)⟩⟩, fun cL => ?_⟩
    · exact hbig s _ _ rfl (Or.inl c92) (cz_lt (u := u) (by omega)) hl rfl h1 f1 e1
    · rw [hplI]
      refine k_fail0 h1.wr ⟨_, rfl, bad ?_ (by omega)⟩
      unfold xE
      rw [hq, if_neg (by omega), if_neg cL, if_neg (by intro z; rcases z with z | z; exact cD z; exact c45 z), if_neg (by omega)]
    · exact hbig s _ _ rfl (Or.inr c40) (cz_lt (u := u) (by omega)) hl rfl h1 f1 e1
    · have hnb : ¬ (cz u n s = 92 ∨ cz u n s = 40) := by rw [zL_iff] at cL; omega
      have hss : sk u n s = s := by rw [← hq, sk_sk]
      refine c_name h1.1 h1.pl hs.2 h1.wr (fun hm9 => ?_) (fun hm9 => ?_)
      · dsimp only at hm9 ⊢
        rw [hss] at hm9 ⊢
        rw [gI_gI]
        have hwe := we_le (u := u) (n := n) (p := s) hs.2
        have h3 := h.pos (s := we u n s) hwe.2
        have f3 : fr (Wp p) T (gI T 0 20 (zI (we u n s : Nat))) := fr.refl.gI (Or.inl ⟨rfl, by omega⟩)
        have e3 : cE T (gI T 0 20 (zI (we u n s : Nat))) p σ.2.1 := cE.refl.gI (by decide)
        have hbo := h3.bo
        have hbo2 := h3.bo2
        have hva := h3.va2
        dsimp only at hbo2 hva
        rw [hbo]
        refine c_look hm9.v h3.wr env h3.en (by omega) (fun x i hx hi hi2 => ?_) (fun hx => ?_)
        · refine w_X7_expression_94 ?_
          unfold f_X7_expression_94
          refine ⟨fun z => absurd h3.wr z, fun _ => ⟨by omega, fun _ => ⟨by omega, by omega, ?_⟩, fun z => absurd (show (0 : Int) ≤ (i : Int) by omega) z⟩⟩
          rw [Int.toNat_natCast, hi]
          have hxb : -2147483648 ≤ (x : Int) ∧ (x : Int) < 2147483648 := by rw [← hi]; exact ⟨vI_lo _ _ _, vI_hi _ _ _⟩
          refine k_begin hp2 hl h3.ex ⟨_, rfl, hφ _ _ ?_ (Or.inr hnb)⟩
          have hcb := cH_beg (T := gI T 0 20 (zI (we u n s : Nat))) (p := p) (u := up) hl (k := 0) (by omega) hxb (by omega)
          unfold xE
          rw [hq, if_neg (by omega), if_pos cL, if_pos hm9, hx]
          exact ⟨rfl, pR_beg h3 hl, mBeg_fr hl f3, ⟨fun m w a c => (hcb.1 m w a c).trans (e3 m w a c), hcb.2⟩, rfl, Nat.le_refl _⟩
        · refine w_X7_expression_94 ?_
          unfold f_X7_expression_94
          refine ⟨fun z => absurd h3.wr z, fun _ => ⟨by omega, fun z => absurd z (by omega), fun _ => ?_⟩⟩
          refine k_fail0 h3.wr ⟨_, rfl, hφ _ _ ?_ (Or.inr hnb)⟩
          unfold xE
          rw [hq, if_neg (by omega), if_pos cL, if_pos hm9, hx, hplI]
          exact (h3.fail0 (q := s) (m := m) (by omega) (by show ((we u n s : Nat) : Int) ≤ _; omega)).pre f3
      · dsimp only at hm9 ⊢
        rw [hss] at hm9 ⊢
        rw [gI_gI]
        have hw1 : vI (gI (gI (gI T 0 20 (zI (s : Nat))) 0 21 (zI (s : Nat))) 0 22 (zI 1)) 0 22 = 1 := v_s (by omega)
        refine w_X7_expression_64 ?_
        unfold f_X7_expression_64
        refine ⟨fun _ => ?_, fun z => absurd z (by omega)⟩
        refine w_X7_expression_94 ?_
        unfold f_X7_expression_94
        refine ⟨fun _ => k_fail1 hw1 ⟨_, rfl, bad ?_ hnb⟩, fun z => absurd z (by omega)⟩
        unfold xE
        rw [hq, if_neg (by omega), if_pos cL, if_neg hm9]
  · refine k_fail0 h1.wr ⟨_, rfl, hφ _ _ ?_ (Or.inl (by omega))⟩
    unfold xE
    rw [hq, if_pos (by omega)]
    exact (h1.fail0 (q := s) (m := m) (by omega) (by show ((s : Nat) : Int) ≤ _; omega)).pre f1
theorem c_expr (hK : mKeys sa b E) : ∀ (r : Nat), r ≤ 40 → hRec sa b E u n p r (d + 6 + 2 * r) := by
  intro r
  induction r with
  | zero =>
    intro hr T env σ up φ h hup hφ
    refine c_expr_of (d := d) (m := 402 + ((0 : Nat) : Int)) (big := fun p _ => .inl p) h hr hup (by omega) (fun s c T1 hc hcc hs hl hsk h1 f1 e1 => ?_) (fun v T' hP _ => hφ v T' hP)
    subst hc
    have hn := h.1.n
    have ho : vI T1 0 23 = 40 - ((0 : Nat) : Int) := h1.opn
    refine w_X7_expression_159 ?_
    unfold f_X7_expression_159
    refine ⟨fun z => absurd (show vI T1 0 23 = 40 by omega) z, fun _ => ?_⟩
    rw [h1.pl]
    refine k_fail0 h1.wr ⟨_, rfl, hφ _ _ ?_⟩
    have hcr := cz_rg (u := u) (n := n) (p := s) (fun _ => h.1.b (by omega))
    have hz : ¬ zL (cz u n s) = true ∧ ¬ zD (cz u n s) = true ∧ ¬ cz u n s = 45 := by
      rw [zL_iff, zD_iff]; omega
    show xP T _ u n p env _ σ _ (px u n 0 env up σ) _
    unfold px xE
    rw [← hsk, if_neg (by omega), if_neg hz.1, if_neg (fun q => q.elim hz.2.1 hz.2.2), if_pos hcc]
    exact (h1.fail0 (q := s) (m := 402 + ((0 : Nat) : Int)) (by omega) (by show ((s : Nat) : Int) ≤ _; omega)).pre f1
  | succ r ih =>
    intro hr T env σ up φ h hup hφ
    have ihr := ih (by omega)
    rw [show d + 6 + 2 * (r + 1) = (d + 2 + 2 * r) + 5 + 1 by omega]
    refine c_expr_of (d := d + 2 + 2 * r) (m := 402 + ((r + 1 : Nat) : Int)) (big := fun p c => if c = 92 then xLam u n (px u n r) env up p σ else xFm u n (px u n r) env up p σ) h hr hup (by omega) (fun s c T1 hc hcc hs hl hsk h1 f1 e1 => ?_) (fun v T' hP _ => hφ v T' hP)
    subst hc
    have hn := h.1.n
    have ho : vI T1 0 23 = 40 - ((r + 1 : Nat) : Int) := h1.opn
    have hz : ¬ zL (cz u n s) = true ∧ ¬ zD (cz u n s) = true ∧ ¬ cz u n s = 45 := by
      rw [zL_iff, zD_iff]; omega
    have hpx : px u n (r + 1) env up σ = if cz u n s = 92 then xLam u n (px u n r) env up s σ else xFm u n (px u n r) env up s σ := by
      show xE u n (fun p c => if c = 92 then xLam u n (px u n r) env up p σ else xFm u n (px u n r) env up p σ) env up σ = _
      unfold xE
      rw [← hsk, if_neg (by omega), if_neg hz.1, if_neg (fun q => q.elim hz.2.1 hz.2.2), if_pos hcc]
    have h2 : pR (gI (gI T1 0 23 (zI (vI T1 0 23 + 1))) 0 20 (zI (vI T1 0 20 + 1))) u n p env (40 - (r : Int)) (s + 1, σ.2) := by
      have q1 := (h1.op (o2 := 40 - (r : Int)) (by omega)).posZ (s := s + 1) (z := (s : Int) + 1) (by omega) (by omega)
      have hpl : vI T1 0 20 = (s : Int) := h1.pl
      rw [ho, hpl, show (40 - ((r + 1 : Nat) : Int) + 1) = 40 - (r : Int) by omega]
      exact q1
    have f2 : fr (Wp p) T (gI (gI T1 0 23 (zI (vI T1 0 23 + 1))) 0 20 (zI (vI T1 0 20 + 1))) := (f1.gI (Or.inl ⟨rfl, by omega⟩)).gI (Or.inl ⟨rfl, by omega⟩)
    have e2 : cE T (gI (gI T1 0 23 (zI (vI T1 0 23 + 1))) 0 20 (zI (vI T1 0 20 + 1))) p σ.2.1 := (e1.gI (by decide)).gI (by decide)
    have fin : ∀ {x : xR} {v : Int} {T' : gT}, px u n (r + 1) env up σ = x → xP (gI (gI T1 0 23 (zI (vI T1 0 23 + 1))) 0 20 (zI (vI T1 0 20 + 1))) T' u n p env (40 - (r : Int)) (σ.1, σ.2.1, σ.2.2.1, σ.2.2.2) (403 + (r : Int)) x v → φ v (gI T' 0 23 (zI (vI T' 0 23 - 1))) := by
      intro x v T' hx hP
      refine hφ _ _ ?_
      rw [hx]
      unfold xP at hP ⊢
      split
      · rename_i q
        have hP' : pF _ T' p q (403 + (r : Int)) env.length σ.2.2.1 := hP
        exact pF_op ((hP'.pre f2).le (by omega))
      · rename_i σ' ts
        obtain ⟨y1, y2, y3, ⟨y4, y5⟩, y6⟩ := hP
        have hop := y2.opn
        have y7 := y2.op (o2 := 40 - ((r + 1 : Nat) : Int)) (by omega)
        rw [show (vI T' 0 23 - 1) = 40 - ((r + 1 : Nat) : Int) by omega]
        exact ⟨y1, y7, (f2.trans y3).gI (Or.inl ⟨rfl, by omega⟩), ⟨fun m w a c => ((cE.refl.gI (by decide)).trans (cE.refl) : cE T' (gI T' 0 23 (zI (40 - ((r + 1 : Nat) : Int)))) p σ.2.1) m w a c |>.trans ((y4 m w a c).trans (e2 m w a c)), fun m w a c => by
          have := (show cC T' p σ.2.1 ts from y5).gI (k := 0) (j := 23) (x := zI (40 - ((r + 1 : Nat) : Int))) (by decide)
          exact this m w a c⟩, y6⟩
    refine w_X7_expression_159 ?_
    unfold f_X7_expression_159
    refine ⟨fun _ => ⟨by omega, fun c92 => ?_, fun c92 => ?_⟩, fun z => absurd z (by omega)⟩
    · have hpl : vI T1 0 20 = (s : Int) := h1.pl
      rw [hpl] at h2 fin ⊢
      have hR : hRec sa b E u n p r (d + 2 + 2 * r + 4) := by rw [show d + 2 + 2 * r + 4 = d + 6 + 2 * r by omega]; exact ihr
      refine c_form (s9 := σ.1) (p0 := s) hK (by omega) hR h2 hl hup (fun v T' hP => ⟨_, rfl, fin ?_ hP⟩)
      rw [hpx, if_neg c92]
    · have hpl : vI T1 0 20 = (s : Int) := h1.pl
      rw [hpl] at h2 fin ⊢
      have hR : hRec sa b E u n p r (d + 3 + 2 * r + 3) := by rw [show d + 3 + 2 * r + 3 = d + 6 + 2 * r by omega]; exact ihr
      have := c_lambda (sa := sa) (b := b) (E := E) (d := d + 3 + 2 * r) (s9 := σ.1) (p0 := s) (φ := fun v T' => pI (some (.int (zI v))) (fun v => φ v (gI T' 0 23 (zI (vI T' 0 23 - 1))))) (by omega) hR h2 hl hup (fun v T' hP => ⟨_, rfl, fin (by rw [hpx, if_pos c92]) hP⟩)
      rw [show d + 3 + 2 * r + 4 = d + 2 + 2 * r + 5 by omega] at this
      exact this
end EXP
