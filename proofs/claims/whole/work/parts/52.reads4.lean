/-! THE REFERENCE READS: words, functions -/
section PRA
variable {T : gT} {u : Nat → Nat} {n p : Nat} {env : List (List Nat × Nat)} {o : Int} {σ : xS}
theorem pR.p2 (h : pR T u n p env o σ) : p < 2 := h.2.1
theorem pR.now (h : pR T u n p env o σ) : vI T 0 3 = 1 - (p : Int) := h.2.2.1
theorem pR.pl (h : pR T u n p env o σ) : vI T 0 20 = (σ.1 : Int) := h.2.2.2.1
theorem pR.pn (h : pR T u n p env o σ) : σ.1 ≤ n := h.2.2.2.2.1
theorem pR.ex (h : pR T u n p env o σ) : vI T 2 p = (σ.2.1 : Int) := h.2.2.2.2.2.1
theorem pR.ex2 (h : pR T u n p env o σ) : σ.2.1 ≤ 200 := h.2.2.2.2.2.2.1
theorem pR.va (h : pR T u n p env o σ) : vI T 3 p = (σ.2.2.1 : Int) := h.2.2.2.2.2.2.2.1
theorem pR.va2 (h : pR T u n p env o σ) : σ.2.2.1 ≤ 100 := h.2.2.2.2.2.2.2.2.1
theorem pR.fu (h : pR T u n p env o σ) : vI T 0 24 = (σ.2.2.2 : Int) := h.2.2.2.2.2.2.2.2.2.1
theorem pR.fu2 (h : pR T u n p env o σ) : σ.2.2.2 ≤ 50 := h.2.2.2.2.2.2.2.2.2.2.1
theorem pR.bo (h : pR T u n p env o σ) : vI T 0 27 = (env.length : Int) := h.2.2.2.2.2.2.2.2.2.2.2.1
theorem pR.bo2 (h : pR T u n p env o σ) : env.length ≤ σ.2.2.1 := h.2.2.2.2.2.2.2.2.2.2.2.2.1
theorem pR.en (h : pR T u n p env o σ) : envH T env := h.2.2.2.2.2.2.2.2.2.2.2.2.2.1
theorem pR.opn (h : pR T u n p env o σ) : vI T 0 23 = o := h.2.2.2.2.2.2.2.2.2.2.2.2.2.2.1
theorem pR.wr (h : pR T u n p env o σ) : vI T 0 22 = 0 := h.2.2.2.2.2.2.2.2.2.2.2.2.2.2.2
theorem pR.posZ {s : Nat} {z : Int} (h : pR T u n p env o σ) (hs : s ≤ n) (hz : z = (s : Int)) : pR (gI T 0 20 (zI z)) u n p env o (s, σ.2) := by subst hz; exact h.pos hs
end PRA
/-- the cells below label l are the same -/
def cE (T T' : gT) (p l : Nat) : Prop := ∀ m w, m < l → w < 7 → cV T' p m w = cV T p m w
/-- the cells of ts, from label l on -/
def cC (T : gT) (p l : Nat) (ts : List (Nat → Int)) : Prop := ∀ m w, m < ts.length → w < 7 → cV T p (l + m) w = ts.getD m (fun _ => 0) w
section CE
variable {T T' T'' : gT} {p l l' : Nat} {ts t2 : List (Nat → Int)}
theorem cE.refl : cE T T p l := fun _ _ _ _ => rfl
theorem cE.trans (h : cE T T' p l) (h2 : cE T' T'' p l) : cE T T'' p l := fun m w a c => (h2 m w a c).trans (h m w a c)
theorem cE.mono (h : cE T T' p l) (hl : l' ≤ l) : cE T T' p l' := fun m w a c => h m w (by omega) c
theorem cE.gI (h : cE T T' p l) {k j : Nat} {x : Int32} (hk : k ≠ 4) : cE T (gI T' k j x) p l := fun m w a c => by
  rw [← h m w a c]; unfold cV; rw [v_o (by omega)]
theorem cE.cS (h : cE T T' p l) {m0 w0 : Nat} {x : Int} (hm : l ≤ m0) (hw : w0 < 7) : cE T (cS T' p m0 w0 x) p l := fun m w a c => by
  rw [← h m w a c]; exact cV_ne hw c (by omega)
theorem cE.beg (h : cE T T' p l) {n : Nat} {k v u : Int32} (hn : l ≤ n) : cE T (mBeg T' p n k v u) p l := fun m w a c => by
  rw [← h m w a c]; exact mBeg_o (by omega) (by omega)
theorem cE.of4 (h : cE T T' p l) (h4 : ∀ i, vI T'' 4 i = vI T' 4 i) : cE T T'' p l := fun m w a c => by
  rw [← h m w a c]; exact h4 _
theorem cR.cE {t : Nat → Int} (h : cR T p l' t) (h2 : cE T T' p l) (hl : l' < l) : cR T' p l' t := fun w hw => (h2 l' w hl hw).trans (h w hw)
theorem cR.of4 {t : Nat → Int} (h : cR T p l' t) (h4 : ∀ i, vI T' 4 i = vI T 4 i) : cR T' p l' t := fun w hw => (h4 _).trans (h w hw)
theorem cC.cE (h : cC T p l ts) (h2 : cE T T' p l') (hl : l + ts.length ≤ l') : cC T' p l ts := fun m w a c => (h2 (l + m) w (by omega) c).trans (h m w a c)
theorem cC.gI (h : cC T p l ts) {k j : Nat} {x : Int32} (hk : k ≠ 4) : cC (gI T k j x) p l ts := fun m w a c => by
  rw [← h m w a c]; unfold cV; rw [v_o (by omega)]
theorem cC.cS (h : cC T p l ts) {m0 w0 : Nat} {x : Int} (hm : m0 < l) (hw : w0 < 7) : cC (cS T p m0 w0 x) p l ts := fun m w a c => by
  rw [← h m w a c]; exact cV_ne hw c (by omega)
theorem cC.app (h : cC T p l ts) (h2 : cC T p (l + ts.length) t2) : cC T p l (ts ++ t2) := by
  intro m w hm hw
  by_cases q : m < ts.length
  · rw [List.getD_eq_getElem?_getD, List.getElem?_append_left q, ← List.getD_eq_getElem?_getD]; exact h m w q hw
  · rw [List.getD_eq_getElem?_getD, List.getElem?_append_right (by omega), ← List.getD_eq_getElem?_getD]
    rw [List.length_append] at hm
    have := h2 (m - ts.length) w (by omega) hw
    rw [show l + ts.length + (m - ts.length) = l + m by omega] at this
    exact this
theorem cH.mk {t t9 : Nat → Int} (h : cE T T' p l) (h1 : cR T' p l t) (h2 : cC T' p (l + 1) ts) (ht : ∀ w, w < 7 → t w = t9 w) : cH T T' p l (t9 :: ts) := by
  refine ⟨h, fun m w hm hw => ?_⟩
  cases m with
  | zero => exact (h1 w hw).trans (ht w hw)
  | succ m =>
    have := h2 m w (by rw [List.length_cons] at hm; omega) hw
    rw [show l + 1 + m = l + (m + 1) by omega] at this
    exact this
theorem cR_beg {k v u : Int} {n : Nat} (hk : -2147483648 ≤ k ∧ k < 2147483648) (hv : -2147483648 ≤ v ∧ v < 2147483648) (hu : -2147483648 ≤ u ∧ u < 2147483648) : cR (mBeg T p n (zI k) (zI v) (zI u)) p n (xTok k v (-1) (-1) (-1) (-1) u) := fun w hw => mBeg_c hk hv hu hw
end CE
section EX
variable {sa : Nat → Nat} {b : Nat} {E : Nat × mH} {d : Nat} {T : gT} {u : Nat → Nat} {n p : Nat} {env : List (List Nat × Nat)} {o : Int} {σ : xS}
theorem c_isWord {a q : Nat} {s : List Nat} {φ : Int → gT → Prop} (ht : tx T u n) (hp : vI T 0 20 = (q : Int)) (hq : q ≤ n) (hs : mStr E b a s) (h : φ (if isW u n q s = true then 1 else 0) T) :
    gC (tP sa) lM b E (d + 4) mX7_isWord [.ref (b + 0), .ref a] T (fun r T' => pI r (fun v => φ v T')) := by
  have hn := ht.n
  have hc := cz_rg (u := u) (n := n) (p := q) (fun _ => ht.b (by omega))
  have hwe := we_le (u := u) (n := n) hq
  obtain ⟨_, _, _, _, _, _, _, hsl, hs8⟩ := id hs
  have lp : we u n q = q + s.length → zL (cz u n q) = true → ∀ (j i : Nat), s.length - i = j → i ≤ s.length → (∀ k, k < i → u (q + k) = s.getD k 0) →
      gW (tP sa) lM b E (d + 3 + 1) mX7_isWord 32 [some (.ref (b + 0)), some (.ref a), some (.int (zI (s.length : Int))), some (.int (zI (i : Int)))] [] T (fun r T' => pI r (fun v => φ v T')) := by
    intro hlen hz j
    induction j with
    | zero =>
      intro i hj hi hk
      refine w_X7_isWord_32 hs ?_
      unfold f_X7_isWord_32
      refine ⟨by omega, by omega, fun _ => ⟨_, rfl, ?_⟩, fun c => absurd c (by omega)⟩
      have : isW u n q s = true := by
        unfold isW
        rw [hz, decide_eq_true hlen, decide_eq_true (fun k hk2 => hk k (by omega))]
        rfl
      rw [if_pos this] at h
      exact h
    | succ j ih =>
      intro i hj hi hk
      refine w_X7_isWord_32 hs ?_
      unfold f_X7_isWord_32
      have h8 := (hs8 i (by omega)).1
      refine ⟨by omega, by omega, fun c => absurd c (by omega), fun _ => ⟨by omega, by omega, by omega, by omega, ?_⟩⟩
      rw [hp, Int.toNat_natCast, show ((q : Int) + (i : Int)).toNat = q + i by omega]
      refine ⟨by omega, fun c => ?_, fun c => ⟨_, rfl, ?_⟩⟩
      · refine ih (i + 1) (by omega) (by omega) (fun k hk2 => ?_)
        by_cases e : k = i
        · rw [e]; exact (ht.sE (by omega) h8).mp c
        · exact hk k (by omega)
      · have : ¬ isW u n q s = true := by
          intro z
          unfold isW at z
          simp only [Bool.and_eq_true, decide_eq_true_eq] at z
          exact c ((ht.sE (by omega) h8).mpr (z.2 i (by omega)))
        rw [if_neg this] at h
        exact h
  refine w_X7_isWord (d := d) hs ?_
  unfold f_X7_isWord
  refine k_peek ht hp (by omega) ?_
  refine ⟨by omega, fun c => ⟨_, rfl, ?_⟩, fun c => ?_⟩
  · have : ¬ isW u n q s = true := by
      intro z
      unfold isW at z
      simp only [Bool.and_eq_true, decide_eq_true_eq] at z
      exact c z.1.1
    rw [if_neg this] at h
    exact h
  · refine k_wordEnd ht hp (by omega) ?_
    rw [hp]
    refine ⟨by omega, by omega, fun c2 => lp (by omega) c _ 0 rfl (by omega) (fun k hk => by omega), fun c2 => ⟨_, rfl, ?_⟩⟩
    have : ¬ isW u n q s = true := by
      intro z
      unfold isW at z
      simp only [Bool.and_eq_true, decide_eq_true_eq] at z
      have := z.1.2
      omega
    rw [if_neg this] at h
    exact h
def hRec (sa : Nat → Nat) (b : Nat) (E : Nat × mH) (u : Nat → Nat) (n p r D : Nat) : Prop := ∀ (T : gT) (env : List (List Nat × Nat)) (σ : xS) (up : Int) (φ : Int → gT → Prop), pR T u n p env (40 - (r : Int)) σ → (-1 ≤ up ∧ up < 1000) → (∀ v T', xP T T' u n p env (40 - (r : Int)) σ (402 + (r : Int)) (px u n r env up σ) v → φ v T') → gC (tP sa) lM b E D mX7_expression [.ref (b + 0), .int (zI up)] T (fun r T' => pI r (fun v => φ v T'))
theorem xBd_ok {w : List Nat} {σ σ' : xS} (h : xBd u n σ = .inr (w, σ')) : σ' = (we u n (sk u n σ.1), σ.2.1, σ.2.2.1 + 1, σ.2.2.2) := by
  unfold xBd at h
  split at h
  · split at h
    · cases h
    · cases h; rfl
  · cases h
theorem c_lambda {r p0 s9 l nv nf : Nat} {up : Int} {φ : Int → gT → Prop} (hr : r ≤ 40) (hR : hRec sa b E u n p r (d + 3)) (h : pR T u n p env (40 - (r : Int)) (p0 + 1, l, nv, nf)) (hl : l < 200) (hup : -1 ≤ up ∧ up < 1000)
    (hφ : ∀ v T', xP T T' u n p env (40 - (r : Int)) (s9, l, nv, nf) (403 + (r : Int)) (xLam u n (px u n r) env up p0 (s9, l, nv, nf)) v → φ v T') :
    gC (tP sa) lM b E (d + 4) mX7_lambda [.ref (b + 0), .int (zI (p0 : Int)), .int (zI up)] T (fun r T' => pI r (fun v => φ v T')) := by
  have hn := h.1.n
  have hpn : p0 + 1 ≤ n := h.pn
  have hp2 := h.p2
  have hfu : vI T 0 24 = (nf : Int) := h.fu
  have hf2 : nf ≤ 50 := h.fu2
  have hva : nv ≤ 100 := h.va2
  refine w_X7_lambda (d := d + 3) ?_
  unfold f_X7_lambda
  rw [h.rg, hfu]
  refine ⟨fun c => ?_, fun c => ?_⟩
  · have h1 : pR (gI T 0 24 (zI ((nf : Int) + 1))) u n p env (40 - (r : Int)) (p0 + 1, l, nv, nf + 1) := h.fn (by show nf + 1 ≤ 50; omega)
    refine k_begin hp2 hl h1.ex ?_
    have h2 : pR (mBeg (gI T 0 24 (zI ((nf : Int) + 1))) p l (zI 2) (zI (-1)) (zI up)) u n p env (40 - (r : Int)) (p0 + 1, l + 1, nv, nf + 1) := pR_beg (σ := (p0 + 1, l, nv, nf + 1)) h1 hl
    have f2 : fr (Wp p) T (mBeg (gI T 0 24 (zI ((nf : Int) + 1))) p l (zI 2) (zI (-1)) (zI up)) := mBeg_fr hl (fr.refl.gI (Or.inl ⟨rfl, by omega⟩))
    have e2 : cE T (mBeg (gI T 0 24 (zI ((nf : Int) + 1))) p l (zI 2) (zI (-1)) (zI up)) p l := (cE.refl.gI (by decide)).beg (Nat.le_refl _)
    have r2 : cR (mBeg (gI T 0 24 (zI ((nf : Int) + 1))) p l (zI 2) (zI (-1)) (zI up)) p l (xTok 2 (-1) (-1) (-1) (-1) (-1) up) := cR_beg (by omega) (by omega) (by omega)
    generalize hT2 : mBeg (gI T 0 24 (zI ((nf : Int) + 1))) p l (zI 2) (zI (-1)) (zI up) = T2 at *
    refine c_binding h2 (fun w σ' T' hx hT hf h4 => ?_) (fun q v T' hx hT => ?_)
    · have hσ := xBd_ok hx
      dsimp only at hσ
      generalize he : we u n (sk u n (p0 + 1)) = e9 at hσ
      subst hσ
      dsimp only at hT
      have hs := sk_le (u := u) hT.pn
      dsimp only at hs
      generalize hs9 : sk u n e9 = s at hs
      have hc := cz_rg (u := u) (n := n) (p := s) (fun _ => h.1.b (by omega))
      refine k_blanks hT.1 hT.pl (by have := hT.pn; dsimp only at this; omega) ?_
      rw [hs9]
      have h3 := hT.pos (s := s) hs.2
      dsimp only at h3
      refine ⟨fun z => absurd h3.wr z, fun _ => ?_⟩
      refine k_peek (p := s) h3.1 h3.pl (by omega) ?_
      refine ⟨by omega, fun c2 => ?_, fun c2 => ?_⟩
      · have hlt : s < n := cz_lt (u := u) (by omega)
        have hE : xEnd u n 46 (e9, l + 1, nv + 1, nf + 1) = .inr (s + 1, l + 1, nv + 1, nf + 1) := by unfold xEnd; dsimp only; rw [hs9, if_pos c2]
        refine w_X7_lambda_77 ?_
        unfold f_X7_lambda_77
        refine ⟨fun _ => ⟨by omega, by omega, ?_⟩, fun z => absurd h3.wr z⟩
        rw [Int.toNat_natCast, Int.toNat_natCast, h3.pl]
        have h5 := pR_cS (l := l) (w := 1) (x := (nv : Int)) (h3.posZ (s := s + 1) (z := (s : Int) + 1) (by omega) (by omega))
        dsimp only at h5 ⊢
        refine hR _ _ _ (l : Int) _ h5 (by omega) (fun v T9 hP => ?_)
        refine ⟨by omega, by omega, _, rfl, hφ _ _ ?_⟩
        have f5 := cS_fr (l := l) (w := 1) (x := (nv : Int)) (((f2.trans hf).gI (k := 0) (j := 20) (x := zI (s : Nat)) (Or.inl ⟨rfl, by omega⟩)).gI (k := 0) (j := 20) (x := zI ((s : Int) + 1)) (Or.inl ⟨rfl, by omega⟩)) hl (by omega)
        have hxl : xLam u n (px u n r) env up p0 (s9, l, nv, nf) = match px u n r ((w, nv) :: env) l (s + 1, l + 1, nv + 1, nf + 1) with
            | .inl q => .inl q
            | .inr (σ3, ts) => .inr (σ3, xTok 2 nv (-1) (l + 1 : Nat) (-1) (-1) up :: ts) := by
          unfold xLam
          dsimp only
          rw [if_neg (by omega), hx]
          dsimp only
          rw [hE]
          dsimp only
          cases px u n r ((w, nv) :: env) l (s + 1, l + 1, nv + 1, nf + 1) <;> rfl
        rw [hxl]
        cases hpx : px u n r ((w, nv) :: env) l (s + 1, l + 1, nv + 1, nf + 1) with
        | inl q =>
          rw [hpx] at hP
          have hP1 : pF _ T9 p q (402 + (r : Int)) (((w, nv) :: env).length) ((nv + 1 : Nat) : Int) := hP
          have hb1 := hP1.2.2.2.2.2.1
          have hb2 := hP1.2.2.2.2.2.2.1
          have hb3 := hP1.2.2.2.2.2.2.2
          rw [List.length_cons] at hb1 hb2
          have hbn := hT.bo2
          rw [List.length_cons] at hbn
          dsimp only at hbn
          refine pF_cS (pF_bd ((hP1.pre f5).le (by omega)) ?_ ?_ ?_ ?_) hl (by omega) <;> (try dsimp only) <;> omega
        | inr y =>
          obtain ⟨σ3, ts⟩ := y
          rw [hpx] at hP
          obtain ⟨hv, h9, f9, ⟨k1, k2⟩, h8, h7⟩ := hP
          have k1' : cE _ T9 p (l + 1) := k1
          have k2' : cC T9 p (l + 1) ts := k2
          dsimp only at h8 hv h7
          have hbo := h9.bo
          rw [List.length_cons] at hbo
          refine ⟨rfl, pR_cS (h9.un (by omega)), cS_fr ((f5.trans f9).gI (Or.inl ⟨rfl, by omega⟩)) hl (by omega), cH.mk ?_ (cR_cS (cR_gI (cR.cE (cR_cS (cR_gI (cR_gI (r2.of4 h4) (by decide)) (by decide)) (by omega) (by omega)) k1' (by omega)) (by decide)) (by omega) (by omega)) ((k2'.gI (by decide)).cS (by omega) (by omega)) ?_, ?_, by show nv ≤ _; omega⟩
          · refine cE.cS (cE.gI (cE.trans ?_ (k1'.mono (by show l ≤ l + 1; omega))) (by decide)) (Nat.le_refl _) (by omega)
            exact cE.cS (((e2.of4 h4).gI (by decide)).gI (by decide)) (Nat.le_refl _) (by omega)
          · intro w hw
            obtain rfl | rfl | rfl | rfl | rfl | rfl | rfl : w = 0 ∨ w = 1 ∨ w = 2 ∨ w = 3 ∨ w = 4 ∨ w = 5 ∨ w = 6 := by omega
            all_goals simp [tokS, xTok]
            omega
          · rw [h8, List.length_cons]; (try dsimp only); omega
      · rw [h3.pl]
        refine k_fail0 h3.wr ⟨_, rfl, hφ _ _ ?_⟩
        have hE : xEnd u n 46 (e9, l + 1, nv + 1, nf + 1) = .inl s := by unfold xEnd; dsimp only; rw [hs9, if_neg c2]
        unfold xLam
        dsimp only
        rw [if_neg (by omega), hx]
        dsimp only
        rw [hE]
        have hF := (h3.fail0 (q := s) (m := 403 + (r : Int)) (by omega) (by show ((s : Nat) : Int) ≤ _; omega)).pre ((f2.trans hf).gI (k := 0) (j := 20) (x := zI (s : Nat)) (Or.inl ⟨rfl, by omega⟩))
        obtain ⟨y1, y2, y3, y4, y5, y6, y7, y8⟩ := hF
        rw [List.length_cons] at y6 y7
        dsimp only at y7
        exact ⟨y1, y2, y3, y4, y5, by omega, by dsimp only; omega, y8⟩
    · have ht' := Wp.tx hT.1 h2.1
      have y4 := hT.2.2.2.1
      have y5 := hT.2.2.2.2.1
      obtain ⟨x9, hx9⟩ : ∃ x9 : Nat, vI T' 0 20 = (x9 : Int) := ⟨(vI T' 0 20).toNat, by omega⟩
      have hsk := sk_ge (u := u) (n := n) n x9 (by omega)
      refine k_blanks ht' hx9 (by omega) ?_
      have hF : pF T (gI T' 0 20 (zI (sk u n x9 : Nat))) p q 402 env.length nv := pF_pos (m2 := 402) (hT.pre f2) (by omega) (by omega) (by omega)
      have hwr : vI (gI T' 0 20 (zI (sk u n x9 : Nat))) 0 22 = 1 := hF.2.1
      refine ⟨fun _ => ?_, fun z => absurd z (by omega)⟩
      refine w_X7_lambda_77 ?_
      unfold f_X7_lambda_77
      refine ⟨fun z => absurd z (by omega), fun _ => ⟨_, rfl, hφ _ _ ?_⟩⟩
      unfold xLam
      dsimp only
      rw [if_neg (by omega), hx]
      have := hF.2.2.2.1
      have := hF.2.2.2.2.1
      exact pF_pos hF (by omega) (by omega) (by omega)
  · refine k_fail0 h.wr ⟨_, rfl, hφ _ _ ?_⟩
    unfold xLam
    dsimp only
    rw [if_pos (by omega)]
    exact h.fail0 (by omega) (by show ((p0 + 1 : Nat) : Int) ≤ _; omega)
end EX
