/-! THE REFERENCE WRITES: forms, the whole -/
def hdT (c : Nat → Nat → Int) (l : Nat) : List Nat := if c l 0 = 4 then [105, 102, 32] else if c l 0 = 5 then [108, 101, 116, 32] ++ (vrS (c l 1) ++ [32]) else if c l 0 = 3 then [102, 105, 120, 32] ++ (vrS (c l 2) ++ ([32] ++ (vrS (c l 1) ++ [32]))) else if c l 0 = 11 then [] else [stB.getD (c l 0 - 6).toNat 0, 32]
theorem sE_form {c : Nat → Nat → Int} {f l : Nat} (h : 3 ≤ c l 0 ∧ c l 0 ≤ 11) : sE c (f + 1) l = [40] ++ (hdT c l ++ (ptS c f l ++ [41])) := by
  have hcl : clS (c l 0) = [41] := by unfold clS; rw [if_pos h.1]
  have hnp : 0 < np (c l 0) := by unfold np; rw [if_neg (by omega)]; split <;> (try split) <;> decide
  have b1 : ∀ j, 0 < j → blS (c l 0) j = [32] := fun j hj => by unfold blS; rw [if_neg (by omega), if_neg (by omega)]
  rw [sE, hcl, if_pos hnp]
  unfold ptS
  have e1 : (if 1 < np (c l 0) then blS (c l 0) 1 ++ sE c f (c l 4).toNat else []) = (if 1 < np (c l 0) then 32 :: sE c f (c l 4).toNat else []) := by rw [b1 1 (by decide)]; rfl
  have e2 : (if 2 < np (c l 0) then blS (c l 0) 2 ++ sE c f (c l 5).toNat else []) = (if 2 < np (c l 0) then 32 :: sE c f (c l 5).toNat else []) := by rw [b1 2 (by decide)]; rfl
  rw [e1, e2]
  have e0 : hdS c l ++ blS (c l 0) 0 = [40] ++ hdT c l := by
    unfold hdS blS hdT
    rw [if_neg (by omega), if_neg (by omega), if_neg (by omega), if_neg (show ¬ c l 0 = 2 by omega)]
    by_cases y3 : c l 0 = 3
    · rw [if_pos y3, if_neg (by omega), if_neg (by omega), if_neg (by omega), if_pos y3]
      simp only [List.append_assoc, List.cons_append, List.nil_append]
    rw [if_neg y3]
    by_cases y4 : c l 0 = 4
    · rw [if_pos y4, if_neg (by omega), if_pos y4]; rfl
    rw [if_neg y4]
    by_cases y5 : c l 0 = 5
    · rw [if_pos y5, if_neg (by omega), if_neg (by omega), if_pos y5]
      simp only [List.append_assoc, List.cons_append, List.nil_append]
    rw [if_neg y5]
    by_cases y11 : c l 0 = 11
    · rw [if_pos y11, if_pos ⟨y11, rfl⟩, if_neg y4, if_neg y5, if_neg y3, if_pos y11]
    · rw [if_neg y11, if_neg (fun z => y11 z.1), if_neg y4, if_neg y5, if_neg y3, if_neg y11]; rfl
  have e3 : ∀ (A B C : List Nat), hdS c l ++ ((blS (c l 0) 0 ++ A) ++ (B ++ (C ++ [41]))) = (hdS c l ++ blS (c l 0) 0) ++ (A ++ (B ++ (C ++ [41]))) := fun A B C => by simp only [List.append_assoc]
  rw [e3, e0]
  simp only [List.append_assoc]
theorem sE_lam {c : Nat → Nat → Int} {f l : Nat} (h : c l 0 = 2) : sE c (f + 1) l = [92] ++ (vrS (c l 1) ++ ([46] ++ sE c f (c l 3).toNat)) := by
  have hnp : np (c l 0) = 1 := by unfold np; rw [if_neg (by omega), if_pos (by omega)]
  have e1 : hdS c l = 92 :: (vrS (c l 1) ++ [46]) := by unfold hdS; rw [if_neg (by omega), if_neg (by omega), if_pos h]
  have e2 : blS (c l 0) 0 = [] := by unfold blS; rw [if_pos h]
  have e3 : clS (c l 0) = [] := by unfold clS; rw [if_neg (by omega)]
  rw [sE, hnp, if_pos (by decide), if_neg (by decide), if_neg (by decide), e1, e2, e3]
  simp only [List.append_assoc, List.cons_append, List.nil_append, List.append_nil]
theorem sE_leaf {c : Nat → Nat → Int} {f l : Nat} (h : c l 0 < 2) : sE c (f + 1) l = hdS c l := by
  have hnp : np (c l 0) = 0 := by unfold np; rw [if_pos h]
  rw [sE, hnp, if_neg (by decide), if_neg (by decide), if_neg (by decide)]
  unfold clS
  rw [if_neg (by omega)]
  simp only [List.append_nil]
section RF
variable {sa : Nat → Nat} {b : Nat} {E : Nat × mH} {d : Nat} {c : Nat → Nat → Int} {n nv nf a : Nat}
theorem t_form7 {f l : Nat} {φ : gT → Prop} {T : gT} {w : List Nat} (hw : wP c n nv nf) (hS : mKeyS sa b E) (hR : hSy sa b E (d + 4) a c n f) (hl : l < n) (hf : n ≤ l + (f + 1)) (h3 : 3 ≤ c l 0) (h : rW T a c n) (hB : mBf T 0 51 28 w) (hlen : w.length + (hdT c l).length + (ptS c f l).length < 499999) (k : ∀ T', mBf T' 0 51 28 (w ++ (hdT c l ++ ptS c f l)) → fBa (en c l - l) T T' → φ T') :
    gC (tP sa) lM b E (d + 4 + 1) mX7_sayForm [.ref (b + 0), .int (zI (l : Int)), .int (zI (c l 0))] T (fun r T' => pV r (φ T')) := by
  have hn := hw.1
  have hnv := hw.2.1
  obtain ⟨w1, w2, w3, _⟩ := (hw.flat.2.2.2 l hl).1
  have hk := kid hw hl
  have hen := hk.2.1
  refine w_X7_sayForm ?_
  unfold f_X7_sayForm
  -- the parts
  have pt : ∀ {T1 : gT} {v : List Nat} {m : Nat}, m ≤ 1 → mBf T1 0 51 28 (w ++ v) → v.length ≤ 30 → hdT c l = v → fBa m T T1 → gW (tP sa) lM b E (d + 4 + 1) mX7_sayForm 124 [some (.ref (b + 0)), some (.int (zI (l : Int))), some (.int (zI (c l 0))), some (.int (zI 3))] [] T1 (fun r T' => pV r (φ T')) := by
    intro T1 v m hm h1 hv e f1
    refine t_parts hw hR hl hf h3 (h.fBa f1) h1 (by rw [List.length_append, ← e]; omega) (fun T2 h2 f2 => k T2 ?_ ((f1.trans f2).le (by omega)))
    rw [e]
    rw [List.append_assoc] at h2
    exact h2
  have lv := fun v => (vrS_sh v).1
  refine ⟨by omega, fun z => ?_, fun z => ?_, fun z => ?_, fun z => ?_, fun z => ?_, by omega⟩
  · refine t_word (d := d) hS.1 hB (by decide) (by show w.length + 3 < _; omega) (fun T1 h1 f1 => ?_)
    exact pt (by decide) h1 (by decide) (by unfold hdT; rw [if_pos z]) (fB.a f1)
  · have a1 := w2 (by omega)
    have l1 := lv (c l 1)
    refine t_word (d := d) hS.2.1 hB (by decide) (by show w.length + 4 < _; omega) (fun T1 h1 f1 => ?_)
    have r1 := h.fBa (fB.a f1)
    rw [r1.get hl (by decide)]
    refine ⟨r1.now, by omega, t_var (d := d + 2) h1 (by omega) (by rw [List.length_append]; show w.length + 4 < _; omega) (fun T2 h2 f2 => ?_)⟩
    refine t_say (x := 32) h2 (by decide) (by rw [List.length_append, List.length_append]; show w.length + 4 + _ < _; omega) (fun T3 h3' f3 => ?_)
    refine pt (v := [108, 101, 116, 32] ++ (vrS (c l 1) ++ [32])) (by decide) ?_ (by rw [List.length_append, List.length_append]; show 4 + (_ + 1) ≤ _; omega) (by unfold hdT; rw [if_neg (by omega), if_pos z]) ((fB.a f1).trans ((fB.a f2).trans (fB.a f3)))
    simp only [List.append_assoc] at h3' ⊢
    exact h3'
  · have a1 := w2 (by omega)
    have a2 := w3 z
    have l1 := lv (c l 1)
    have l2 := lv (c l 2)
    refine t_word (d := d) hS.2.2.1 hB (by decide) (by show w.length + 4 < _; omega) (fun T1 h1 f1 => ?_)
    have r1 := h.fBa (fB.a f1)
    rw [r1.get hl (by decide)]
    refine ⟨r1.now, by omega, t_var (d := d + 2) h1 (by omega) (by rw [List.length_append]; show w.length + 4 < _; omega) (fun T2 h2 f2 => ?_)⟩
    refine t_say (x := 32) h2 (by decide) (by rw [List.length_append, List.length_append]; show w.length + 4 + _ < _; omega) (fun T3 h3' f3 => ?_)
    have r3 := (r1.fBa (fB.a f2)).fBa (fB.a f3)
    rw [r3.get hl (by decide)]
    refine ⟨r3.now, t_var (d := d + 2) h3' (by omega) (by rw [List.length_append, List.length_append, List.length_append]; show w.length + 4 + _ + 1 < _; omega) (fun T4 h4 f4 => ?_)⟩
    refine t_say (x := 32) h4 (by decide) (by rw [List.length_append, List.length_append, List.length_append, List.length_append]; show w.length + 4 + _ + 1 + _ < _; omega) (fun T5 h5 f5 => ?_)
    refine pt (v := [102, 105, 120, 32] ++ (vrS (c l 2) ++ ([32] ++ (vrS (c l 1) ++ [32])))) (by decide) ?_ (by simp only [List.length_append, List.length_cons, List.length_nil]; omega) (by unfold hdT; rw [if_neg (by omega), if_neg (by omega), if_pos z]) ((fB.a f1).trans ((fB.a f2).trans ((fB.a f3).trans ((fB.a f4).trans (fB.a f5)))))
    simp only [List.append_assoc] at h5 ⊢
    exact h5
  · refine ⟨_, hS.2.2.2, rfl, fun E' => ?_⟩
    have ha : fBa 1 T (T.1, T.2.1, T.2.2.1 + 2, T.2.2.2 + 5) := ⟨fun _ _ _ => rfl, fun _ _ => rfl, by dsimp only; omega, by dsimp only; omega⟩
    have hB0 : mBf (T.1, T.2.1, T.2.2.1 + 2, T.2.2.2 + 5) 0 51 28 w := hB
    have est : ([43, 45, 42, 61, 60] : List Nat).getD (c l 0 - 6).toNat 0 = stB.getD (c l 0 - 6).toNat 0 := rfl
    rw [est]
    refine t_say hB0 (stB_lt _) (by omega) (fun T1 h1 f1 => ?_)
    refine t_say (x := 32) h1 (by decide) (by rw [List.length_append]; show w.length + 1 < _; omega) (fun T2 h2 f2 => ?_)
    refine pt (v := [stB.getD (c l 0 - 6).toNat 0, 32]) (m := 1) (by decide) ?_ (Nat.le_of_ble_eq_true rfl) (by unfold hdT; rw [if_neg (by omega), if_neg (by omega), if_neg (by omega), if_neg (by omega)]) (ha.trans ((fB.a f1).trans (fB.a f2)))
    rw [List.append_assoc] at h2
    exact h2
  · exact pt (v := []) (m := 0) (by decide) (by rw [List.append_nil]; exact hB) (by decide) (by unfold hdT; rw [if_neg (by omega), if_neg (by omega), if_neg (by omega), if_pos z]) fBa.refl
theorem t_expr7 (hw : wP c n nv nf) (hS : mKeyS sa b E) : ∀ f, hSy sa b E (d + 6 + 2 * f) a c n f := by
  have hn := hw.1
  have hnv := hw.2.1
  intro f
  induction f with
  | zero => intro l T w φ hl hf; omega
  | succ f ih =>
    intro l T w φ hl hf h hB hlen k
    obtain ⟨w1, w2, w3, _⟩ := (hw.flat.2.2.2 l hl).1
    have hnum := num_ok hw hl
    have hk := kid hw hl
    have hen := hk.2.1
    have ih' : hSy sa b E (d + 2 + 2 * f + 4) a c n f := by
      rw [show d + 2 + 2 * f + 4 = d + 6 + 2 * f by omega]; exact ih
    rw [show d + 6 + 2 * (f + 1) = d + 6 + 2 * f + 1 + 1 by omega]
    refine w_X7_sayExpr ?_
    unfold f_X7_sayExpr
    rw [h.get hl (by decide)]
    refine ⟨h.now, by omega, fun n0 => ⟨fun n1 => ⟨fun n2 => ?_, fun y2 => ?_⟩, fun y1 => ?_⟩, fun y0 => ?_⟩
    · -- a form
      have hsf := sE_form (f := f) ⟨show 3 ≤ c l 0 by omega, w1.2⟩
      rw [hsf] at k hlen
      have hdl : (hdT c l).length ≤ 30 := by
        have := (vrS_sh (c l 1)).1
        have := (vrS_sh (c l 2)).1
        unfold hdT
        split
        · decide
        split
        · simp only [List.length_append, List.length_cons, List.length_nil]; omega
        split
        · simp only [List.length_append, List.length_cons, List.length_nil]; omega
        split
        · decide
        · exact Nat.le_of_ble_eq_true rfl
      simp only [List.length_append, List.length_cons, List.length_nil] at hlen
      refine t_say (x := 40) hB (by decide) (by omega) (fun T1 h1 f1 => ?_)
      refine (t_form7 (d := d + 2 + 2 * f) hw hS ih' hl hf (by omega) (h.fBa (fB.a f1)) h1 (by rw [List.length_append]; show w.length + 1 + _ + _ < _; omega) (fun T2 h2 f2 => ?_)).mono (by omega) (fun _ _ x => x)
      refine t_say (x := 41) h2 (by decide) (by simp only [List.length_append, List.length_cons, List.length_nil]; omega) (fun T3 h3 f3 => ⟨rfl, k T3 ?_ (((fB.a f1).trans (f2.trans (fB.a f3))).le (by omega))⟩)
      simp only [List.append_assoc] at h3 ⊢
      exact h3
    · -- a lambda
      have hsl := sE_lam (f := f) y2
      obtain ⟨p00, p1, ae⟩ : c l 3 = ((l + 1 : Nat) : Int) ∧ l + 1 < n ∧ en c (l + 1) = en c l := by
        rcases hk.2.2.2 with ⟨a1, _⟩ | ⟨a1, p0, a4, a5, ae⟩ | ⟨a1, _⟩ | ⟨a1, _⟩
        · omega
        · exact ⟨p0.1, p0.2.2.1, ae⟩
        · omega
        · omega
      rw [hsl, p00, Int.toNat_natCast] at k hlen
      simp only [List.length_append, List.length_cons, List.length_nil] at hlen
      have a1 := w2 (by omega)
      have l1 := (vrS_sh (c l 1)).1
      refine t_say (x := 92) hB (by decide) (by omega) (fun T1 h1 f1 => ?_)
      have r1 := h.fBa (fB.a f1)
      rw [r1.get hl (by decide)]
      refine ⟨r1.now, by omega, (t_var (d := d) h1 (by omega) (by rw [List.length_append]; show w.length + 1 < _; omega) (fun T2 h2 f2 => ?_)).mono (by omega) (fun _ _ x => x)⟩
      refine t_say (x := 46) h2 (by decide) (by simp only [List.length_append, List.length_cons, List.length_nil]; omega) (fun T3 h3 f3 => ?_)
      have r3 := (r1.fBa (fB.a f2)).fBa (fB.a f3)
      have e3 : cV T3 (vI T3 0 3).toNat ((l : Int)).toNat 3 = ((l + 1 : Nat) : Int) := by rw [r3.get hl (by decide), p00]
      rw [e3]
      refine ⟨r3.now, by omega, (ih (l + 1) T3 _ _ p1 (by omega) r3 h3 (by simp only [List.length_append, List.length_cons, List.length_nil]; omega) (fun T4 h4 f4 => ⟨rfl, k T4 ?_ (((fB.a f1).trans ((fB.a f2).trans ((fB.a f3).trans f4))).le (by omega))⟩)).mono (by omega) (fun _ _ x => x)⟩
      simp only [List.append_assoc] at h4 ⊢
      exact h4
    · rw [sE_leaf (by omega)] at k hlen
      unfold hdS at k hlen
      rw [if_neg n0, if_pos y1] at k hlen
      rw [h.get hl (by decide)]
      exact ⟨by omega, (t_num (d := d) hB (hnum y1) (by omega) (fun T1 h1 f1 => ⟨rfl, k T1 h1 ((fB.a f1).le (by omega))⟩)).mono (by omega) (fun _ _ x => x)⟩
    · rw [sE_leaf (by omega)] at k hlen
      unfold hdS at k hlen
      rw [if_pos y0] at k hlen
      have a1 := w2 (by omega)
      rw [h.get hl (by decide)]
      exact ⟨by omega, (t_var (d := d) hB (by omega) (by omega) (fun T1 h1 f1 => ⟨rfl, k T1 h1 ((fB.a f1).le (by omega))⟩)).mono (by omega) (fun _ _ x => x)⟩
end RF
