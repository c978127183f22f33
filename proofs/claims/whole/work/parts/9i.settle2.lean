theorem v_ig {T : gT} {k j k2 j2 : Nat} {x : Int32} : vI (gI T k j x) k2 j2 = if k2 = k ∧ j2 = j then x.toInt else vI T k2 j2 := vI_gIs
section ST2
variable {sa : Nat → Nat} {b : Nat} {E : Nat × mH} {d : Nat} {T T' : gT} {q : Nat} {c : Nat → Nat → Int} {n nv nf i : Nat} {old : Nat → Nat}
theorem hUp (hw : wP c n nv nf) : ∀ l, l < n → c l 6 = -1 ∨ (0 ≤ c l 6 ∧ c l 6 < l) := by
  obtain ⟨g1, g2, g3, g4⟩ := hw.flat
  intro l hl
  by_cases z : l = 0
  · left; rw [z]; exact g3
  · right; exact (g4 l hl).2 (by omega)
/-- label i joins its parent -/
theorem d_join {φ : gT → Prop} (hw : wP c n nv nf) (hq : q = 2 ∨ q = 21) (hi : i < n) (h : g2 T q c i) (h3 : g3 T q c n i) (k : ∀ T', fG (W2 q) V0 T T' → g2 T' q c (i + 1) → φ T') :
    gC (tP sa) lD b E d mX3_join [.ref (b + q), .int (zI (i : Int)), .int (zI (c i 6))] T (fun r T' => pV r (φ T')) := by
  have hn := hw.1
  have hnf := hw.2.2.1
  have hU := hUp hw
  have ui := hU i hi
  have hwi := wi_eq (c := c) hU hi
  obtain ⟨cn0, cn1⟩ := cnt_new hw hi
  have rg := wi_rg hU
  have fn : fcn c n = nf := hw.flat.2.1
  refine w_X3_join hq ?_
  unfold f_X3_join
  rw [Int.toNat_natCast]
  refine ⟨by omega, by omega, ?_⟩
  generalize hT1 : gI (gI (gI T (q + 4) i (zI (c i 6))) (q + 6) i (zI (-1))) (q + 16) i (zI 0) = T1
  have st : ∀ (j m : Nat), j + m = 3 → ∀ T2 : gT, (fG (W2 q) V0 T T2 ∧ vI T2 (q + 4) i = c i 6 ∧ vI T2 (q + 6) i = -1 ∧ vI T2 (q + 16) i = 0 ∧ (∀ x, x < m → vI T2 (q + 13 + x) i = -1) ∧ ∀ k2 j2, j2 ≠ i → vI T2 k2 j2 = vI T k2 j2) →
      gW (tP sa) lD b E d mX3_join 23 [some (.ref (b + q)), some (.int (zI (i : Int))), some (.int (zI (c i 6))), some (.int (zI (m : Int)))] [] T2 (fun r T' => pV r (φ T')) := by
    intro j
    induction j with
    | succ j ih =>
      intro m hm T2 hT
      refine w_X3_join_23 hq ?_
      unfold f_X3_join_23
      rw [Int.toNat_natCast, Int.toNat_natCast, show (m : Int) + 1 = ((m + 1 : Nat) : Int) by omega]
      refine ⟨by omega, fun z => absurd z (by omega), fun _ => ⟨by omega, by omega, by omega, by omega, ih (m + 1) (by omega) _ ⟨hT.1.gI (by unfold W2; omega), ?_, ?_, ?_, fun x hx => ?_, fun k2 j2 hj => ?_⟩⟩⟩
      · rw [v_o (by omega)]; exact hT.2.1
      · rw [v_o (by omega)]; exact hT.2.2.1
      · rw [v_o (by omega)]; exact hT.2.2.2.1
      · rw [v_if (by omega)]
        by_cases e : x = m
        · rw [if_pos (by omega)]
        · rw [if_neg (by omega)]; exact hT.2.2.2.2.1 x (by omega)
      · rw [v_o (by omega)]; exact hT.2.2.2.2.2 k2 j2 hj
    | zero =>
      intro m hm T2 hT
      obtain rfl : m = 3 := by omega
      obtain ⟨t1, t2, t3, t4, t5, t6⟩ := hT
      refine w_X3_join_23 hq ?_
      unfold f_X3_join_23
      -- below i nothing changes but the parent's
      refine ⟨by omega, fun _ => ⟨by omega, fun z => ?_, fun z => ?_⟩, fun z => absurd (by decide) z⟩
      · obtain ⟨p, j, hj, hp, e6⟩ := par hw hi (by
          by_cases y : i = 0
          · rw [y] at z; exact absurd hw.flat.2.2.1 z
          · omega)
        have hpi : p < i := hp.2.1
        have hpn : p < n := by omega
        obtain ⟨cx1, cx2⟩ := cnt_nx hw hj hpn hp
        have gp := h p hpi
        have fo := h3.2.1 p hpi
        have rgp := rg p hpn
        rw [e6] at hwi
        rw [if_neg (by omega), Int.toNat_natCast] at hwi
        rw [e6, Int.toNat_natCast, t6 _ p (by omega), t6 _ p (by omega), fo, gp.2.1]
        have tl : ∀ s : Int, s = wi c i → gW (tP sa) lD b E d mX3_join 79 [some (.ref (b + q)), some (.int (zI (i : Int))), some (.int (zI (p : Int))), some (.int (zI ((3 : Nat) : Int)))] [.int (zI s), .int (zI (i : Int)), .ref (b + (q + 6))] T2 (fun r T' => pV r (φ T')) := by
          intro s hs
          have rgi := rg i hi
          refine w_X3_join_79 hq ?_
          unfold f_X3_join_79
          rw [Int.toNat_natCast, Int.toNat_natCast]
          have ef : vI (gI T2 (q + 6) i (zI s)) (q + 16) p = (j : Int) := by rw [v_o (by omega), t6 _ p (by omega), gp.2.2.1, cx1]
          rw [ef, Int.toNat_natCast]
          have ef2 : vI (gI (gI T2 (q + 6) i (zI s)) (q + 13 + j) p (zI (i : Int))) (q + 16) p = (j : Int) := by rw [v_o (by omega), ef]
          rw [ef2]
          refine ⟨by omega, by omega, by omega, by omega, fun z => by omega, fun _ => ⟨by omega, by omega, rfl, k _ ?_ (fun l hl => ?_)⟩⟩
          · refine (((t1.gI ?_).gI ?_).gI ?_)
            all_goals (unfold W2; omega)
          · by_cases y : l = i
            · subst y
              refine ⟨?_, ?_, ?_, fun x hx => ?_⟩
              · rw [v_o (by omega), v_o (by omega), v_o (by omega)]; exact t2
              · rw [v_o (by omega), v_o (by omega), v_s (by omega)]; exact hs
              · rw [v_o (by omega), v_o (by omega), v_o (by omega), t4, cn0]; rfl
              · rw [v_o (by omega), v_o (by omega), v_o (by omega), t5 x hx]
                have := cn1 x hx
                by_cases y : c l (3 + x) < ((l + 1 : Nat) : Int)
                · rw [if_pos y]; omega
                · rw [if_neg y]
            · have gl := h l (by omega)
              by_cases y2 : l = p
              · subst y2
                refine ⟨?_, ?_, ?_, fun x hx => ?_⟩
                · rw [v_o (by omega), v_o (by omega), v_o (by omega), t6 _ _ (by omega)]; exact gl.1
                · rw [v_o (by omega), v_o (by omega), v_o (by omega), t6 _ _ (by omega)]; exact gl.2.1
                · rw [v_s (by omega), cx2]; omega
                · rw [v_o (by omega), v_if (by omega)]
                  by_cases y3 : x = j
                  · rw [if_pos (by omega), y3, hp.1, if_pos (by omega)]
                  · rw [if_neg (by omega), v_o (by omega), t6 _ _ (by omega), gl.2.2.2 x hx]
                    -- another part of p: not i
                    have ne : c l (3 + x) ≠ (i : Int) := fun e => by
                      have := (cnt_nx hw hx hpn ⟨e, hpi, hi, e6⟩).1
                      omega
                    by_cases y4 : c l (3 + x) < (i : Int)
                    · rw [if_pos y4, if_pos (by omega)]
                    · rw [if_neg y4, if_neg (by omega)]
              · obtain ⟨ct, cne⟩ := cnt_ot hw (show l < n by omega) (i := i) (by omega)
                refine ⟨?_, ?_, ?_, fun x hx => ?_⟩
                · rw [v_o (by omega), v_o (by omega), v_o (by omega), t6 _ _ (by omega)]; exact gl.1
                · rw [v_o (by omega), v_o (by omega), v_o (by omega), t6 _ _ (by omega)]; exact gl.2.1
                · rw [v_o (by omega), v_o (by omega), v_o (by omega), t6 _ _ (by omega), ct]; exact gl.2.2.1
                · rw [v_o (by omega), v_o (by omega), v_o (by omega), t6 _ _ (by omega), gl.2.2.2 x hx]
                  have := cne x hx
                  by_cases y4 : c l (3 + x) < (i : Int)
                  · rw [if_pos y4, if_pos (by omega)]
                  · rw [if_neg y4, if_neg (by omega)]
        refine ⟨by omega, by omega, fun z => tl _ ?_, fun z => tl _ ?_⟩
        · rw [if_neg z] at hwi; exact hwi.symm
        · rw [if_pos z] at hwi; exact hwi.symm
      · rw [if_pos z] at hwi
        refine ⟨rfl, k _ t1 (fun l hl => ?_)⟩
        by_cases y : l = i
        · subst y
          refine ⟨t2, by rw [t3, hwi], by rw [t4, cn0]; rfl, fun x hx => ?_⟩
          rw [t5 x hx]
          have := cn1 x hx
          by_cases y : c l (3 + x) < ((l + 1 : Nat) : Int)
          · rw [if_pos y]; omega
          · rw [if_neg y]
        · have gl := h l (by omega)
          obtain ⟨ct, cne⟩ := cnt_ot hw (show l < n by omega) (i := i) (by omega)
          refine ⟨?_, ?_, ?_, fun x hx => ?_⟩
          · rw [t6 _ _ (by omega)]; exact gl.1
          · rw [t6 _ _ (by omega)]; exact gl.2.1
          · rw [t6 _ _ (by omega), ct]; exact gl.2.2.1
          · rw [t6 _ _ (by omega), gl.2.2.2 x hx]
            have := cne x hx
            by_cases y4 : c l (3 + x) < (i : Int)
            · rw [if_pos y4, if_pos (by omega)]
            · rw [if_neg y4, if_neg (by omega)]
  refine st 3 0 rfl T1 ⟨?_, ?_, ?_, ?_, fun x hx => by omega, fun k2 j2 hj => ?_⟩
  · rw [← hT1]
    refine (((fG.refl.gI ?_).gI ?_).gI ?_)
    all_goals (unfold W2; omega)
  · rw [← hT1, v_o (by omega), v_o (by omega), v_s (by omega)]
  · rw [← hT1, v_o (by omega), v_s (by omega)]
  · rw [← hT1, v_s (by omega)]
  · rw [← hT1, v_o (by omega), v_o (by omega), v_o (by omega)]
/-- label i is a function -/
theorem d_numF {φ : gT → Prop} (hw : wP c n nv nf) (hq : q = 2 ∨ q = 21) (hi : i < n) (hf : isFn c i) (h : g3 T q c n i) (k : ∀ T', fG (W3 q) V0 T T' → g3 T' q c n (i + 1) → φ T') :
    gC (tP sa) lD b E d mX3_numberFunction [.ref (b + q), .int (zI (i : Int))] (gI T (q + 5) i (zI (-1))) (fun r T' => pV r (φ T')) := by
  have hn := hw.1
  have h50 := fcn_50 hw hi hf
  obtain ⟨h1, h2, h3⟩ := h
  have e0 : vI (gI T (q + 5) i (zI (-1))) q 1 = (fcn c i : Int) := by rw [v_o (by omega)]; exact h1
  refine w_X3_numberFunction hq ?_
  unfold f_X3_numberFunction
  rw [e0, Int.toNat_natCast]
  have e1 : vI (gI (gI T (q + 5) i (zI (-1))) (q + 5) i (zI (fcn c i : Int))) q 1 = (fcn c i : Int) := by rw [v_o (by omega), e0]
  rw [e1, Int.toNat_natCast]
  have e2 : vI (gI (gI (gI T (q + 5) i (zI (-1))) (q + 5) i (zI (fcn c i : Int))) (q + 7) (fcn c i) (zI (i : Int))) q 1 = (fcn c i : Int) := by rw [v_o (by omega), e1]
  rw [e2]
  have fc : fcn c (i + 1) = fcn c i + 1 := by rw [fcn, if_pos hf]
  refine ⟨fun z => by omega, fun _ => ⟨by omega, by omega, by omega, by omega, rfl, k _ ?_ ⟨?_, fun l hl => ?_, fun t ht => ?_⟩⟩⟩
  · refine ((((fG.refl.gI ?_).gI ?_).gI ?_).gI ?_)
    all_goals (unfold W3; omega)
  · rw [v_s (by omega), fc]; omega
  · rw [v_o (by omega), v_o (by omega), v_if (by omega)]
    by_cases y : l = i
    · rw [if_pos ⟨rfl, y⟩, y]; unfold foN; rw [if_pos hf]
    · rw [if_neg (by omega), v_o (by omega)]; exact h2 l (by omega)
  · rw [v_o (by omega), v_if (by omega)]
    by_cases y : t = fcn c i
    · rw [if_pos ⟨rfl, y⟩, y, lbN_fcn hi hf]
    · rw [if_neg (by omega), v_o (by omega), v_o (by omega)]; exact h3 t (by omega)
theorem numF_no {T : gT} (hi : ¬ isFn c i) (h : g3 T q c n i) : fG (W3 q) V0 T (gI T (q + 5) i (zI (-1))) ∧ g3 (gI T (q + 5) i (zI (-1))) q c n (i + 1) := by
  obtain ⟨h1, h2, h3⟩ := h
  have fc : fcn c (i + 1) = fcn c i := by rw [fcn, if_neg hi]; rfl
  refine ⟨fG.refl.gI (by unfold W3; omega), ?_, fun l hl => ?_, fun t ht => ?_⟩
  · rw [v_o (by omega), fc]; exact h1
  · rw [v_if (by omega)]
    by_cases y : l = i
    · rw [if_pos ⟨rfl, y⟩, y]; unfold foN; rw [if_neg hi]
    · rw [if_neg (by omega)]; exact h2 l (by omega)
  · rw [v_o (by omega)]; exact h3 t (by omega)
theorem aS_np {k : Int} (h : 0 ≤ k ∧ k ≤ 11) : aS stA k = (np k : Int) := by
  obtain ⟨m, rfl⟩ : ∃ m : Nat, k = (m : Int) := ⟨k.toNat, by omega⟩
  have : ∀ m : Fin 12, aS stA (m.val : Int) = (np (m.val : Int) : Int) := by decide
  exact this ⟨m, by omega⟩
/-- what ends with label i -/
theorem d_openB {φ : Int → gT → Prop} (hE : mSta sa b E) (hw : wP c n nv nf) (hq : q = 2 ∨ q = 21) (hi : i < n) (hK : gK T q c n) (h2 : g2 T q c (i + 1)) (h : g4 T q c i) (k : ∀ T', fG (W4 q) V0 T T' → g4 T' q c (i + 1) → φ (if i + 1 < n then c (i + 1) 6 else -1) T') :
    gC (tP sa) lD b E (d + 1) mX3_openBehind [.ref (b + q), .int (zI (i : Int))] T (fun r T' => pI r (fun v => φ v T')) := by
  have hn := hw.1
  have e0 := en_0 hw
  refine w_X3_openBehind hq hE ?_
  unfold f_X3_openBehind
  -- o stands above all that has ended
  have lp : ∀ (f o it : Nat) (T1 : gT), o < f → o + it ≤ i → fG (W4 q) V0 T T1 → (∀ l, l < i → en c l ≤ i → vI T1 (q + 17) l = (en c l : Int)) → (∀ l, o < l → l ≤ i → en c l = i + 1 → vI T1 (q + 17) l = (en c l : Int)) → (∀ l, l < n → en c l = i + 1 → l ≤ o ∨ o < l) → ((np (c o 0) ≤ cnt c o (i + 1) ∧ en c o = i + 1) ∨ (cnt c o (i + 1) < np (c o 0) ∧ i + 1 < en c o ∧ i + 1 < n ∧ c (i + 1) 6 = (o : Int) ∧ ∀ l, l ≤ o → en c l ≠ i + 1)) →
      gW (tP sa) lD b E (d + 1) mX3_openBehind 4 [some (.ref (b + q)), some (.int (zI (i : Int))), some (.int (zI (o : Int))), some (.int (zI (it : Int)))] [] T1 (fun r T' => pI r (fun v => φ v T')) := by
    intro f
    induction f with
    | zero => intro o it T1 hf; omega
    | succ f ih =>
      intro o it T1 hf ho hF hA hB _ hC
      have hon : o < n := by omega
      obtain ⟨hk11, hoa, hob, _⟩ := kid hw hon
      refine w_X3_openBehind_4 hq hE ?_
      unfold f_X3_openBehind_4
      have ek : vI T1 (q + 1) o = c o 0 := by rw [hF.v (by unfold W4; omega)]; exact hK.2 o hon
      have ef : vI T1 (q + 16) o = (cnt c o (i + 1) : Int) := by rw [hF.v (by unfold W4; omega)]; exact (h2 o (by omega)).2.2.1
      have ep : vI T1 (q + 4) o = c o 6 := by rw [hF.v (by unfold W4; omega)]; exact (h2 o (by omega)).1
      rw [Int.toNat_natCast, ek, aS_np hk11, ef, v_o (by omega), ep]
      have np3 : np (c o 0) ≤ 3 := by unfold np; split <;> (try split) <;> (try split) <;> omega
      refine ⟨by omega, by omega, fun z => by omega, fun _ => ⟨by omega, fun z => by omega, fun _ => ⟨by omega, by omega, by omega, fun z => ?_, fun z => ?_⟩⟩⟩
      · obtain ⟨_, hen⟩ := hC.resolve_right (fun y => by omega)
        have hF2 := hF.gI (k := q + 17) (j := o) (x := zI ((i : Int) + 1)) (by unfold W4; omega)
        have hA2 : ∀ l, l < i → en c l ≤ i → vI (gI T1 (q + 17) o (zI ((i : Int) + 1))) (q + 17) l = (en c l : Int) := fun l hl he => by
          rw [v_o (by rintro ⟨_, e⟩; rw [e] at he; omega)]; exact hA l hl he
        have hB2 : ∀ l, o ≤ l → l ≤ i → en c l = i + 1 → vI (gI T1 (q + 17) o (zI ((i : Int) + 1))) (q + 17) l = (en c l : Int) := fun l hl hl2 he => by
          rw [v_if (by omega)]
          by_cases y : l = o
          · rw [if_pos ⟨rfl, y⟩, he]; omega
          · rw [if_neg (by omega)]; exact hB l (by omega) hl2 he
        by_cases z0 : o = 0
        · subst z0
          rw [hw.flat.2.2.1]
          have hin : i + 1 = n := by omega
          rw [if_neg (by omega)] at k
          have G4 : g4 (gI T1 (q + 17) 0 (zI ((i : Int) + 1))) q c (i + 1) := fun l hl he => by
            by_cases y : en c l = i + 1
            · exact hB2 l (Nat.zero_le _) (by omega) y
            · by_cases y2 : l = i
              · have := (kid hw (show l < n by omega)).2.1; omega
              · exact hA2 l (by omega) (by omega)
          refine w_X3_openBehind_4 hq hE ?_
          unfold f_X3_openBehind_4
          exact ⟨by omega, by omega, fun _ => ⟨_, rfl, k _ hF2 G4⟩, fun _ => ⟨by omega, fun _ => ⟨_, rfl, k _ hF2 G4⟩, fun z => absurd rfl z⟩⟩
        · obtain ⟨p, j, hj, hp, e6⟩ := par hw hon (by omega)
          have hpo : p < o := hp.2.1
          obtain ⟨ce, cc⟩ := cnt_end hw hj (show p < n by omega) hp hen
          rw [e6, show (it : Int) + 1 = ((it + 1 : Nat) : Int) by omega]
          -- what lies between p and o has ended before, or is o's elder: it ends before o
          have btw : ∀ l, p < l → l < o → en c l ≠ i + 1 := fun l l1 l2 he => by
            have hl : l < n := by omega
            -- o lies in l, so its parent does too
            have := (hw.nest hl (show l ≤ o by omega) (by omega)).2 (by omega)
            obtain ⟨p', e', lp', _⟩ := this
            omega
          refine ih p (it + 1) _ (by omega) (by omega) hF2 hA2 (fun l l1 l2 he => ?_) (fun l _ _ => by omega) ?_
          · by_cases y : o ≤ l
            · exact hB2 l y l2 he
            · exact absurd he (btw l l1 (by omega))
          · rcases cc with cc | cc
            · exact Or.inl ⟨by omega, cc.2⟩
            · refine Or.inr ⟨by omega, cc.2.1, cc.2.2.1, cc.2.2.2, fun l l1 he => ?_⟩
              by_cases y : l = p
              · rw [y] at he; omega
              · have := (hw.nest (show l < n by omega) (show l ≤ p by omega) (by omega)).1
                omega
      · obtain ⟨_, hen, hin, hc6, hno⟩ := hC.resolve_left (fun y => by omega)
        rw [if_pos hin, hc6] at k
        refine ⟨_, rfl, k _ hF (fun l hl he => ?_)⟩
        by_cases y : en c l = i + 1
        · by_cases y2 : l ≤ o
          · exact absurd y (hno l y2)
          · exact hB l (by omega) (by omega) y
        · by_cases y2 : l = i
          · have := (kid hw (show l < n by omega)).2.1; omega
          · exact hA l (by omega) (by omega)
  refine lp (i + 1) i 0 T (by omega) (by omega) fG.refl h (fun l l1 l2 => by omega) (fun l _ _ => by omega) ?_
  obtain ⟨_, ha, hb, hk⟩ := kid hw hi
  have c0 := (cnt_new hw hi).1
  rw [c0]
  have no : ∀ l, i + 1 < en c i → l ≤ i → en c l ≠ i + 1 := fun l z l1 he => by
    by_cases y : l = i
    · rw [y] at he; omega
    · have := (hw.nest (show l < n by omega) (show l ≤ i by omega) (by omega)).1
      omega
  unfold np
  rcases hk with hk | hk | hk | hk
  · exact Or.inl ⟨by rw [if_pos hk.1]; exact Nat.le_refl _, hk.2.2.2.2⟩
  · obtain ⟨k0, p0, _, _, e⟩ := hk
    have := (kid hw p0.2.2.1).2.1
    exact Or.inr ⟨by rw [if_neg (by omega), if_pos (by omega)]; omega, by omega, p0.2.2.1, p0.2.2.2, fun l l1 => no l (by omega) l1⟩
  · obtain ⟨k0, m, m2, p0, p1, p2, e0, e1, e2, i0, i1, i2⟩ := hk
    exact Or.inr ⟨by rw [if_neg (by omega), if_neg (by omega), if_pos (by omega)]; omega, by omega, p0.2.2.1, p0.2.2.2, fun l l1 => no l (by omega) l1⟩
  · obtain ⟨k0, m, p0, p1, k5, e0, e1, i0, i1⟩ := hk
    exact Or.inr ⟨by rw [if_neg (by omega), if_neg (by omega), if_neg (by omega)]; omega, by omega, p0.2.2.1, p0.2.2.2, fun l l1 => no l (by omega) l1⟩
end ST2
