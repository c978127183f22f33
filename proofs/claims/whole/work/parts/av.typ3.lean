/-! THE LAW'S CASE type -/
/-- the model, and what it says it has thrown -/
def jMt (b : Nat) (S : mS) (A : aSt) (t : Int) : Prop := ∃ T : gT, gH lM (b + 65) (S.2.1, S.1) T S.1 ∧ T.2.2 = S.2 ∧ rA T A ∧ vI T 0 0 = t
section J3
variable {sa : Nat → Nat} {b d : Nat} {S : mS} {A A9 : aSt} {x y : Int64} {n t : Int}
theorem j_type7 (hK : jK sa b S x) (hD : jD b S A9) (hM : jM b S A) (hn : okI n) :
    mCW (tP sa) b 1000 mX7_type [.ref (b + 65 + 0), .long y, .int (zI n)] S (fun r S1 => r = some (.int (zI (if aThr A.2.1 n = 0 then (A.2.1 : Int) + n else 0))) ∧ S1.2 = S.2 ∧ jK sa b S1 x ∧ jD b S1 A9 ∧ jMt b S1 (aTy A y n) (aThr A.2.1 n : Int)) := by
  obtain ⟨k1, k2, f, k3, k4⟩ := hK
  obtain ⟨T, hg, e, hA⟩ := hM
  have hb : b ≤ b + 65 := Nat.le_add_right _ _
  have h := r_type (sa := sa) (b := b + 65) (E := (S.2.1, S.1)) (d := 1000) (x := y) hn hA
  refine ⟨h.1, ?_⟩
  have h2 := (h.2 S.1 hg).base hb
  rw [e] at h2
  refine h2.mono (Nat.le_refl _) ?_
  rintro r S1 ⟨T1, ⟨g1, g2, g3, g4⟩, e1, rfl, e2, e3, hA1⟩
  have eS : S1.2 = S.2 := by rw [e1, e2]
  have := lM_len
  dsimp only at g2 g3
  have keep : ∀ a, a < b + 65 ∨ (b + 94 ≤ a ∧ a < S.2.1) → S1.1 a = S.1 a := fun a ha => g2 a (by omega)
  refine ⟨rfl, eS, ⟨k1.eq (fun y hy => keep y (by omega)), by rw [eS]; exact k2, f, k3, (keep _ (by omega)).trans k4⟩, ?_, ⟨T1, gH_all (sz := S1.2.1) (ns := S1.2.2) e1.symm g1 (by rw [eS]; omega), e1.symm, hA1, e3⟩⟩
  exact hD.keep (by omega) (by rw [eS]; exact Nat.le_refl _) (fun a h1 h2 => keep a (by omega))
theorem j_thrown7 (hK : jK sa b S x) (hD : jD b S A9) (hM : jMt b S A t) :
    mCW (tP sa) b 1000 mX7_thrown [.ref (b + 65 + 0)] S (fun r S1 => r = some (.int (zI t)) ∧ S1.2 = S.2 ∧ jK sa b S1 x ∧ jD b S1 A9 ∧ jM b S1 A) := by
  obtain ⟨k1, k2, f, k3, k4⟩ := hK
  obtain ⟨T, hg, e, hA, ht⟩ := hM
  have hb : b ≤ b + 65 := Nat.le_add_right _ _
  have h := r_thrown (sa := sa) (b := b + 65) (E := (S.2.1, S.1)) (d := 1000) (T := T)
  refine ⟨h.1, ?_⟩
  have h2 := (h.2 S.1 hg).base hb
  rw [e] at h2
  refine h2.mono (Nat.le_refl _) ?_
  rintro r S1 ⟨T1, ⟨g1, g2, g3, g4⟩, e1, rfl, rfl⟩
  have eS : S1.2 = S.2 := by rw [e1, e]
  have := lM_len
  dsimp only at g2 g3
  have keep : ∀ a, a < b + 65 ∨ (b + 94 ≤ a ∧ a < S.2.1) → S1.1 a = S.1 a := fun a ha => g2 a (by omega)
  refine ⟨by rw [ht], eS, ⟨k1.eq (fun y hy => keep y (by omega)), by rw [eS]; exact k2, f, k3, (keep _ (by omega)).trans k4⟩, ?_, ⟨_, gH_all (sz := S1.2.1) (ns := S1.2.2) e1.symm g1 (by rw [eS]; omega), e1.symm, hA⟩⟩
  exact hD.keep (by omega) (by rw [eS]; exact Nat.le_refl _) (fun a h1 h2 => keep a (by omega))
/-- the length of the text, in the desk's cell -/
theorem jD.size (h : jD b S A) : ∃ fs v1, S.1 (b + 0) = some (.inr (8, fs)) ∧ fs[1]? = some (.int v1) ∧ v1 = zI (A.2.1 : Int) ∧ A.2.1 ≤ 400 := by
  obtain ⟨T, hg, e, q, ⟨⟨t1, t2, t3⟩, _⟩⟩ := h
  refine ⟨_, T.1 0 1, hg.1 0 _ lD_0, ?_, (zI_v T 0 1).symm.trans (by rw [t2]), t3⟩
  exact mFs_get (f := 1) (c := 0) rfl
end J3
section O6
variable {p : Program} {l : Launch} {e : Env} {s : State} {m : MethodId} {below : List Frame} {meth : Method} {c : Code} {Q : State → Prop} {D : va_G} {bs Ls : Nat} {xs : Nat → Int32} {sa : Nat → Nat} {S S1 : mS} {L : mL} {st rest : List Value}
theorem goodT : GoodIn tTs (va_wsS (tN 8) 23 yL_type (wT :: tTs)) := by
  intro w hw
  unfold va_wsS at hw
  rcases List.mem_append.mp hw with h | h
  · rcases List.mem_cons.mp h with rfl | h
    · exact ⟨wT_l, tGood.1 _ wT_l⟩
    · rcases List.mem_cons.mp h with rfl | h
      · exact ⟨wT_s, tGood.1 _ wT_s⟩
      · obtain rfl := List.mem_singleton.mp h
        exact ⟨wT_i, tGood.1 _ wT_i⟩
  · exact mGoodIn tGood wT_in w h
/-- the call of the law's own type -/
theorem o_callT (C : oC p s m c bs Ls xs D sa) {as : List Value} {k : Int32} (hst : st = as.reverse ++ rest) (hn : as.length = 4) (hL : L.length = 7) (hw : mWide rest = true) (hm : S.2.1 ≤ S1.2.1 ∧ S.2.2 ≤ S1.2.2) (hR1 : oR s S1)
    (hM : Met l yL_type (wT :: tTs) (mRm 1001 (S1.2.1 - S.2.1) (S1.2.2 - S.2.2)) (va_Pc as (mPre D s.heap.size tNs (tRs sa) (tZs sa) S)) (mQc D s.heap.size (some (.int k)) S1) (S1.2.1 - S.2.1) (S1.2.2 - S.2.2) (fun q => s.heap.size ≤ q))
    (kk : oW p l e s m below meth c Q D bs 153 L (.int k :: rest) S1) : oW p l e s m below meth c Q D bs 150 L st S := by
  obtain ⟨hx, hb, hml, hown, hts, hk, hX, hbl⟩ := C
  intro ls H locs hls hsz hR hns hS
  have hle : s.heap.size ≤ S.2.1 := by rw [← hsz]; exact hS.1
  have cw := vx_cwSW (R := room_1) (s := s) (args := #[Value.ref bs]) (own := tN 8) (index := 23) (y := yL_type) (bytes := cL_type) (maxL := 6) (ret := some .int) (hh := hhT) (Ts := tTs) (ws := wT :: tTs) (ws' := tTs) (rm := mRm 1001 (S1.2.1 - S.2.1) (S1.2.2 - S.2.2)) (mc := S1.2.1 - S.2.1) (ms := S1.2.2 - S.2.2) 4 hts goodT rfl rfl rfl ⟨by decide, by decide, by decide +kernel⟩ ⟨Nat.le_of_ble_eq_true rfl, Nat.le_of_ble_eq_true rfl⟩
  have hp : PreS s H (va_Pc as (mPre D s.heap.size tNs (tRs sa) (tZs sa) S)) as := ⟨mPre_blind tGood _ S, mPre_at tGood hk (Nat.le_refl _) hsz hR hS _⟩
  have F : CallFix p m c code 7 s #[Value.ref bs] tTs (tN 8) := ⟨hx, hb, hml, hown, hts⟩
  have hw' : (rest.map fun v => v.category).sum ≤ 8 := by simpa [mWide] using hw
  have f1 : S.2.1 - s.heap.size + (S1.2.1 - S.2.1) ≤ room_1.cells := by
    have := hR1.1
    show _ ≤ 601024
    omega
  have f2 : S.2.2 - 0 + (S1.2.2 - S.2.2) ≤ room_1.slots := by
    have := hR1.2
    show _ ≤ 7293034
    omega
  exact mg_after (r1 := some (.int k)) (vx_runSW (g := F0 m 150 ls st) (rest := rest) F hM cw hp rfl hn (hls.1.trans hL) hst (lv_room hw') dL_150 ⟨f1, f2⟩) hls hS hsz hns hm kk
def xw (a c : Int32) : Int64 := (a.toInt64 <<< ((Int8.ofInt 32).toInt32.toInt64 &&& 63)) ||| (c.toInt64 &&& 4294967295)
/-- behind the law's own type: the model's, and what both have said -/
theorem o_ty2 (C : oC p s m c bs Ls xs D sa) (hL : Ls ≤ 2048) {A : aSt} {x1 : Int64} {i : Nat} {v5 v6 : Option Value} (hi : i + 3 < Ls) (hok : okA A) (hr : S1.2.1 - s.heap.size ≤ 601024 ∧ S1.2.2 ≤ 7293034)
    (hK : jK sa s.heap.size S1 x1) (hD : jD s.heap.size S1 (aTy A (xw (xs (i + 1)) (xs (i + 2))) (xs (i + 3)).toInt)) (hM : jM s.heap.size S1 A) (hx1 : aThr A.2.1 (xs (i + 3)).toInt = 0 → x1 = (zI ((A.2.1 : Int) + (xs (i + 3)).toInt)).toInt64)
    (k : ∀ S2 A2 x2 w5 w6, oI sa s.heap.size S2 A2 x2 → S2.2 = S1.2 → okL w5 → okL w6 → oW p l e s m below meth c Q D bs 613 (lwL bs s.heap.size i w5 w6) [] S2) : oW p l e s m below meth c Q D bs 153 (lwL bs s.heap.size i v5 v6) [.int (zI (aThr A.2.1 (xs (i + 3)).toInt : Int))] S1 := by
  have hR : oR s S1 := hr
  have ht3 : aThr A.2.1 (xs (i + 3)).toInt < 3 := by unfold aThr; split <;> (try split) <;> decide
  generalize hT : aThr A.2.1 (xs (i + 3)).toInt = t at hx1 ht3 ⊢
  refine o_pure C hR dL_153 (Or.inr rfl) (pc' := 155) (L' := lwL bs s.heap.size i (some (.int (zI (t : Int)))) v6) (st' := []) (fun S => rfl) ?_
  refine o_pure C hR dL_155 (Or.inr rfl) (fun S => rfl) ?_
  refine o_arg C hR (j := 1) dL_156 dL_157 dL_159 dL_160 dL_161 ⟨rfl, rfl, rfl, rfl, rfl⟩ (by omega) hL ?_
  refine o_pure C hR dL_162 (Or.inr rfl) (fun S => rfl) ?_
  refine o_pure C hR dL_163 (Or.inr rfl) (fun S => rfl) ?_
  refine o_pure C hR dL_165 (Or.inr rfl) (fun S => rfl) ?_
  refine o_arg C hR (j := 2) dL_166 dL_167 dL_169 dL_170 dL_171 ⟨rfl, rfl, rfl, rfl, rfl⟩ (by omega) hL ?_
  refine o_pure C hR dL_172 (Or.inr rfl) (fun S => rfl) ?_
  refine o_pure C hR dL_173 (Or.inr rfl) (fun S => rfl) ?_
  refine o_pure C hR dL_176 (Or.inr rfl) (fun S => rfl) ?_
  refine o_pure C hR dL_177 (Or.inr rfl) (pc' := 178) (L' := lwL bs s.heap.size i (some (.int (zI (t : Int)))) v6) (st' := [.long (xw (xs (i + 1)) (xs (i + 2))), .ref (s.heap.size + 65)]) (fun S => rfl) ?_
  refine o_arg C hR (j := 3) dL_178 dL_179 dL_181 dL_182 dL_183 ⟨rfl, rfl, rfl, rfl, rfl⟩ (by omega) hL ?_
  obtain ⟨fm, hfm⟩ := hM.cell
  have h7 := j_type7 (y := xw (xs (i + 1)) (xs (i + 2))) hK hD hM (okX (xs (i + 3)))
  rw [zI_t, hT] at h7
  refine o_call C (kd := 0) (as := [.ref (s.heap.size + 65 + 0), .long (xw (xs (i + 1)) (xs (i + 2))), .int (xs (i + 3))]) (rest := []) dL_184 tG_8_28 tM_169 rfl rfl (may_V (a := s.heap.size + 65 + 0) (r := [.long (xw (xs (i + 1)) (xs (i + 2))), .int (xs (i + 3))]) (fs := fm) (rest := []) rfl rfl rfl (Nat.le_of_ble_eq_true rfl) (Nat.le_of_ble_eq_true rfl) hfm) h7 (by decide) (by decide) (fun r S2 h => ?_)
  obtain ⟨rfl, e2, k2, d2, m2⟩ := h
  have hR2 : oR s S2 := by unfold oR; rw [e2]; exact hr
  refine ⟨hR2, ?_⟩
  generalize hW : (if t = 0 then (A.2.1 : Int) + (xs (i + 3)).toInt else 0) = w
  refine o_pure C hR2 dL_187 (Or.inr rfl) (pc' := 189) (L' := lwL bs s.heap.size i (some (.int (zI (t : Int)))) (some (.int (zI w)))) (st' := []) (fun S => rfl) ?_
  refine o_pure C hR2 dL_189 (Or.inr rfl) (fun S => rfl) ?_
  obtain ⟨fm2, hfm2⟩ : ∃ fs, S2.1 (s.heap.size + 65 + 0) = some (.inr (9, fs)) := by
    obtain ⟨T, hg, _⟩ := m2
    exact ⟨_, hg.1 0 _ lM_0⟩
  refine o_call C (kd := 0) (as := [.ref (s.heap.size + 65 + 0)]) (rest := []) dL_190 tG_8_29 tM_111 rfl rfl (may_V (a := s.heap.size + 65 + 0) (r := []) (fs := fm2) (rest := []) rfl rfl rfl (Nat.le_of_ble_eq_true rfl) (Nat.le_of_ble_eq_true rfl) hfm2) (j_thrown7 k2 d2 m2) (by decide) (by decide) (fun r S3 h => ?_)
  obtain ⟨rfl, e3, k3, d3, m3⟩ := h
  have hR3 : oR s S3 := by unfold oR; rw [e3, e2]; exact hr
  refine ⟨hR3, ?_⟩
  have fin : oW p l e s m below meth c Q D bs 217 (lwL bs s.heap.size i (some (.int (zI (t : Int)))) (some (.int (zI w)))) [] S3 := by
    refine o_pure C hR3 dL_217 (Or.inr rfl) (pc' := 613) (L' := lwL bs s.heap.size i (some (.int (zI (t : Int)))) (some (.int (zI w)))) (st' := []) (fun S => rfl) ?_
    exact k S3 _ x1 _ _ ⟨okA_ty hok, k3, d3, m3⟩ (e3.trans e2) (Or.inr ⟨_, rfl⟩) (Or.inr ⟨_, rfl⟩)
  refine o_pure C hR3 dL_193 (Or.inr rfl) (pc' := 195) (L' := lwL bs s.heap.size i (some (.int (zI (t : Int)))) (some (.int (zI w)))) (st' := [.int (zI (t : Int)), .int (zI (t : Int))]) (fun S => rfl) ?_
  refine o_pure C hR3 dL_195 (Or.inr rfl) (pc' := 200) (L' := lwL bs s.heap.size i (some (.int (zI (t : Int)))) (some (.int (zI w)))) (st' := []) (fun S => ?_) ?_
  · simp only [mStep, show mTg 195 5 = some 200 from rfl, mCmp, decide_true, if_true]
  refine o_pure C hR3 dL_200 (Or.inr rfl) (fun S => rfl) ?_
  by_cases h0 : t = 0
  · have hw : w = (A.2.1 : Int) + (xs (i + 3)).toInt := by rw [← hW, if_pos h0]
    refine o_pure C hR3 dL_202 (Or.inr rfl) (pc' := 205) (L' := lwL bs s.heap.size i (some (.int (zI (t : Int)))) (some (.int (zI w)))) (st' := []) (fun S => ?_) ?_
    · rw [h0]
      rfl
    refine o_pure C hR3 dL_205 (Or.inr rfl) (fun S => rfl) ?_
    refine o_pure C hR3 dL_206 (Or.inr rfl) (pc' := 207) (L' := lwL bs s.heap.size i (some (.int (zI (t : Int)))) (some (.int (zI w)))) (st' := [.int 0, .ref (s.heap.size + 94)]) (fun S => rfl) ?_
    obtain ⟨-, -, f, hf0, hf⟩ := id k3
    refine o_step C dL_207 (Or.inr rfl) (nx := (208, lwL bs s.heap.size i (some (.int (zI (t : Int)))) (some (.int (zI w))), [.long x1], S3)) ?_ hR3 ?_
    · show mAld .laload 207 _ [.int 0, .ref (s.heap.size + 94)] S3 = _
      unfold mAld
      dsimp only
      rw [hf]
      dsimp only
      rw [← hf0]
      rfl
    refine o_pure C hR3 dL_208 (Or.inr rfl) (fun S => rfl) ?_
    refine o_pure C hR3 dL_210 (Or.inr rfl) (pc' := 211) (L' := lwL bs s.heap.size i (some (.int (zI (t : Int)))) (some (.int (zI w)))) (st' := [.long (zI w).toInt64, .long x1]) (fun S => rfl) ?_
    rw [hx1 h0, ← hw]
    refine o_pure C hR3 dL_211 (Or.inr rfl) (pc' := 212) (L' := lwL bs s.heap.size i (some (.int (zI (t : Int)))) (some (.int (zI w)))) (st' := [.int (lg_cmp (zI w).toInt64 (zI w).toInt64)]) (fun S => rfl) ?_
    rw [cmp_self]
    refine o_pure C hR3 dL_212 (Or.inr rfl) (pc' := 217) (L' := lwL bs s.heap.size i (some (.int (zI (t : Int)))) (some (.int (zI w)))) (st' := []) (fun S => rfl) fin
  · refine o_pure C hR3 dL_202 (Or.inr rfl) (pc' := 217) (L' := lwL bs s.heap.size i (some (.int (zI (t : Int)))) (some (.int (zI w)))) (st' := []) (fun S => ?_) fin
    have hne : ¬ zI (t : Int) = 0 := by
      rw [show (0 : Int32) = zI 0 from rfl, zI_eq (by omega) (by omega)]
      omega
    simp only [mStep, show mTg 202 15 = some 217 from rfl, mCmp, hne, decide_false, Bool.not_false, if_true]
set_option maxHeartbeats 4000000 in
theorem o_ty (C : oC p s m c bs Ls xs D sa) (hl : l.stackTraces = false) (hL : Ls ≤ 2048) : oTy p l e s m below meth c Q D bs Ls sa := by
  intro S A x i v5 v6 hI hr hi h5 h6 k
  obtain ⟨hok, hK, hD, hM⟩ := hI
  have hR : oR s S := ⟨by omega, by omega⟩
  refine o_pure C hR dL_120 (Or.inr rfl) (fun S => rfl) ?_
  refine o_arg C hR (j := 1) dL_121 dL_122 dL_124 dL_125 dL_126 ⟨rfl, rfl, rfl, rfl, rfl⟩ (by omega) hL ?_
  refine o_pure C hR dL_127 (Or.inr rfl) (fun S => rfl) ?_
  refine o_pure C hR dL_128 (Or.inr rfl) (fun S => rfl) ?_
  refine o_pure C hR dL_130 (Or.inr rfl) (fun S => rfl) ?_
  refine o_arg C hR (j := 2) dL_131 dL_132 dL_134 dL_135 dL_136 ⟨rfl, rfl, rfl, rfl, rfl⟩ (by omega) hL ?_
  refine o_pure C hR dL_137 (Or.inr rfl) (fun S => rfl) ?_
  refine o_pure C hR dL_138 (Or.inr rfl) (fun S => rfl) ?_
  refine o_pure C hR dL_141 (Or.inr rfl) (fun S => rfl) ?_
  refine o_pure C hR dL_142 (Or.inr rfl) (pc' := 143) (L' := lwL bs s.heap.size i v5 v6) (st' := [.long (xw (xs (i + 1)) (xs (i + 2))), .ref s.heap.size]) (fun S => rfl) ?_
  refine o_arg C hR (j := 3) dL_143 dL_144 dL_146 dL_147 dL_148 ⟨rfl, rfl, rfl, rfl, rfl⟩ (by omega) hL ?_
  refine o_pure C hR dL_149 (Or.inr rfl) (pc' := 150) (L' := lwL bs s.heap.size i v5 v6) (st' := ([.ref (s.heap.size + 0), .long (xw (xs (i + 1)) (xs (i + 2))), .int (xs (i + 3)), .ref (s.heap.size + 94)] : List Value).reverse ++ []) (fun S => rfl) ?_
  have next : ∀ (S1 : mS) (x1 : Int64), S1.2.1 ≤ S.2.1 + 1 ∧ S1.2.2 ≤ S.2.2 + 6 → jK sa s.heap.size S1 x1 → jD s.heap.size S1 (aTy A (xw (xs (i + 1)) (xs (i + 2))) (xs (i + 3)).toInt) → jM s.heap.size S1 A → (aThr A.2.1 (xs (i + 3)).toInt = 0 → x1 = (zI ((A.2.1 : Int) + (xs (i + 3)).toInt)).toInt64) → oW p l e s m below meth c Q D bs 153 (lwL bs s.heap.size i v5 v6) [.int (zI (aThr A.2.1 (xs (i + 3)).toInt : Int))] S1 := fun S1 x1 hb1 hK1 hD1 hM1 hx1 =>
    o_ty2 C hL hi hok ⟨by omega, by omega⟩ hK1 hD1 hM1 hx1 (fun S2 A2 x2 w5 w6 hI2 e2 q5 q6 => k S2 A2 x2 w5 w6 hI2 ⟨by rw [e2]; omega, by rw [e2]; omega⟩ q5 q6)
  obtain ⟨fs, v1, hc0, hf, hv1, hm4⟩ := hD.size
  obtain ⟨hC, hsz95, f, hf0, hfo⟩ := id hK
  have hn := okX (xs (i + 3))
  by_cases h0 : aThr A.2.1 (xs (i + 3)).toInt = 0
  · have hrun := j_cls (d := 1000) (M := mX6_type) (as := [.ref (s.heap.size + 0), .long (xw (xs (i + 1)) (xs (i + 2))), .int (zI (xs (i + 3)).toInt)]) hK hD hM (fun E T _ _ _ h => s_type (x := xw (xs (i + 1)) (xs (i + 2))) h h0)
    rw [zI_t] at hrun
    obtain ⟨hal, nn, r, S2, hex, hr2, eS, k2, d2, m2⟩ := hrun
    obtain ⟨kC, kz, f2, hf2, hfo2⟩ := id k2
    have up : ∀ q, q ≠ s.heap.size + 94 → mUp S2.1 (s.heap.size + 94) (.inl (.long, 1, .inr (.inl (vp_updL f2 0 (zI ((A.2.1 : Int) + (xs (i + 3)).toInt)).toInt64)))) q = S2.1 q := fun q hq => mUp_ne _ _ hq
    refine o_callT C (S1 := (mUp S2.1 (s.heap.size + 94) (.inl (.long, 1, .inr (.inl (vp_updL f2 0 (zI ((A.2.1 : Int) + (xs (i + 3)).toInt)).toInt64)))), S2.2)) (k := 0) rfl rfl rfl rfl ⟨by rw [eS]; exact Nat.le_refl _, by rw [eS]; exact Nat.le_refl _⟩ (by unfold oR; rw [eS]; exact hR) (t_lawN (fs := fs) hc0 ⟨hal, nn, r, S2, hex, hr2, rfl⟩ eS hfo2 (Nat.le_add_right _ _) rfl) ?_
    have := next _ _ ⟨by show S2.2.1 ≤ _; rw [eS]; exact Nat.le_succ _, by show S2.2.2 ≤ _; rw [eS]; exact Nat.le_add_right _ _⟩ (⟨kC.eq (fun q hq => up q (by omega)), kz, _, if_pos rfl, mUp_self _ _ _⟩ : jK sa s.heap.size (mUp S2.1 (s.heap.size + 94) (.inl (.long, 1, .inr (.inl (vp_updL f2 0 (zI ((A.2.1 : Int) + (xs (i + 3)).toInt)).toInt64)))), S2.2) (zI ((A.2.1 : Int) + (xs (i + 3)).toInt)).toInt64) (d2.keep (by omega) (Nat.le_refl _) (fun a _ h2 => up a (by omega))) (m2.keep (by omega) (Nat.le_refl _) (fun a _ h2 => up a (by omega))) (fun _ => rfl)
    rw [h0] at this
    exact this
  · have hA : aTy A (xw (xs (i + 1)) (xs (i + 2))) (xs (i + 3)).toInt = A := by unfold aTy; rw [if_neg h0]
    rw [hA] at next
    have go : ∀ (k9 : Int32) (E9 : String), (E9 = eI ∧ k9 = 1 ∧ (xs (i + 3) < 0 ∨ 8 < xs (i + 3))) ∨ (E9 = eU ∧ k9 = 2 ∧ ¬ xs (i + 3) < 0 ∧ ¬ 8 < xs (i + 3) ∧ 400 < v1 + xs (i + 3)) → k9 = zI (aThr A.2.1 (xs (i + 3)).toInt : Int) → oW p l e s m below meth c Q D bs 150 (lwL bs s.heap.size i v5 v6) (([.ref (s.heap.size + 0), .long (xw (xs (i + 1)) (xs (i + 2))), .int (xs (i + 3)), .ref (s.heap.size + 94)] : List Value).reverse ++ []) S := by
      intro k9 E9 hcase hk9
      refine o_callT C (S1 := (S.1, S.2.1 + 1, S.2.2 + 6)) (k := k9) rfl rfl rfl rfl ⟨Nat.le_succ _, Nat.le_add_right _ _⟩ ⟨by show S.2.1 + 1 - s.heap.size ≤ 601024; omega, by show S.2.2 + 6 ≤ 7293034; omega⟩ (t_lawX hl hc0 hf hcase rfl) ?_
      rw [hk9]
      exact next (S.1, S.2.1 + 1, S.2.2 + 6) x ⟨Nat.le_refl _, Nat.le_refl _⟩ ⟨hC, by show s.heap.size + 95 ≤ S.2.1 + 1; omega, f, hf0, hfo⟩ (hD.keep (by omega) (Nat.le_succ _) (fun _ _ _ => rfl)) (hM.keep (by omega) (Nat.le_succ _) (fun _ _ _ => rfl)) (fun z => absurd z h0)
    have z0 : xs (i + 3) < 0 ↔ (xs (i + 3)).toInt < 0 := by rw [Int32.lt_iff_toInt_lt]; exact Iff.rfl
    have z8 : 8 < xs (i + 3) ↔ 8 < (xs (i + 3)).toInt := by rw [Int32.lt_iff_toInt_lt]; exact Iff.rfl
    by_cases h1 : (xs (i + 3)).toInt < 0 ∨ 8 < (xs (i + 3)).toInt
    · refine go 1 eI (Or.inl ⟨rfl, rfl, ?_⟩) ?_
      · rw [z0, z8]; exact h1
      · unfold aThr; rw [if_pos h1]; rfl
    · have h4 : 400 < (A.2.1 : Int) + (xs (i + 3)).toInt := by
        unfold aThr at h0
        rw [if_neg h1] at h0
        by_cases z : 400 < (A.2.1 : Int) + (xs (i + 3)).toInt
        · exact z
        · rw [if_neg z] at h0; exact absurd rfl h0
      refine go 2 eU (Or.inr ⟨rfl, rfl, ?_, ?_, ?_⟩) ?_
      · rw [z0]; exact fun z => h1 (Or.inl z)
      · rw [z8]; exact fun z => h1 (Or.inr z)
      · have hv : v1 + xs (i + 3) = zI ((A.2.1 : Int) + (xs (i + 3)).toInt) := by
          rw [hv1, ← zI_add, zI_t]
        rw [hv, show (400 : Int32) = zI 400 from rfl, zI_lt (by omega) (by omega)]
        exact h4
      · unfold aThr; rw [if_neg h1, if_pos h4]; rfl
end O6
