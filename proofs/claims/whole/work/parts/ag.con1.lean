/-! CONSTRUCTORS: the cells that they make, as a list from n on -/
def hL (h : mH) (n : Nat) (cs : List mC) : mH := fun a => if n ≤ a ∧ a < n + cs.length then cs[a - n]? else h a
theorem hL_get {h : mH} {n : Nat} {cs : List mC} {i : Nat} (hi : i < cs.length) : hL h n cs (n + i) = cs[i]? := by
  unfold hL
  rw [if_pos ⟨by omega, by omega⟩, show n + i - n = i by omega]
theorem hL_push {h : mH} {n : Nat} {cs : List mC} {c : mC} : mUp (hL h n cs) (n + cs.length) c = hL h n (cs ++ [c]) := by
  funext a
  unfold mUp hL
  rw [List.length_append, List.length_singleton]
  by_cases e : a = n + cs.length
  · rw [if_pos e, if_pos ⟨by omega, by omega⟩, e, show n + cs.length - n = cs.length by omega, List.getElem?_append_right (Nat.le_refl _), Nat.sub_self]
    rfl
  · rw [if_neg e]
    by_cases e2 : n ≤ a ∧ a < n + cs.length
    · rw [if_pos e2, if_pos ⟨e2.1, by omega⟩, List.getElem?_append_left (by omega)]
    · rw [if_neg e2, if_neg (fun z => e2 ⟨z.1, by omega⟩)]
theorem hL_set {h : mH} {n : Nat} {cs : List mC} {i : Nat} {c : mC} (hi : i < cs.length) : mUp (hL h n cs) (n + i) c = hL h n (cs.set i c) := by
  funext a
  unfold mUp hL
  rw [List.length_set]
  by_cases e : a = n + i
  · rw [if_pos e, if_pos ⟨by omega, by omega⟩, e, show n + i - n = i by omega, List.getElem?_set_self hi]
  · rw [if_neg e]
    by_cases e2 : n ≤ a ∧ a < n + cs.length
    · rw [if_pos e2, if_pos e2, List.getElem?_set_ne (by omega)]
    · rw [if_neg e2, if_neg e2]
theorem hL_multi {h : mH} {n : Nat} {cs : List mC} {N K : Nat} : mMul (hL h n cs) (n + cs.length) N K = hL h n (cs ++ (.inl (.array .int, N, .inr (.inr (.inr (.inr (fun i => if i < N then some (n + cs.length + 1 + i) else none))))) :: List.replicate N (.inl (.int, K, .inl (fun _ => 0))))) := by
  funext a
  unfold mMul hL
  rw [List.length_append, List.length_cons, List.length_replicate]
  by_cases e : a = n + cs.length
  · rw [if_pos e, if_pos ⟨by omega, by omega⟩, e, show n + cs.length - n = cs.length by omega, List.getElem?_append_right (Nat.le_refl _), Nat.sub_self]
    rfl
  · rw [if_neg e]
    by_cases e1 : n + cs.length < a ∧ a < n + cs.length + 1 + N
    · rw [if_pos e1, if_pos ⟨by omega, by omega⟩, List.getElem?_append_right (by omega)]
      obtain ⟨j, hj⟩ : ∃ j, a - n - cs.length = j + 1 := ⟨a - n - cs.length - 1, by omega⟩
      rw [hj, List.getElem?_cons_succ, List.getElem?_replicate, if_pos (by omega)]
    · rw [if_neg e1]
      by_cases e2 : n ≤ a ∧ a < n + cs.length
      · rw [if_pos e2, if_pos ⟨e2.1, by omega⟩, List.getElem?_append_left (by omega)]
      · rw [if_neg e2, if_neg (fun z => by omega)]
/-- from here the machine comes to an end, with Q of the answer, the cells and the slots -/
def kW (P : mP) (b : Nat) (h : mH) (n d : Nat) (M : mM) (pc : Nat) (L : mL) (st : List Value) (cs : List mC) (sl : Nat) (Q : Option Value → List mC → Nat → Prop) : Prop := mW P b d M pc L st (hL h n cs, n + cs.length, sl) (fun r S' => ∃ (cs' : List mC) (sl' : Nat), S' = (hL h n cs', n + cs'.length, sl') ∧ Q r cs' sl')
/-- the cells within a constructor: its own at i, the new ones behind -/
def kL (cs : List mC) (i ci : Nat) (fs : List Value) (app : List mC) : List mC := cs.set i (.inr (ci, fs)) ++ app
theorem kL_len {cs : List mC} {i ci : Nat} {fs : List Value} {app : List mC} : (kL cs i ci fs app).length = cs.length + app.length := by unfold kL; rw [List.length_append, List.length_set]
theorem kL_get {cs : List mC} {i ci : Nat} {fs : List Value} {app : List mC} (hi : i < cs.length) : (kL cs i ci fs app)[i]? = some (.inr (ci, fs)) := by
  unfold kL; rw [List.getElem?_append_left (by rw [List.length_set]; exact hi), List.getElem?_set_self hi]
theorem kL_set {cs : List mC} {i ci : Nat} {fs fs' : List Value} {app : List mC} (hi : i < cs.length) : (kL cs i ci fs app).set i (.inr (ci, fs')) = kL cs i ci fs' app := by
  unfold kL; rw [List.set_append_left _ _ (by rw [List.length_set]; exact hi), List.set_set]
theorem kL_push {cs : List mC} {i ci : Nat} {fs : List Value} {app : List mC} {c : List mC} : kL cs i ci fs app ++ c = kL cs i ci fs (app ++ c) := by unfold kL; rw [List.append_assoc]
theorem kL_own {cs : List mC} {i ci : Nat} {fs : List Value} (h : cs[i]? = some (.inr (ci, fs))) : kL cs i ci fs [] = cs := by
  unfold kL; rw [List.append_nil]
  obtain ⟨hi, e⟩ := List.getElem?_eq_some_iff.mp h
  rw [← e, List.set_getElem_self]
/-- a field that takes references -/
def putOk (ci f : Nat) : Bool := match mFt ci f with
  | some (.array _, _) => true
  | some (.object _, _) => true
  | _ => false
/-- a constructor's contract -/
def kCon (P : mP) (b d : Nat) (M : mM) (ci : Nat) (born : List Value) (F : Nat → Nat → List Value) (A : Nat → Nat → List mC) (ks : Nat) : Prop := ∀ (h : mH) (n : Nat) (cs : List mC) (i sl : Nat) (Q : Option Value → List mC → Nat → Prop), b ≤ n → i < cs.length → cs[i]? = some (.inr (ci, born)) → Q none (kL cs i ci (F n cs.length) (A n cs.length)) (sl + ks) → kW P b h n d M 0 (mEn [.ref (n + i)] (mMax M)) [] cs sl Q
section KW
variable {P : mP} {b : Nat} {h : mH} {n d : Nat} {M : mM} {pc : Nat} {L : mL} {st : List Value} {cs : List mC} {sl i ci : Nat} {fs : List Value} {app : List mC} {Q : Option Value → List mC → Nat → Prop}
theorem k_step {ins : Instr} {len pc' : Nat} {L' : mL} {st' : List Value} (hd : decode (mCode M) pc = .ok (ins, len)) (hl : mLen ins = 0 ∨ mLen ins = len) (hs : ∀ S : mS, mStep P b M ins pc L st S = some (pc', L', st', S)) (k : kW P b h n d M pc' L' st' cs sl Q) : kW P b h n d M pc L st cs sl Q := mw_step hd hl (hs _) k
theorem k_ret {r : Option Value} {ins : Instr} {len : Nat} (hd : decode (mCode M) pc = .ok (ins, len)) (hl : mLen ins = 0 ∨ mLen ins = len) (hr : mIsRet M ins r) (hst : st = r.toList) (hq : Q r cs sl) : kW P b h n d M pc L st cs sl Q := mw_ret hd hl hr hst ⟨cs, sl, rfl, hq⟩
theorem k_obj0 {k9 : Nat} {a : Nat} (hd : decode (mCode M) pc = .ok (.invokespecial k9, 3)) (hc : P.2.2.1 (mTag M) k9 = some (2, .inr 0)) (hL : L.length = mMax M) (hw : mWide st = true) (k : kW P b h n (d + 1) M (pc + 3) L st cs sl Q) : kW P b h n (d + 1) M pc L (.ref a :: st) cs sl Q := mw_prim (kd := 2) hd rfl hc hL rfl hw k
theorem k_newa {t : ArrayType} {ty : FieldType} {z : Nat → vp_A} {v : Int32} {N : Nat} (hd : decode (mCode M) pc = .ok (.newarray t, 2)) (hz : mZero t = some (ty, z)) (hv : v.toNatClampNeg = N) (hn : ¬ (v < 0 ∨ 60000 < v.toNatClampNeg)) (k : kW P b h n d M (pc + 2) L (.ref (n + (cs.length + app.length)) :: st) (kL cs i ci fs (app ++ [.inl (ty, z N)])) (sl + N) Q) : kW P b h n d M pc L (.int v :: st) (kL cs i ci fs app) sl Q := by
  refine mw_step hd (Or.inr rfl) (nx := (pc + 2, L, .ref (n + (kL cs i ci fs app).length) :: st, (mUp (hL h n (kL cs i ci fs app)) (n + (kL cs i ci fs app).length) (.inl (ty, z N)), n + (kL cs i ci fs app).length + 1, sl + N))) ?_ ?_
  · simp only [mStep, hz]
    rw [if_neg hn, hv]
  · rw [hL_push, kL_push, kL_len]
    have e : n + (cs.length + app.length) + 1 = n + (kL cs i ci fs (app ++ [.inl (ty, z N)])).length := by rw [kL_len, List.length_append]; show _ = n + (cs.length + (app.length + 1)); omega
    rw [e]
    exact k
theorem k_new {k9 cj : Nat} {born : List Value} (hd : decode (mCode M) pc = .ok (.new k9, 3)) (hC : P.2.1 (mTag M) k9 = some cj) (hB : mBorn cj = some born) (k : kW P b h n d M (pc + 3) L (.ref (n + (cs.length + app.length)) :: st) (kL cs i ci fs (app ++ [.inr (cj, born)])) (sl + born.length) Q) : kW P b h n d M pc L st (kL cs i ci fs app) sl Q := by
  refine mw_step hd (Or.inr rfl) (nx := (pc + 3, L, .ref (n + (kL cs i ci fs app).length) :: st, (mUp (hL h n (kL cs i ci fs app)) (n + (kL cs i ci fs app).length) (.inr (cj, born)), n + (kL cs i ci fs app).length + 1, sl + born.length))) ?_ ?_
  · simp only [mStep, hC, hB]
  · rw [hL_push, kL_push, kL_len]
    have e : n + (cs.length + app.length) + 1 = n + (kL cs i ci fs (app ++ [.inr (cj, born)])).length := by rw [kL_len, List.length_append]; show _ = n + (cs.length + (app.length + 1)); omega
    rw [e]
    exact k
theorem k_multi {v w : Int32} {N K : Nat} (ht : mTag M = 3) (hd : decode (mCode M) pc = .ok (.multianewarray 45 2, 4)) (hv : v.toNatClampNeg = N) (hw : w.toNatClampNeg = K) (h1 : ¬ v < 0) (h2 : ¬ w < 0) (h3 : N ≤ 1000) (h4 : K ≤ 60000) (k : kW P b h n d M (pc + 4) L (.ref (n + (cs.length + app.length)) :: st) (kL cs i ci fs (app ++ (.inl (.array .int, N, .inr (.inr (.inr (.inr (fun j => if j < N then some (n + (cs.length + app.length) + 1 + j) else none))))) :: List.replicate N (.inl (.int, K, .inl (fun _ => 0)))))) (sl + N + N * K) Q) : kW P b h n d M pc L (.int w :: .int v :: st) (kL cs i ci fs app) sl Q := by
  refine mw_step hd (Or.inr rfl) (nx := (pc + 4, L, .ref (n + (kL cs i ci fs app).length) :: st, (mMul (hL h n (kL cs i ci fs app)) (n + (kL cs i ci fs app).length) N K, n + (kL cs i ci fs app).length + 1 + N, sl + N + N * K))) ?_ ?_
  · simp only [mStep]
    rw [if_pos ⟨ht, trivial, trivial, h1, h2, by omega, by omega⟩, hv, hw]
  · rw [hL_multi, kL_push, kL_len]
    have e : n + (cs.length + app.length) + 1 + N = n + (kL cs i ci fs (app ++ (.inl (.array .int, N, .inr (.inr (.inr (.inr (fun j => if j < N then some (n + (cs.length + app.length) + 1 + j) else none))))) :: List.replicate N (.inl (.int, K, .inl (fun _ => 0)))))).length := by rw [kL_len, List.length_append, List.length_cons, List.length_replicate]; omega
    rw [e]
    exact k
/-- a reference goes into a field of the constructor's own cell -/
theorem k_put {k9 f a : Nat} (hi : i < cs.length) (hb : b ≤ n) (hd : decode (mCode M) pc = .ok (.putfield k9, 3)) (hF : P.1 (mTag M) k9 = some (ci, f)) (hft : putOk ci f = true) (hf : f < fs.length) (hini : mIni M = true ∧ mCi M = ci) (k : kW P b h n d M (pc + 3) L st (kL cs i ci (fs.set f (.ref a)) app) sl Q) : kW P b h n d M pc L (.ref a :: .ref (n + i) :: st) (kL cs i ci fs app) sl Q := by
  have hlt : i < (kL cs i ci fs app).length := by rw [kL_len]; omega
  obtain ⟨ty, fin, hm, hna⟩ : ∃ ty fin, mFt ci f = some (ty, fin) ∧ (narrow ty (.ref a) = .ref a ∧ fits ty (.ref a) = true) := by
    unfold putOk at hft
    split at hft
    · rename_i t fin e; exact ⟨_, _, e, rfl, rfl⟩
    · rename_i t fin e; exact ⟨_, _, e, rfl, rfl⟩
    · cases hft
  refine mw_step hd (Or.inr rfl) (nx := (pc + 3, L, st, (mUp (hL h n (kL cs i ci fs app)) (n + i) (.inr (ci, fs.set f (.ref a))), n + (kL cs i ci fs app).length, sl))) ?_ ?_
  · have hg : hL h n (kL cs i ci fs app) (n + i) = some (.inr (ci, fs)) := (hL_get hlt).trans (kL_get hi)
    simp only [mStep, hF, hg, hm]
    rw [if_pos ⟨trivial, by omega, hf, hna.1, hna.2, fun _ => hini⟩]
  · rw [hL_set hlt, kL_set hi]
    have e : n + (kL cs i ci fs app).length = n + (kL cs i ci (fs.set f (.ref a)) app).length := by rw [kL_len, kL_len]
    rw [e]
    exact k
/-- a constructor calls another, on the cell that it made last -/
theorem k_con {k9 q d' cj ks : Nat} {M' : mM} {born : List Value} {F : Nat → Nat → List Value} {A : Nat → Nat → List mC} (hK : kCon P b d' M' cj born F A ks) (hdd : d' ≤ d) (hb : b ≤ n) (hd : decode (mCode M) pc = .ok (.invokespecial k9, 3)) (hc : P.2.2.1 (mTag M) k9 = some (2, .inl q)) (hm : P.2.2.2.2.2 q = some M') (hna : mNa M' = 1) (hmx : mMax M' = 1) (hL : L.length = mMax M) (hw : mWide st = true)
    (k : kW P b h n (d + 1) M (pc + 3) L st (kL cs i ci fs (app ++ (.inr (cj, F n (cs.length + (app.length + 1))) :: A n (cs.length + (app.length + 1))))) (sl + ks) Q) : kW P b h n (d + 1) M pc L (.ref (n + (cs.length + app.length)) :: st) (kL cs i ci fs (app ++ [.inr (cj, born)])) sl Q := by
  have len1 : (kL cs i ci fs (app ++ [.inr (cj, born)])).length = cs.length + (app.length + 1) := by rw [kL_len, List.length_append]; rfl
  have own : (kL cs i ci fs (app ++ [.inr (cj, born)]))[cs.length + app.length]? = some (.inr (cj, born)) := by
    rw [← kL_push, List.getElem?_append_right (by rw [kL_len]; exact Nat.le_refl _), kL_len, Nat.sub_self]; rfl
  refine mw_call (kd := 2) hd rfl hc hm ?_ ?_
  · unfold mMay
    rw [hna, hmx]
    simp only [Bool.and_eq_true, decide_eq_true_eq, Bool.or_eq_true, beq_iff_eq]
    exact ⟨⟨⟨⟨⟨by simp, hL⟩, hw⟩, by simp [mArg, Value.category]⟩, by decide⟩, Or.inr rfl⟩
  · rw [hna]
    have hrun := hK h n (kL cs i ci fs (app ++ [.inr (cj, born)])) (cs.length + app.length) sl (fun r cs' sl' => r = none ∧ cs' = kL cs i ci fs (app ++ (.inr (cj, F n (cs.length + (app.length + 1))) :: A n (cs.length + (app.length + 1)))) ∧ sl' = sl + ks) hb (by rw [len1]; omega) own ?_
    · refine hrun.mono hdd ?_
      rintro _ _ ⟨cs', sl', rfl, rfl, rfl, rfl⟩
      exact k
    · refine ⟨rfl, ?_, rfl⟩
      rw [len1]
      have : kL (kL cs i ci fs (app ++ [.inr (cj, born)])) (cs.length + app.length) cj (F n (cs.length + (app.length + 1))) (A n (cs.length + (app.length + 1))) = kL cs i ci fs (app ++ (.inr (cj, F n (cs.length + (app.length + 1))) :: A n (cs.length + (app.length + 1)))) := by
        rw [← kL_push (c := [.inr (cj, born)])]
        show (kL cs i ci fs app ++ [_]).set _ _ ++ _ = _
        rw [List.set_append_right _ _ (by rw [kL_len]; exact Nat.le_refl _), kL_len, Nat.sub_self, List.append_assoc, kL_push]
        rfl
      exact this
end KW
