/-! THE LAW'S OWN FRAME -/
def M_L : mM := (8, code, 7, some .boolean, 1, false, 99)
/-- what is known in it -/
def oC (p : Program) (s : State) (m : MethodId) (c : Code) (bs Ls : Nat) (xs : Nat → Int32) (D : va_G) (sa : Nat → Nat) : Prop := p.tables.exec = Jvm.exec ∧ c.code = code ∧ c.maxLocals = 7 ∧ s.vm.findClass (tN 8) = some m.cls ∧ (∀ w ∈ tTs, w.before #[Value.ref bs] s = true) ∧ mKn D s.heap.size tNs (tRs sa) (tZs sa) s s.heap ∧ va_X bs Ls xs s s.heap ∧ bs < s.heap.size
def oR (s : State) (S : mS) : Prop := S.2.1 - s.heap.size ≤ 601024 ∧ S.2.2 ≤ 7293034
abbrev oW (p : Program) (l : Launch) (e : Env) (s : State) (m : MethodId) (below : List Frame) (meth : Method) (c : Code) (Q : State → Prop) (D : va_G) (bs : Nat) (pc : Nat) (L : mL) (st : List Value) (S : mS) : Prop := mOK p l e room_1 s m #[Value.ref bs] below meth c Q D s.heap.size 0 pc L st S
section OW
variable {p : Program} {l : Launch} {e : Env} {s : State} {m : MethodId} {below : List Frame} {meth : Method} {c : Code} {Q : State → Prop} {D : va_G} {bs Ls : Nat} {xs : Nat → Int32} {sa : Nat → Nat} {pc : Nat} {L : mL} {st : List Value} {S : mS}
theorem o_step (C : oC p s m c bs Ls xs D sa) {i : Instr} {len : Nat} {nx : Nat × mL × List Value × mS} (hd : decode code pc = .ok (i, len)) (hl : mLen i = 0 ∨ mLen i = len) (hs : mStep (tP sa) s.heap.size M_L i pc L st S = some nx) (hr : oR s nx.2.2.2) (k : oW p l e s m below meth c Q D bs nx.1 nx.2.1 nx.2.2.1 nx.2.2.2) : oW p l e s m below meth c Q D bs pc L st S := by
  obtain ⟨hx, hb, hml, hown, hts, hk, hX, hbl⟩ := C
  exact mStep_ok (P := tP sa) (M := M_L) (tn := tN) hx hb hown hts hk (tPok sa) (Nat.le_refl _) (fun h => by cases h) (fun q hq => by cases hq) hd hl hs ⟨hr.1, by have := hr.2; show _ - 0 ≤ 7293034; omega⟩ k
theorem o_pure (C : oC p s m c bs Ls xs D sa) (hR : oR s S) {i : Instr} {len pc' : Nat} {L' : mL} {st' : List Value} (hd : decode code pc = .ok (i, len)) (hl : mLen i = 0 ∨ mLen i = len) (hs : ∀ S : mS, mStep (tP sa) s.heap.size M_L i pc L st S = some (pc', L', st', S)) (k : oW p l e s m below meth c Q D bs pc' L' st' S) : oW p l e s m below meth c Q D bs pc L st S := o_step C hd hl (hs S) hR k
theorem o_sld (C : oC p s m c bs Ls xs D sa) {i : Int32} {n : Nat} (hd : decode code pc = .ok (.iaload, 1)) (hi : i = nI n) (hn : n < Ls) (hn2 : n < 2 ^ 31) (k : oW p l e s m below meth c Q D bs (pc + 1) L (.int (xs n) :: st) S) : oW p l e s m below meth c Q D bs pc L (.int i :: .ref bs :: st) S := by
  obtain ⟨hx, hb, hml, hown, hts, hk, hX, hbl⟩ := C
  intro ls H locs hls hsz hR hns hS
  have e1 : i.toNatClampNeg = n := by rw [hi]; exact nI_clamp hn2
  refine va_sld hx hb hX hbl (Nat.not_le.mpr hbl) hS (i := i) ?_ hd ?_
  · intro z
    rcases z with z | z
    · rw [hi] at z; exact nI_pos hn2 z
    · rw [e1] at z; omega
  · rw [e1]
    exact k ls H locs hls hsz hR hns hS
theorem o_slen (C : oC p s m c bs Ls xs D sa) (hd : decode code pc = .ok (.arraylength, 1)) (k : oW p l e s m below meth c Q D bs (pc + 1) L (.int (nI Ls) :: st) S) : oW p l e s m below meth c Q D bs pc L (.ref bs :: st) S := by
  obtain ⟨hx, hb, hml, hown, hts, hk, hX, hbl⟩ := C
  intro ls H locs hls hsz hR hns hS
  exact va_slen hx hb hX hbl (Nat.not_le.mpr hbl) hS hd (k ls H locs hls hsz hR hns hS)
/-- a call of a method that the plain machine runs -/
theorem o_call (C : oC p s m c bs Ls xs D sa) {kd k9 q d : Nat} {M' : mM} {as rest : List Value} {Q' : Option Value → mS → Prop} (hd : decode code pc = .ok (mIn kd k9, 3)) (hc : tG 8 k9 = some (kd, .inl q)) (hm : tM q = some M') (hst : st = as.reverse ++ rest) (hn : as.length = mNa M') (hmay : mMay kd M_L M' L st S = true) (hrun : mCW (tP sa) s.heap.size d M' as S Q') (hd1 : d + 1 ≤ 2048) (hd2 : 40 * (d + 1) ≤ 84000)
    (k : ∀ r S1, Q' r S1 → oR s S1 ∧ oW p l e s m below meth c Q D bs (pc + 3) L (r.toList ++ rest) S1) : oW p l e s m below meth c Q D bs pc L st S := by
  obtain ⟨hx, hb, hml, hown, hts, hk, hX, hbl⟩ := id C
  obtain ⟨hal, n, r, S1, hex, hq⟩ := hrun
  obtain ⟨⟨hR1, hR2⟩, hW⟩ := k r S1 hq
  have hs := (tCalls sa).1 8 k9 kd q M' hc hm
  have hmono := mExec_mono (tP sa) s.heap.size n d M' 0 (mEn as (mMax M')) [] S r S1 hex
  have e1 : (st.take (mNa M')).reverse = as := by
    rw [hst, ← hn, ← List.length_reverse, List.take_left, List.reverse_reverse]
  have e2 : st.drop (mNa M') = rest := by
    rw [hst, ← hn, ← List.length_reverse, List.drop_left]
  have hM := mMet (l := l) (D := D) (b := s.heap.size) (tPok sa) (tCalls sa) tGood (q := q) hm hs.2.1.2.2 hex hal
  refine mg_call (M := M_L) (own := tN 8) (y := tY q) (kd := kd) (k := k9) (d' := d) (r1 := r) (S1 := S1) hx hb hml hown hts hk (Nat.le_refl _) tGood hs hmay hd1 hd2 hR1 (by show S1.2.2 - 0 ≤ 7293034; omega) hmono ?_ hd ?_
  · rw [e1]; exact hM
  · rw [e2]; exact hW
end OW
