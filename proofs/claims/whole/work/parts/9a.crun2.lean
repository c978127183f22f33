/-- a waiting expr -/
def cFr (T : gT) (N i : Nat) (p : mFr) : Prop := vI T 58 i = (p.1 : Int) ∧ cX T N p.2.1 0 0 (vI T 59 i) ∧ (match p.2.2 with
  | none => vI T 60 i = 0
  | some w => vI T 60 i = 1 ∧ cX T N w (vI T 61 i) (T.2.1 62 i) 0)
def cKs (T : gT) (N : Nat) : List mFr → Prop
  | [] => True
  | p :: K => cFr T N K.length p ∧ cKs T N K
def cCu (T : gT) (N : Nat) (v : eT) : Option (Nat × eT) → Prop
  | some p => vI T 51 13 = (p.1 : Int) ∧ cX T N p.2 0 0 (vI T 51 14)
  | none => vI T 51 13 = -1 ∧ cX T N v (vI T 51 15) (T.2.1 51 16) 0
/-- what a run may change -/
def Wz (k i : Nat) : Prop := k = 51 ∨ (k = 53 ∧ i = 4) ∨ (54 ≤ k ∧ k ≤ 62)
def Vz (k i : Nat) : Prop := (k = 51 ∧ (i = 2 ∨ i = 16)) ∨ k = 52 ∨ k = 56 ∨ k = 62
/-- a state of a run, in the class -/
def cB (T0 T : gT) (q most N : Nat) (K : List mFr) (st : Nat) (us : Nat → Int64) : Prop := fG Wz Vz T0 T ∧ vI T 53 4 = (N : Int) ∧ cKs T N K ∧ vI T 51 12 = (K.length : Int) ∧ vI T 51 0 = (st : Int) ∧ (∀ l, l < 200 → T.2.1 52 l = us l) ∧ vI T 51 1 = -1 ∧ vI T 51 4 = (q : Int) ∧ vI T 51 5 = (most : Int)
def cCf (T0 T : gT) (q most : Nat) (s : mCf) : Prop := cB T0 T q most s.2.2.2.1 s.2.1 s.2.2.2.2.1 s.2.2.2.2.2 ∧ cCu T s.2.2.2.1 s.2.2.1 s.1
def cEn (T0 T : gT) (q : Nat) (o : mOu) : Prop := fG Wz Vz T0 T ∧ vI T 51 1 = o.1 ∧ o.1 ≠ -1 ∧ T.2.1 51 2 = o.2.1 ∧ vI T 51 0 = (o.2.2.1 : Int) ∧ (∀ l, l < 200 → T.2.1 52 l = o.2.2.2 l) ∧ vI T 51 4 = (q : Int)
def cSt (T0 T : gT) (q most : Nat) : mCf ⊕ mOu → Prop
  | .inl s => cCf T0 T q most s
  | .inr o => cEn T0 T q o
section CM2
variable {sa : Nat → Nat} {b : Nat} {E : Nat × mH} {d : Nat} {T0 T T' : gT} {q most N N' : Nat} {c : Nat → Nat → Int} {n nv nf : Nat} {K : List mFr} {st : Nat} {us : Nat → Int64} {φ : gT → Prop}
theorem cP_of (hp : cPq T0 q c n nv nf) (hf : fG Wz Vz T0 T) : cPq T q c n nv nf := hp.of (fun k i h1 h2 => hf.v (by have := hp.2.1; unfold Wz; omega))
def kzS (T : gT) (m : Nat) (T' : gT) : Prop := ∀ i, i < m → vI T' 58 i = vI T 58 i ∧ vI T' 59 i = vI T 59 i ∧ vI T' 60 i = vI T 60 i ∧ vI T' 61 i = vI T 61 i ∧ T'.2.1 62 i = T.2.1 62 i
theorem cFr.of {i : Nat} {p : mFr} (hc : bhS T N T' N') (hk : vI T' 58 i = vI T 58 i ∧ vI T' 59 i = vI T 59 i ∧ vI T' 60 i = vI T 60 i ∧ vI T' 61 i = vI T 61 i ∧ T'.2.1 62 i = T.2.1 62 i) (h : cFr T N i p) : cFr T' N' i p := by
  obtain ⟨k1, k2, k3, k4, k5⟩ := hk
  obtain ⟨l, e, o⟩ := p
  obtain ⟨h1, h2, h3⟩ := h
  refine ⟨k1.trans h1, by rw [k2]; exact cX.of hc _ _ _ _ h2, ?_⟩
  cases o with
  | none => exact k3.trans h3
  | some w => exact ⟨k3.trans h3.1, by show cX T' N' w _ _ _; rw [k4, k5]; exact cX.of hc _ _ _ _ h3.2⟩
theorem cKs.of (hc : bhS T N T' N') : ∀ {K : List mFr}, kzS T K.length T' → cKs T N K → cKs T' N' K := by
  intro K
  induction K with
  | nil => intro _ _; trivial
  | cons p K ih =>
    intro hk h
    exact ⟨h.1.of hc (hk K.length (by rw [List.length_cons]; omega)), ih (fun i hi => hk i (by rw [List.length_cons]; omega)) h.2⟩
/-- changes of the machine's own fields -/
theorem cB.fld {W V : Nat → Nat → Prop} (h : cB T0 T q most N K st us) (hf : fG W V T T') (hW : ∀ k i, W k i → k = 51 ∧ (i = 13 ∨ i = 14 ∨ i = 15)) (hV : ∀ k i, V k i → k = 51 ∧ i = 16) : cB T0 T' q most N K st us ∧ bhS T N T' N := by
  obtain ⟨h1, h2, h3, h4, h5, h6, h7, h8, h9⟩ := h
  have qq : ∀ {k i}, ¬ (k = 51 ∧ (i = 13 ∨ i = 14 ∨ i = 15)) → vI T' k i = vI T k i := fun z => hf.v (fun y => z (hW _ _ y))
  have jj : ∀ {k i}, ¬ (k = 51 ∧ i = 16) → T'.2.1 k i = T.2.1 k i := fun z => hf.2.1 _ _ (fun y => z (hV _ _ y))
  have hc : bhS T N T' N := ⟨Nat.le_refl _, fun i _ => ⟨qq (by omega), qq (by omega), jj (by omega), qq (by omega)⟩⟩
  refine ⟨⟨h1.trans (hf.mono (fun k i z => by have := hW k i z; unfold Wz; omega) (fun k i z => by have := hV k i z; unfold Vz; omega)), by rw [qq (by omega)]; exact h2, h3.of hc (fun i hi => ⟨qq (by omega), qq (by omega), qq (by omega), qq (by omega), jj (by omega)⟩), by rw [qq (by omega)]; exact h4, by rw [qq (by omega)]; exact h5, fun l hl => by rw [jj (by omega)]; exact h6 l hl, by rw [qq (by omega)]; exact h7, by rw [qq (by omega)]; exact h8, by rw [qq (by omega)]; exact h9⟩, hc⟩
/-- fewer wait -/
theorem cB.pop {p : mFr} (h : cB T0 T q most N (p :: K) st us) : cB T0 (gI T 51 12 (zI (K.length : Int))) q most N K st us ∧ bhS T N (gI T 51 12 (zI (K.length : Int))) N := by
  obtain ⟨h1, h2, h3, h4, h5, h6, h7, h8, h9⟩ := h
  rw [List.length_cons] at h4
  have hr := vI_hi T 51 12
  have qq : ∀ {k i}, ¬ (k = 51 ∧ i = 12) → vI (gI T 51 12 (zI (K.length : Int))) k i = vI T k i := fun z => v_o z
  have hc : bhS T N (gI T 51 12 (zI (K.length : Int))) N := ⟨Nat.le_refl _, fun i _ => ⟨qq (by omega), qq (by omega), rfl, qq (by omega)⟩⟩
  exact ⟨⟨h1.gI (Or.inl rfl), by rw [qq (by omega)]; exact h2, h3.2.of hc (fun i hi => ⟨qq (by omega), qq (by omega), qq (by omega), qq (by omega), rfl⟩), v_s (by omega), by rw [qq (by omega)]; exact h5, h6, by rw [qq (by omega)]; exact h7, by rw [qq (by omega)]; exact h8, by rw [qq (by omega)]; exact h9⟩, hc⟩
theorem d_come {w : eT} {k : Int} {x : Int64} (h : cB T0 T q most N K st us) (hk : okI k) (hv : cX T N w k x 0) (kk : ∀ T', cCf T0 T' q most (none, K, w, N, st, us) → φ T') : gC (tP sa) lD b E d mX2_come [.ref (b + 51), .int (zI k), .long x] T (fun r T' => pV r (φ T')) := by
  refine w_X2_come ?_
  unfold f_X2_come
  have f1 : fG (fun k i => k = 51 ∧ (i = 13 ∨ i = 14 ∨ i = 15)) (fun k i => k = 51 ∧ i = 16) T (gI (gJ (gI T 51 15 (zI k)) 51 16 x) 51 13 (zI (-1))) := ((fG.refl.gI ⟨rfl, by omega⟩).gJ ⟨rfl, rfl⟩).gI ⟨rfl, by omega⟩
  obtain ⟨hB, hc⟩ := h.fld f1 (fun _ _ z => z) (fun _ _ z => z)
  refine ⟨rfl, kk _ ⟨hB, v_s (by omega), ?_⟩⟩
  have e1 : vI (gI (gJ (gI T 51 15 (zI k)) 51 16 x) 51 13 (zI (-1))) 51 15 = k := by rw [v_o (by omega), vI_gJ, v_s hk]
  have e2 : (gI (gJ (gI T 51 15 (zI k)) 51 16 x) 51 13 (zI (-1))).2.1 51 16 = x := by rw [gI_J, gJ_J, if_pos ⟨rfl, rfl⟩]
  rw [e1, e2]
  exact cX.of hc _ _ _ _ hv
theorem d_end {o : mOu} (h : cB T0 T q most N K st us) (ho : okI o.1) (ho2 : o.1 ≠ -1) (hs : o.2.2 = (st, us)) (kk : ∀ T', cEn T0 T' q o → φ T') : gC (tP sa) lD b E d mX2_end [.ref (b + 51), .int (zI o.1), .long o.2.1] T (fun r T' => pV r (φ T')) := by
  obtain ⟨h1, h2, h3, h4, h5, h6, h7, h8, h9⟩ := h
  refine w_X2_end ?_
  unfold f_X2_end
  refine ⟨rfl, kk _ ⟨(h1.gI (Or.inl rfl)).gJ (Or.inl ⟨rfl, by omega⟩), ?_, ho2, ?_, ?_, fun l hl => ?_, ?_⟩⟩
  · rw [vI_gJ, v_s ho]
  · rw [gJ_J, if_pos ⟨rfl, rfl⟩]
  · rw [vI_gJ, v_o (by omega), h5, hs]
  · rw [gJ_J, if_neg (by omega), hs]; exact h6 l hl
  · rw [vI_gJ, v_o (by omega)]; exact h8
theorem d_bind {x : Nat} {w e : eT} {k r : Int} {y : Int64} {ψ : Int → gT → Prop} (h : cB T0 T q most N K st us) (hN : N < 1000) (hx : x < 1000) (hk : okI k) (hw : cX T N w k y 0) (he : cX T N e 0 0 r) (hr : -1 ≤ r ∧ r < (N : Int))
    (kk : ∀ T', cB T0 T' q most (N + 1) K st us → (∀ t, cX T' (N + 1) (eC x w e) 0 0 (N : Int) ∧ cX T' (N + 1) (eF x t w e) 0 0 (N : Int)) → bhS T N T' (N + 1) → (∀ i, vI T' 51 i = vI T 51 i) → ψ (N : Int) T') : gC (tP sa) lD b E d mX0_bind [.ref (b + 53), .int (zI (x : Int)), .int (zI k), .long y, .int (zI r)] T (fun r T' => pI r (fun v => ψ v T')) := by
  obtain ⟨h1, h2, h3, h4, h5, h6, h7, h8, h9⟩ := h
  refine w_X0_bind ?_
  unfold f_X0_bind
  rw [h2, Int.toNat_natCast, show (N : Int) + 1 - 1 = (N : Int) by omega]
  refine ⟨fun _ => ⟨by omega, by omega, _, rfl, ?_⟩, fun z => absurd (by omega) z⟩
  generalize hT : gI (gI (gJ (gI (gI T 54 N (zI (x : Int))) 55 N (zI k)) 56 N y) 57 N (zI r)) 53 4 (zI ((N : Int) + 1)) = T1
  have f1 : fG (fun k i => (k = 53 ∧ i = 4) ∨ (i = N ∧ (k = 54 ∨ k = 55 ∨ k = 57))) (fun k i => k = 56 ∧ i = N) T T1 := by
    rw [← hT]
    exact ((((fG.refl.gI (Or.inr ⟨rfl, by omega⟩)).gI (Or.inr ⟨rfl, by omega⟩)).gJ ⟨rfl, rfl⟩).gI (Or.inr ⟨rfl, by omega⟩)).gI (Or.inl ⟨rfl, rfl⟩)
  have qq : ∀ {k i}, ¬ ((k = 53 ∧ i = 4) ∨ (i = N ∧ (k = 54 ∨ k = 55 ∨ k = 57))) → vI T1 k i = vI T k i := fun z => f1.v z
  have jj : ∀ {k i}, ¬ (k = 56 ∧ i = N) → T1.2.1 k i = T.2.1 k i := fun z => f1.2.1 _ _ z
  have hc : bhS T N T1 (N + 1) := ⟨by omega, fun i hi => ⟨qq (by omega), qq (by omega), jj (by omega), qq (by omega)⟩⟩
  have e54 : vI T1 54 N = (x : Int) := by rw [← hT]; repeat first | rw [v_s (by omega)] | rw [v_o (by omega)] | rw [vI_gJ]
  have e55 : vI T1 55 N = k := by rw [← hT]; repeat first | rw [v_s hk] | rw [v_o (by omega)] | rw [vI_gJ]
  have e56 : T1.2.1 56 N = y := by rw [← hT, gI_J, gI_J, gJ_J, if_pos ⟨rfl, rfl⟩]
  have e57 : vI T1 57 N = r := by rw [← hT]; rw [v_o (by omega), v_s (by omega)]
  have ent : (∃ p : Nat, (N : Int) = (p : Int) ∧ p < N + 1 ∧ vI T1 54 p = (x : Int) ∧ cX T1 (N + 1) w (vI T1 55 p) (T1.2.1 56 p) 0 ∧ (-1 ≤ vI T1 57 p ∧ vI T1 57 p < (p : Int)) ∧ cX T1 (N + 1) e 0 0 (vI T1 57 p)) := by
    refine ⟨N, rfl, by omega, e54, ?_, by rw [e57]; exact hr, ?_⟩
    · rw [e55, e56]; exact cX.of hc _ _ _ _ hw
    · rw [e57]; exact cX.of hc _ _ _ _ he
  refine kk T1 ⟨h1.trans (f1.mono (fun k i z => by unfold Wz; omega) (fun k i z => by unfold Vz; omega)), ?_, h3.of hc (fun i hi => ⟨qq (by omega), qq (by omega), qq (by omega), qq (by omega), jj (by omega)⟩), by rw [qq (by omega)]; exact h4, by rw [qq (by omega)]; exact h5, fun l hl => by rw [jj (by omega)]; exact h6 l hl, by rw [qq (by omega)]; exact h7, by rw [qq (by omega)]; exact h8, by rw [qq (by omega)]; exact h9⟩ (fun t => ⟨?_, ?_⟩) hc (fun i => qq (by omega))
  · rw [← hT, v_s (by omega)]; omega
  · unfold eC; rw [cX]; exact ent
  · unfold eF; rw [cX]; exact ent
end CM2
