section RR
variable {sa : Nat → Nat} {b : Nat} {E : Nat × mH} {d : Nat} {T0 T T' : gT} {a : Nat} {c : Nat → Nat → Int} {n nv nf N N' : Nat} {K : List mFr} {nb st : Nat} {us : Nat → Int64} {φ : gT → Prop}
def rB (T0 T : gT) (c : Nat → Nat → Int) (n N : Nat) (K : List mFr) (nb st : Nat) (us : Nat → Int64) : Prop := fG Wr Vr T0 T ∧ vI T 0 42 = (N : Int) ∧ N ≤ 2 * nb ∧ rKs T c n N K ∧ vI T 0 17 = (st : Int) ∧ (∀ l, l < 200 → T.2.1 12 l = us l) ∧ vI T 0 46 = -1 ∧ vI T 0 16 = 1 ∧ T.2.1 0 18 = 0
theorem rCf_iff {cu : Option (Nat × eT)} {v : eT} : rCf T0 T c n (cu, K, v, nb, st, us) ↔ ∃ N, rB T0 T c n N K nb st us ∧ rCu T c n N K v cu := by
  unfold rCf rB
  constructor
  · rintro ⟨N, h1, h2, h3, h4, h5, h6, h7, h8, h9, h10⟩; exact ⟨N, ⟨h1, h2, h3, h4, h6, h7, h8, h9, h10⟩, h5⟩
  · rintro ⟨N, ⟨h1, h2, h3, h4, h6, h7, h8, h9, h10⟩, h5⟩; exact ⟨N, h1, h2, h3, h4, h5, h6, h7, h8, h9, h10⟩
/-- the waiting exprs below m stay -/
def kpS (T : gT) (m : Nat) (T' : gT) : Prop := ∀ i, i < m → vI T' 16 i = vI T 16 i ∧ vI T' 17 i = vI T 17 i ∧ vI T' 18 i = vI T 18 i ∧ vI T' 19 i = vI T 19 i ∧ T'.2.1 20 i = T.2.1 20 i ∧ vI T' 21 i = vI T 21 i
theorem rFr.of {i : Nat} {p : mFr} (hc : chS T N T' N') (hk : vI T' 16 i = vI T 16 i ∧ vI T' 17 i = vI T 17 i ∧ vI T' 18 i = vI T 18 i ∧ vI T' 19 i = vI T 19 i ∧ T'.2.1 20 i = T.2.1 20 i ∧ vI T' 21 i = vI T 21 i) (h : rFr T c n N i p) : rFr T' c n N' i p := by
  obtain ⟨k1, k2, k3, k4, k5, k6⟩ := hk
  obtain ⟨l, e, o⟩ := p
  obtain ⟨h1, h2, h3⟩ := h
  refine ⟨k1.trans h1, by rw [k2]; exact h2.of hc, ?_⟩
  cases o with
  | none => exact k3.trans h3
  | some w => exact ⟨k3.trans h3.1, by show rX T' c n N' w _ _ _; rw [k4, k5, k6]; exact h3.2.of hc⟩
theorem rKs.of (hc : chS T N T' N') : ∀ {K : List mFr}, kpS T K.length T' → rKs T c n N K → rKs T' c n N' K := by
  intro K
  induction K with
  | nil => intro _ _; trivial
  | cons p K ih =>
    intro hk h
    exact ⟨h.1.of hc (hk K.length (by rw [List.length_cons]; omega)), ih (fun i hi => hk i (by rw [List.length_cons]; omega)) h.2⟩
theorem chS.refl : chS T N T N := ⟨Nat.le_refl _, fun _ _ => ⟨rfl, rfl, rfl, rfl, rfl⟩⟩
/-- changes elsewhere -/
def Wn (k i : Nat) : Prop := (k = 0 ∧ i ≠ 42 ∧ i ≠ 17 ∧ i ≠ 46 ∧ i ≠ 16) ∧ Wr k i
theorem rB.of {W V : Nat → Nat → Prop} (h : rB T0 T c n N K nb st us) (hf : fG W V T T') (hW : ∀ k i, W k i → Wr k i ∧ ¬ (22 ≤ k) ∧ ¬ (k = 0 ∧ (i = 42 ∨ i = 17 ∨ i = 46 ∨ i = 16)) ∧ (16 ≤ k → K.length ≤ i)) (hV : ∀ k i, V k i → Vr k i ∧ k ≠ 24 ∧ k ≠ 12 ∧ (k = 20 → K.length ≤ i) ∧ ¬ (k = 0 ∧ i = 18)) : rB T0 T' c n N K nb st us := by
  obtain ⟨h1, h2, h3, h4, h5, h6, h7, h8, h9⟩ := h
  have q : ∀ {k i}, ¬ W k i → vI T' k i = vI T k i := fun z => hf.v z
  have c1 : chS T N T' N := ⟨Nat.le_refl _, fun i hi => ⟨q (fun z => (hW _ _ z).2.1 (by omega)), q (fun z => (hW _ _ z).2.1 (by omega)), hf.2.1 _ _ (fun z => (hV _ _ z).2.1 rfl), q (fun z => (hW _ _ z).2.1 (by omega)), q (fun z => (hW _ _ z).2.1 (by omega))⟩⟩
  have nw : ∀ {i}, (i = 42 ∨ i = 17 ∨ i = 46 ∨ i = 16) → ¬ W 0 i := fun z z2 => (hW _ _ z2).2.2.1 ⟨rfl, z⟩
  refine ⟨h1.trans (hf.mono (fun k i z => (hW k i z).1) (fun k i z => (hV k i z).1)), by rw [q (nw (by omega))]; exact h2, h3, h4.of c1 (fun i hi => ?_), by rw [q (nw (by omega))]; exact h5, fun l hl => ?_, by rw [q (nw (by omega))]; exact h7, by rw [q (nw (by omega))]; exact h8, ?_⟩
  · have w : ∀ {k}, 16 ≤ k → ¬ W k i := fun hk z => by have := (hW _ _ z).2.2.2 hk; omega
    exact ⟨q (w (by omega)), q (w (by omega)), q (w (by omega)), q (w (by omega)), hf.2.1 _ _ (fun z => by have := (hV _ _ z).2.2.2.1 rfl; omega), q (w (by omega))⟩
  · rw [hf.2.1 _ _ (fun z => (hV _ _ z).2.2.1 rfl)]; exact h6 l hl
  · rw [hf.2.1 _ _ (fun z => (hV _ _ z).2.2.2.2 ⟨rfl, rfl⟩)]; exact h9
theorem c_push {l : Nat} {e v : eT} {r : Int} (h : rB T0 T c n N K nb st us) (hh : vI T 0 36 = (K.length : Int)) (hK : K.length < 2100) (he : rX T c n N e 0 0 r) (hr : okI r) (hl : l < 200) (k : ∀ T', rCf T0 T' c n (some (l, e), K, v, nb, st, us) → φ T') : gC (tP sa) lM b E d mX7_push [.ref (b + 0), .int (zI (l : Int)), .int (zI r)] T (fun r T' => pV r (φ T')) := by
  refine w_X7_push ?_
  unfold f_X7_push
  rw [hh, Int.toNat_natCast]
  refine ⟨by omega, by omega, rfl, k _ (rCf_iff.mpr ⟨N, ?_, ?_⟩)⟩
  · refine h.of (W := fun k i => (i = K.length ∧ (k = 16 ∨ k = 17 ∨ k = 18)) ∨ (k = 0 ∧ i = 36)) (V := fun _ _ => False) ((((fG.refl.gI (Or.inl ⟨rfl, Or.inl rfl⟩)).gI (Or.inl ⟨rfl, Or.inr (Or.inl rfl)⟩)).gI (Or.inl ⟨rfl, Or.inr (Or.inr rfl)⟩)).gI (Or.inr ⟨rfl, rfl⟩)) (fun k i z => by unfold Wr; omega) (fun k i z => z.elim)
  · refine ⟨v_s (by omega), ?_, ?_, ?_⟩
    · rw [v_o (by omega), v_o (by omega), v_o (by omega), v_s (by omega)]
    · rw [v_o (by omega), v_o (by omega), v_s hr]
      show rX (gI (gI (gI (gI T 16 K.length (zI (l : Int))) 17 K.length (zI r)) 18 K.length (zI 0)) 0 36 (zI ((K.length : Int) + 1))) c n N e 0 0 r
      have hc : chS T N (gI (gI (gI (gI T 16 K.length (zI (l : Int))) 17 K.length (zI r)) 18 K.length (zI 0)) 0 36 (zI ((K.length : Int) + 1))) N := by
        refine ⟨Nat.le_refl _, fun q _ => ⟨?_, ?_, rfl, ?_, ?_⟩⟩ <;> rw [v_o (by omega), v_o (by omega), v_o (by omega), v_o (by omega)]
      exact rX.of hc e 0 0 r he
    · rw [v_o (by omega), v_s (by omega)]
theorem c_chain {x : Nat} {r : Int} {φ : Int → gT → Prop} (hN : vI T 0 42 = (N : Int)) (hN2 : N < 4200) (hx : x < 1000) (hr : okI r)
    (k : ∀ T', fG (fun k i => (i = N ∧ 22 ≤ k) ∨ (k = 0 ∧ i = 42)) (fun k i => k = 24 ∧ i = N) T T' → chS T N T' (N + 1) → vI T' 0 42 = ((N + 1 : Nat) : Int) → vI T' 22 N = (x : Int) → vI T' 23 N = vI T 0 43 → T'.2.1 24 N = T.2.1 0 44 → vI T' 25 N = vI T 0 45 → vI T' 26 N = r → φ (N : Int) T') : gC (tP sa) lM b E d mX7_chain [.ref (b + 0), .int (zI (x : Int)), .int (zI r)] T (fun r T' => pI r (fun v => φ v T')) := by
  refine w_X7_chain ?_
  unfold f_X7_chain
  have g43 := And.intro (vI_lo T 0 43) (vI_hi T 0 43)
  have g45 := And.intro (vI_lo T 0 45) (vI_hi T 0 45)
  rw [hN, Int.toNat_natCast, show (N : Int) + 1 - 1 = (N : Int) by omega]
  refine ⟨by omega, by omega, _, rfl, k _ ?_ ?_ ?_ ?_ ?_ ?_ ?_ ?_⟩
  · exact (((((fG.refl.gI (Or.inl ⟨rfl, by omega⟩)).gI (Or.inl ⟨rfl, by omega⟩)).gJ ⟨rfl, rfl⟩).gI (Or.inl ⟨rfl, by omega⟩)).gI (Or.inl ⟨rfl, by omega⟩)).gI (Or.inr ⟨rfl, rfl⟩)
  · refine ⟨by omega, fun q hq => ⟨?_, ?_, ?_, ?_, ?_⟩⟩
    · repeat first | rw [v_o (by omega)] | rw [vI_gJ]
    · repeat first | rw [v_o (by omega)] | rw [vI_gJ]
    · rw [gI_J, gI_J, gI_J, gJ_J, if_neg (by omega), gI_J, gI_J]
    · repeat first | rw [v_o (by omega)] | rw [vI_gJ]
    · repeat first | rw [v_o (by omega)] | rw [vI_gJ]
  · rw [v_s (by omega)]; omega
  · repeat first | rw [v_s (by omega)] | rw [v_o (by omega)] | rw [vI_gJ]
  · repeat first | rw [v_s g43] | rw [v_o (by omega)] | rw [vI_gJ]
  · rw [gI_J, gI_J, gI_J, gJ_J, if_pos ⟨rfl, rfl⟩]
  · repeat first | rw [v_s g45] | rw [v_o (by omega)] | rw [vI_gJ]
  · repeat first | rw [v_s hr] | rw [v_o (by omega)] | rw [vI_gJ]
end RR
