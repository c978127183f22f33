/-! THE DESK AND THE MODEL IN ONE HEAP -/
/-- the constants, below b -/
def jC (sa : Nat → Nat) (b : Nat) (h : mH) : Prop := ∀ n : Nat, mSta sa b (n, h) ∧ mKeyC sa b (n, h) ∧ mKeyW sa b (n, h) ∧ mKeys sa b (n, h) ∧ mKeyS sa b (n, h)
theorem mStr.eq {n n2 b a : Nat} {h h2 : mH} {s : List Nat} (hs : mStr (n, h) b a s) (e : ∀ x, x < b → h2 x = h x) : mStr (n2, h2) b a s := by
  obtain ⟨va, f, fs, ha, hva, h1, h2', h3, h4⟩ := hs
  exact ⟨va, f, fs, ha, hva, (e a ha).trans h1, (e va hva).trans h2', h3, h4⟩
theorem mStr.up {E : Nat × mH} {b b2 a : Nat} {s : List Nat} (hb : b ≤ b2) (hs : mStr E b a s) : mStr E b2 a s := by
  obtain ⟨va, f, fs, ha, hva, h1, h2', h3, h4⟩ := hs
  exact ⟨va, f, fs, Nat.lt_of_lt_of_le ha hb, Nat.lt_of_lt_of_le hva hb, h1, h2', h3, h4⟩
theorem mSta.eq {sa : Nat → Nat} {n n2 b : Nat} {h h2 : mH} (hs : mSta sa b (n, h)) (e : ∀ x, x < b → h2 x = h x) : mSta sa b (n2, h2) := by
  obtain ⟨⟨a1, f, a2, a3⟩, b1, g, b2, b3⟩ := hs
  exact ⟨⟨a1, f, (e _ a1).trans a2, a3⟩, b1, g, (e _ b1).trans b2, b3⟩
theorem jC.eq {sa : Nat → Nat} {b : Nat} {h h2 : mH} (hc : jC sa b h) (e : ∀ x, x < b → h2 x = h x) : jC sa b h2 := by
  intro n
  obtain ⟨c1, c2, c3, c4, c5⟩ := hc n
  exact ⟨c1.eq e, ⟨c2.1.eq e, c2.2.1.eq e, c2.2.2.eq e⟩, ⟨c3.1.eq e, c3.2.1.eq e, c3.2.2.eq e⟩, ⟨c4.1.eq e, c4.2.1.eq e, c4.2.2.eq e⟩, ⟨c5.1.eq e, c5.2.1.eq e, c5.2.2.1.eq e, c5.2.2.2.eq e⟩⟩
def jD (b : Nat) (S : mS) (A : aSt) : Prop := ∃ T : gT, gH lD b (S.2.1, S.1) T S.1 ∧ T.2.2 = S.2 ∧ cA T A
def jM (b : Nat) (S : mS) (A : aSt) : Prop := ∃ T : gT, gH lM (b + 65) (S.2.1, S.1) T S.1 ∧ T.2.2 = S.2 ∧ rA T A
def jK (sa : Nat → Nat) (b : Nat) (S : mS) (x : Int64) : Prop := jC sa b S.1 ∧ b + 95 ≤ S.2.1 ∧ ∃ f : Nat → Int64, f 0 = x ∧ S.1 (b + 94) = some (.inl (.long, 1, .inr (.inl f)))
section JN
variable {sa : Nat → Nat} {b d : Nat} {S : mS} {A A' B B' : aSt} {x : Int64} {M : mM} {as : List Value} {v : Option Value}
theorem lD_len : lD.length = 65 := rfl
theorem lM_len : lM.length = 29 := rfl
/-- what is not the desk's stays: so does the model -/
theorem jM.keep {S1 : mS} (h : jM b S B) (hs : b + 94 ≤ S.2.1) (h1 : S.2.1 ≤ S1.2.1) (hk : ∀ a, b + 65 ≤ a → a < b + 94 → S1.1 a = S.1 a) : jM b S1 B := by
  obtain ⟨T, hg, e, hA⟩ := h
  have := lM_len
  exact ⟨(T.1, T.2.1, S1.2.1, S1.2.2), gH_keep (sz := S.2.1) hg (by omega) h1 (fun a _ ha => hk a ha.1 (by omega)), rfl, hA⟩
theorem jD.keep {S1 : mS} (h : jD b S A) (hs : b + 65 ≤ S.2.1) (h1 : S.2.1 ≤ S1.2.1) (hk : ∀ a, b ≤ a → a < b + 65 → S1.1 a = S.1 a) : jD b S1 A := by
  obtain ⟨T, hg, e, hA⟩ := h
  have := lD_len
  exact ⟨(T.1, T.2.1, S1.2.1, S1.2.2), gH_keep (sz := S.2.1) hg (by omega) h1 (fun a _ ha => hk a ha.1 (by omega)), rfl, hA⟩
/-- a call of the desk -/
theorem j_cls (hK : jK sa b S x) (hD : jD b S A) (hM : jM b S B) (hc : ∀ (E : Nat × mH) (T : gT), mSta sa b E → mKeyC sa b E → mKeyW sa b E → cA T A → gC (tP sa) lD b E d M as T (fun r T' => r = v ∧ T'.2.2 = T.2.2 ∧ cA T' A')) :
    mCW (tP sa) b d M as S (fun r S1 => r = v ∧ S1.2 = S.2 ∧ jK sa b S1 x ∧ jD b S1 A' ∧ jM b S1 B) := by
  obtain ⟨k1, k2, f, k3, k4⟩ := hK
  obtain ⟨T, hg, e, hA⟩ := hD
  obtain ⟨c1, c2, c3, c4, c5⟩ := k1 S.2.1
  have h := hc (S.2.1, S.1) T c1 c2 c3 hA
  refine ⟨h.1, ?_⟩
  have h2 := h.2 S.1 hg
  rw [e] at h2
  refine h2.mono (Nat.le_refl _) ?_
  rintro r S1 ⟨T1, ⟨g1, g2, g3, g4⟩, e1, rfl, e2, hA1⟩
  have eS : S1.2 = S.2 := by rw [e1, e2]
  have := lD_len
  have keep : ∀ a, a < b ∨ (b + 65 ≤ a ∧ a < S.2.1) → S1.1 a = S.1 a := fun a ha => g2 a (by omega)
  refine ⟨rfl, eS, ⟨k1.eq (fun y hy => keep y (Or.inl hy)), by rw [eS]; exact k2, f, k3, (keep _ (by omega)).trans k4⟩, ⟨T1, gH_all (sz := S1.2.1) (ns := S1.2.2) e1.symm g1 (by rw [eS]; omega), e1.symm, hA1⟩, ?_⟩
  exact hM.keep (by omega) (by rw [eS]; exact Nat.le_refl _) (fun a h1 h2 => keep a (by omega))
/-- a call of the model; it may make strings -/
theorem j_mod {gc gs : Nat} (hK : jK sa b S x) (hD : jD b S A) (hM : jM b S B) (hc : ∀ (E : Nat × mH) (T : gT), mKeys sa (b + 65) E → mKeyS sa (b + 65) E → rA T B → gC (tP sa) lM (b + 65) E d M as T (fun r T' => r = v ∧ (T.2.2.1 ≤ T'.2.2.1 ∧ T'.2.2.1 ≤ T.2.2.1 + gc) ∧ (T.2.2.2 ≤ T'.2.2.2 ∧ T'.2.2.2 ≤ T.2.2.2 + gs) ∧ rA T' B')) :
    mCW (tP sa) b d M as S (fun r S1 => r = v ∧ (S.2.1 ≤ S1.2.1 ∧ S1.2.1 ≤ S.2.1 + gc) ∧ (S.2.2 ≤ S1.2.2 ∧ S1.2.2 ≤ S.2.2 + gs) ∧ jK sa b S1 x ∧ jD b S1 A ∧ jM b S1 B') := by
  obtain ⟨k1, k2, f, k3, k4⟩ := hK
  obtain ⟨T, hg, e, hA⟩ := hM
  obtain ⟨c1, c2, c3, c4, c5⟩ := k1 S.2.1
  have hb : b ≤ b + 65 := Nat.le_add_right _ _
  have h := hc (S.2.1, S.1) T ⟨c4.1.up hb, c4.2.1.up hb, c4.2.2.up hb⟩ ⟨c5.1.up hb, c5.2.1.up hb, c5.2.2.1.up hb, c5.2.2.2.up hb⟩ hA
  refine ⟨h.1, ?_⟩
  have h2 := (h.2 S.1 hg).base hb
  rw [e] at h2
  refine h2.mono (Nat.le_refl _) ?_
  rintro r S1 ⟨T1, ⟨g1, g2, g3, g4⟩, e1, rfl, e2, e3, hA1⟩
  rw [← e1] at e2 e3
  have := lM_len
  dsimp only at g2 g3
  have keep : ∀ a, a < b + 65 ∨ (b + 94 ≤ a ∧ a < S.2.1) → S1.1 a = S.1 a := fun a ha => g2 a (by omega)
  refine ⟨rfl, e2, e3, ⟨k1.eq (fun y hy => keep y (by omega)), by omega, f, k3, (keep _ (by omega)).trans k4⟩, ?_, ⟨T1, gH_all (sz := S1.2.1) (ns := S1.2.2) e1.symm g1 (by omega), e1.symm, hA1⟩⟩
  exact hD.keep (by omega) e2.1 (fun a h1 h2 => keep a (by omega))
end JN
