section C6
variable {sa : Nat → Nat} {b : Nat} {E : Nat × mH} {d : Nat} {T0 T T' : gT} {a p : Nat} {c C : Nat → Nat → Int} {n nv nf : Nat} {L eL E' V' F' : Nat}
theorem mvC_w1 {A B Av Bv : Nat} {R : Nat → Nat} {up : Int} {l j : Nat} : mvC c A B Av Bv R up l j 1 = (if c j 0 = 1 then c j 1 else if c j 0 = 0 then (R (c j 1).toNat : Int) else if c j 0 = 2 ∨ c j 0 = 3 ∨ c j 0 = 5 then c j 1 + Bv - Av else -1) := rfl
theorem mvC_w2 {A B Av Bv : Nat} {R : Nat → Nat} {up : Int} {l j : Nat} : mvC c A B Av Bv R up l j 2 = (if c j 0 = 3 then c j 2 + Bv - Av else -1) := rfl
theorem mvC_w3 {A B Av Bv : Nat} {R : Nat → Nat} {up : Int} {l j : Nat} : mvC c A B Av Bv R up l j 3 = (if c j 3 = -1 then -1 else c j 3 + B - A) := rfl
theorem mvC_w4 {A B Av Bv : Nat} {R : Nat → Nat} {up : Int} {l j : Nat} : mvC c A B Av Bv R up l j 4 = (if c j 4 = -1 then -1 else c j 4 + B - A) := rfl
theorem mvC_w5 {A B Av Bv : Nat} {R : Nat → Nat} {up : Int} {l j : Nat} : mvC c A B Av Bv R up l j 5 = (if c j 5 = -1 then -1 else c j 5 + B - A) := rfl
theorem moC_w1 {vL vE j : Nat} : moC c L eL E' vL vE V' j 1 = (if c j 0 = 1 then c j 1 else if c j 0 = 0 ∨ c j 0 = 2 ∨ c j 0 = 3 ∨ c j 0 = 5 then (muM vL vE V' (c j 1).toNat : Int) else -1) := rfl
theorem moC_w2 {vL vE j : Nat} : moC c L eL E' vL vE V' j 2 = (if c j 0 = 3 then (muM vL vE V' (c j 2).toNat : Int) else -1) := rfl
theorem moC_w {vL vE j w : Nat} (h3 : 3 ≤ w) : moC c L eL E' vL vE V' j w = laM L eL E' (c j w) := by
  unfold moC; rw [if_neg (by omega), if_neg (by omega), if_neg (by omega)]
theorem laM_lo {x : Int} (h : x ≤ (L : Int)) : laM L eL E' x = x := by unfold laM; rw [if_pos h]
theorem laM_hi {x : Int} (hLe : L < eL) (h : (eL : Int) ≤ x) : laM L eL E' x = x + E' - eL := by unfold laM; rw [if_neg (by omega)]
/-- cells of a stretch before, and behind -/
theorem mo_bef {f m m2 : Nat} {up : Int} {vs : List Nat} {v0 v1 f0 f1 : Nat} (h : wf c f m m2 up vs v0 v1 f0 f1) (hm : m2 ≤ L) (hvs : ∀ x, x ∈ vs → x < v0) (hv1 : v1 ≤ vcn c L) (hup : up ≤ (L : Int)) {j w : Nat} (j1 : m ≤ j) (j2 : j < m2) (hw : w < 7) : moC c L eL E' (vcn c L) (vcn c eL) V' j w = mvC c 0 0 0 0 (muM (vcn c L) (vcn c eL) V') up m j w := by
  have fl := wf_flat _ _ _ _ _ _ _ _ _ h hvs
  have c6 := fl.2.2.2.1
  obtain ⟨⟨u0, u1, u2, u3, u4, u5, u6, u7, u8, u9⟩, up6⟩ := fl.2.2.2.2 j j1 j2
  have vm : ∀ x : Int, 0 ≤ x → x < (vcn c L : Int) → (muM (vcn c L) (vcn c eL) V' x.toNat : Int) = x := fun x h0 hx => by unfold muM; rw [if_pos (by omega)]; omega
  have : w = 0 ∨ w = 1 ∨ w = 2 ∨ w = 3 ∨ w = 4 ∨ w = 5 ∨ w = 6 := by omega
  rcases this with e | e | e | e | e | e | e <;> subst e
  · unfold moC mvC; rw [if_pos rfl, if_pos rfl]
  · rw [moC_w1, mvC_w1]
    by_cases k1 : c j 0 = 1
    · rw [if_pos k1, if_pos k1]
    rw [if_neg k1, if_neg k1]
    by_cases k0 : c j 0 = 0
    · rw [if_pos (Or.inl k0), if_pos k0]
    rw [if_neg k0]
    by_cases k : c j 0 = 2 ∨ c j 0 = 3 ∨ c j 0 = 5
    · have := u1 (Or.inr k)
      rw [if_pos (Or.inr k), if_pos k, vm _ this.1 (by omega)]; omega
    · rw [if_neg (by omega), if_neg k]
  · rw [moC_w2, mvC_w2]
    by_cases k : c j 0 = 3
    · have := u2 k
      rw [if_pos k, if_pos k, vm _ this.1 (by omega)]; omega
    · rw [if_neg k, if_neg k]
  · rw [moC_w (by decide)]
    rw [mvC_w3]
    by_cases z : 2 ≤ c j 0
    · have := u3 z; rw [laM_lo (by omega)]; split <;> omega
    · have := u8 (by omega); rw [laM_lo (by omega)]; split <;> omega
  · rw [moC_w (by decide)]
    rw [mvC_w4]
    by_cases z : 4 ≤ c j 0
    · have := u4 z; rw [laM_lo (by omega)]; split <;> omega
    · have := u6 (by omega); rw [laM_lo (by omega)]; split <;> omega
  · rw [moC_w (by decide)]
    rw [mvC_w5]
    by_cases z : c j 0 = 4
    · have := u5 z; rw [laM_lo (by omega)]; split <;> omega
    · have := u7 z; rw [laM_lo (by omega)]; split <;> omega
  · rw [moC_w (by decide), mvC_6]
    by_cases z : j = m
    · rw [if_pos z, z, c6, laM_lo hup]
    · have := up6 (by omega)
      rw [if_neg z, laM_lo (by omega)]; omega
theorem mo_aft {f m m2 : Nat} {up : Int} {vs : List Nat} {v0 v1 f0 f1 : Nat} (h : wf c f m m2 up vs v0 v1 f0 f1) (hLe : L < eL) (hm : eL ≤ m) (hvs : ∀ x, x ∈ vs → x < vcn c L) (hv0 : vcn c eL ≤ v0) (hvL : vcn c L ≤ vcn c eL) (hn : m2 ≤ 200) (hup : up ≤ (L : Int)) {j w : Nat} (j1 : m ≤ j) (j2 : j < m2) (hw : w < 7) : moC c L eL E' (vcn c L) (vcn c eL) V' j w = mvC c eL E' (vcn c eL) V' (muM (vcn c L) (vcn c eL) V') up m j w := by
  have fl := wf_flat _ _ _ _ _ _ _ _ _ h (fun x hx => by have := hvs x hx; omega)
  have c6 := fl.2.2.2.1
  obtain ⟨⟨u0, u1, u2, u3, u4, u5, u6, u7, u8, u9⟩, up6⟩ := fl.2.2.2.2 j j1 j2
  obtain ⟨f', e', up', vs', v0', v1', f0', f1', a1, a2, a3, a4, _⟩ := wf_tr _ _ _ _ _ _ _ _ _ hn h j j1 j2
  obtain ⟨x1, x2, x3, _⟩ := wf_hd a2
  have vm : ∀ x : Int, (vcn c eL : Int) ≤ x → (muM (vcn c L) (vcn c eL) V' x.toNat : Int) = x + V' - vcn c eL := fun x hx => by unfold muM; rw [if_neg (by omega)]; omega
  have : w = 0 ∨ w = 1 ∨ w = 2 ∨ w = 3 ∨ w = 4 ∨ w = 5 ∨ w = 6 := by omega
  rcases this with e | e | e | e | e | e | e <;> subst e
  · unfold moC mvC; rw [if_pos rfl, if_pos rfl]
  · rw [moC_w1, mvC_w1]
    by_cases k1 : c j 0 = 1
    · rw [if_pos k1, if_pos k1]
    rw [if_neg k1, if_neg k1]
    by_cases k0 : c j 0 = 0
    · rw [if_pos (Or.inl k0), if_pos k0]
    rw [if_neg k0]
    by_cases k : c j 0 = 2 ∨ c j 0 = 3 ∨ c j 0 = 5
    · rw [if_pos (Or.inr k), if_pos k, vm]
      rcases k with z | z | z
      · have := x1 z; omega
      · have := x2 z; omega
      · have := x3 z; omega
    · rw [if_neg (by omega), if_neg k]
  · rw [moC_w2, mvC_w2]
    by_cases k : c j 0 = 3
    · have := x2 k
      rw [if_pos k, if_pos k, vm _ (by omega)]
    · rw [if_neg k, if_neg k]
  · rw [moC_w (by decide)]
    rw [mvC_w3]
    by_cases z : 2 ≤ c j 0
    · have := u3 z; rw [laM_hi hLe (by omega), if_neg (by omega)]
    · have := u8 (by omega); rw [laM_lo (by omega), if_pos this]; omega
  · rw [moC_w (by decide)]
    rw [mvC_w4]
    by_cases z : 4 ≤ c j 0
    · have := u4 z; rw [laM_hi hLe (by omega), if_neg (by omega)]
    · have := u6 (by omega); rw [laM_lo (by omega), if_pos this]; omega
  · rw [moC_w (by decide)]
    rw [mvC_w5]
    by_cases z : c j 0 = 4
    · have := u4 (by omega); have := u5 z; rw [laM_hi hLe (by omega), if_neg (by omega)]
    · have := u7 z; rw [laM_lo (by omega), if_pos this]; omega
  · rw [moC_w (by decide), mvC_6]
    by_cases z : j = m
    · rw [if_pos z, z, c6, laM_lo hup]
    · have := up6 (by omega)
      rw [if_neg z, laM_hi hLe (by omega)]
theorem cpG.toX {D A B Av Bv : Nat} {R : Nat → Nat} {l3 : Int} {l e : Nat} {us : List Nat} {v0 v1 f0 f1 q n0 m0 n1 m1 q1 : Nat} (h : cpG sa b E D T0 p c A B Av Bv R l3 l e us v0 v1 f0 f1) (hA : A ≤ l) (e0 : l + B - A = n0) (e1 : v0 + Bv - Av = m0) (e2 : e + B - A = n1) (e3 : v1 + Bv - Av = m1) (e4 : q + f1 - f0 = q1) (hC : ∀ j w, l ≤ j → j < e → w < 7 → C (j + B - A) w = mvC c A B Av Bv R (C n0 6) l j w) (hC6 : -1 ≤ C n0 6 ∧ C n0 6 < 200) :
    cpX sa b E D T0 p C R l3 l us (fun _ => True) n0 m0 q n1 m1 q1 := by
  intro T φ h1 h2 h3 h4
  subst e0 e1 e2 e3 e4
  refine h T q (C (l + B - A) 6) φ h1 hC6 (fun y hy _ => h2 y hy trivial) (fun hfit T' hS hCM hcE h27 => h3 hfit T' hS (fun k k1 k2 w hw => ?_) hcE h27) h4
  have := hCM (k + A - B) (by omega) (by omega) w hw
  rw [show k + A - B + B - A = k by omega] at this
  rw [this, ← hC (k + A - B) w (by omega) (by omega) hw, show k + A - B + B - A = k by omega]
end C6
