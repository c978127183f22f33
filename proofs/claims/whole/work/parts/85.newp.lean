/-! THE NEW PROGRAMS: a let dropped, a function put in place of a call -/
def mvC (c : Nat → Nat → Int) (A B Av Bv : Nat) (R : Nat → Nat) (up : Int) (l j w : Nat) : Int :=
  if w = 0 then c j 0 else if w = 1 then (if c j 0 = 1 then c j 1 else if c j 0 = 0 then (R (c j 1).toNat : Int) else if c j 0 = 2 ∨ c j 0 = 3 ∨ c j 0 = 5 then c j 1 + Bv - Av else -1)
  else if w = 2 then (if c j 0 = 3 then c j 2 + Bv - Av else -1) else if w = 6 then (if j = l then up else c j 6 + B - A) else (if c j w = -1 then -1 else c j w + B - A)
def moC (c : Nat → Nat → Int) (L eL E' vL vE V' j w : Nat) : Int :=
  if w = 0 then c j 0 else if w = 1 then (if c j 0 = 1 then c j 1 else if c j 0 = 0 ∨ c j 0 = 2 ∨ c j 0 = 3 ∨ c j 0 = 5 then (muM vL vE V' (c j 1).toNat : Int) else -1)
  else if w = 2 then (if c j 0 = 3 then (muM vL vE V' (c j 2).toNat : Int) else -1) else laM L eL E' (c j w)
theorem mvC_1 {c c' : Nat → Nat → Int} {A B Av Bv : Nat} {R : Nat → Nat} {up : Int} {l j : Nat} (h : ∀ w, w < 7 → c' (j + B - A) w = mvC c A B Av Bv R up l j w) : mv1 c c' A B Av Bv R j ∧ (j ≠ l → c' (j + B - A) 6 = c j 6 + B - A) ∧ (j = l → c' (j + B - A) 6 = up) := by
  have h0 := h 0 (by decide)
  have h1 := h 1 (by decide)
  have h2 := h 2 (by decide)
  have h6 := h 6 (by decide)
  unfold mvC at h0 h1 h2 h6
  rw [if_pos rfl] at h0
  rw [if_neg (by decide), if_pos rfl] at h1
  rw [if_neg (by decide), if_neg (by decide), if_pos rfl] at h2
  rw [if_neg (by decide), if_neg (by decide), if_neg (by decide), if_pos rfl] at h6
  refine ⟨⟨h0, fun z => by rw [h1, if_pos z], fun z => by rw [h1, if_neg (by omega), if_pos z], fun z => by rw [h1, if_neg (by omega), if_neg (by omega), if_pos z], fun z => by rw [h1, if_neg (by omega), if_neg (by omega), if_neg (by omega)], fun z => by rw [h2, if_pos z], fun z => by rw [h2, if_neg z], fun w w3 w5 => ?_⟩, fun z => by rw [h6, if_neg z], fun z => by rw [h6, if_pos z]⟩
  have hw := h w (by omega)
  unfold mvC at hw
  rw [if_neg (by omega), if_neg (by omega), if_neg (by omega), if_neg (by omega)] at hw
  exact hw
theorem moC_1 {c c' : Nat → Nat → Int} {L eL E' vL vE V' j : Nat} (h : ∀ w, w < 7 → c' (laN L eL E' j) w = moC c L eL E' vL vE V' j w) : mo1 c c' L eL E' vL vE V' j := by
  have h0 := h 0 (by decide)
  have h1 := h 1 (by decide)
  have h2 := h 2 (by decide)
  unfold moC at h0 h1 h2
  rw [if_pos rfl] at h0
  rw [if_neg (by decide), if_pos rfl] at h1
  rw [if_neg (by decide), if_neg (by decide), if_pos rfl] at h2
  refine ⟨h0, fun z => by rw [h1, if_pos z], fun z => by rw [h1, if_neg (by omega), if_pos z], fun z => by rw [h1, if_neg (by omega), if_neg (by omega)], fun z => by rw [h2, if_pos z], fun z => by rw [h2, if_neg z], fun w w3 w6 => ?_⟩
  have hw := h w (by omega)
  unfold moC at hw
  rw [if_neg (by omega), if_neg (by omega), if_neg (by omega)] at hw
  exact hw
section NP
variable {c : Nat → Nat → Int} {n nv nf : Nat}
/-- a label of a program, its numbers as they are counted -/
theorem wP.can (hw : wP c n nv nf) : ∃ F, wf c F 0 n (-1) [] (vcn c 0) (vcn c n) (fcn c 0) (fcn c n) ∧ vcn c n = nv ∧ fcn c n = nf := by
  obtain ⟨h1, h2, h3, F, hF⟩ := hw
  have := wf_cnt _ _ _ _ _ _ _ _ _ hF
  have e1 : vcn c 0 = 0 := rfl
  have e2 : fcn c 0 = 0 := rfl
  have e3 : vcn c n = nv := by omega
  have e4 : fcn c n = nf := by omega
  exact ⟨F, by rw [e3, e4]; exact hF, e3, e4⟩
theorem wf_can {f l e : Nat} {up : Int} {vs : List Nat} : ∀ k, wf c f l e up vs (vcn c l) (vcn c e) (fcn c l) (fcn c e) → (∀ x, x ∈ vs → x < vcn c l) → e ≤ 200 → l ≤ k → k < e → ∃ f' vs', wf c f' k (en c k) (c k 6) vs' (vcn c k) (vcn c (en c k)) (fcn c k) (fcn c (en c k)) ∧ en c k ≤ e ∧ ∀ x, x ∈ vs' → x < vcn c k := by
  induction f generalizing l e up vs with
  | zero => intro k h; exact h.elim
  | succ f ih =>
    intro k h hvs he hk hke
    have hen : en c l = e := wf_en _ _ _ _ _ _ _ _ _ h 200 (by omega)
    by_cases q : k = l
    · subst q
      have h6 := h.1
      exact ⟨f + 1, vs, by rw [hen, h6]; exact h, by omega, hvs⟩
    have hv' : vcn c (l + 1) = vcn c l + (if c l 0 = 3 then 2 else if c l 0 = 2 ∨ c l 0 = 5 then 1 else 0) := rfl
    have hf' : fcn c (l + 1) = fcn c l + (if c l 0 = 2 ∨ c l 0 = 3 then 1 else 0) := rfl
    obtain ⟨_, h⟩ := h
    rcases h with h | h | h | h | h | h | h
    · obtain ⟨_, _, _, _, _, _, h1, _⟩ := h; omega
    · obtain ⟨_, _, _, _, _, _, h1, _⟩ := h; omega
    · obtain ⟨k0, _, _, _, _, _, h1⟩ := h
      rw [if_neg (by omega), if_pos (Or.inl k0)] at hv'; rw [if_pos (Or.inl k0)] at hf'
      rw [← hv', ← hf'] at h1
      refine ih k h1 (fun x hx => ?_) he (by omega) hke
      rcases List.mem_cons.mp hx with z | z
      · omega
      · have := hvs x z; omega
    · obtain ⟨k0, _, _, _, _, _, h1⟩ := h
      rw [if_pos k0] at hv'; rw [if_pos (Or.inr k0)] at hf'
      rw [← hv', ← hf'] at h1
      refine ih k h1 (fun x hx => ?_) he (by omega) hke
      rcases List.mem_cons.mp hx with z | z
      · omega
      · rcases List.mem_cons.mp z with z | z
        · omega
        · have := hvs x z; omega
    · obtain ⟨k0, _, _, _, _, m, v, g, _, h1, h2⟩ := h
      rw [if_neg (by omega), if_pos (Or.inr k0)] at hv'; rw [if_neg (by omega)] at hf'
      have a1 := wf_lt _ _ _ _ _ _ _ _ _ h1
      have a2 := wf_lt _ _ _ _ _ _ _ _ _ h2
      have b1 := wf_cnt _ _ _ _ _ _ _ _ _ h1
      obtain rfl : v = vcn c m := by omega
      obtain rfl : g = fcn c m := by omega
      have x1 := vcn_mono (c := c) (show l + 1 ≤ m by omega)
      by_cases z : k < m
      · obtain ⟨f', vs', y1, y2, y3⟩ := ih k (by rw [hv', hf']; exact h1) (fun x hx => by have := hvs x hx; omega) (by omega) (by omega) z
        exact ⟨f', vs', y1, by omega, y3⟩
      · refine ih k h2 (fun x hx => ?_) he (by omega) hke
        rcases List.mem_cons.mp hx with z | z
        · omega
        · have := hvs x z; omega
    · obtain ⟨k0, _, _, _, m, v, g, m2, v2, g2, _, _, h1, h2, h3⟩ := h
      rw [if_neg (by omega), if_neg (by omega)] at hv'; rw [if_neg (by omega)] at hf'
      have a1 := wf_lt _ _ _ _ _ _ _ _ _ h1
      have a2 := wf_lt _ _ _ _ _ _ _ _ _ h2
      have a3 := wf_lt _ _ _ _ _ _ _ _ _ h3
      have b1 := wf_cnt _ _ _ _ _ _ _ _ _ h1
      have b1' := wf_cnt _ _ _ _ _ _ _ _ _ h2
      obtain rfl : v = vcn c m := by omega
      obtain rfl : g = fcn c m := by omega
      obtain rfl : v2 = vcn c m2 := by omega
      obtain rfl : g2 = fcn c m2 := by omega
      have x1 := vcn_mono (c := c) (show l + 1 ≤ m by omega)
      have x2 := vcn_mono (c := c) (show m ≤ m2 by omega)
      by_cases z : k < m
      · obtain ⟨f', vs', y1, y2, y3⟩ := ih k (by rw [hv', hf']; exact h1) (fun x hx => by have := hvs x hx; omega) (by omega) (by omega) z
        exact ⟨f', vs', y1, by omega, y3⟩
      by_cases z2 : k < m2
      · obtain ⟨f', vs', y1, y2, y3⟩ := ih k h2 (fun x hx => by have := hvs x hx; omega) (by omega) (by omega) z2
        exact ⟨f', vs', y1, by omega, y3⟩
      · exact ih k h3 (fun x hx => by have := hvs x hx; omega) he (by omega) hke
    · obtain ⟨k0, _, _, _, _, m, v, g, _, h1, h2⟩ := h
      rw [if_neg (by omega), if_neg (by omega)] at hv'; rw [if_neg (by omega)] at hf'
      have a1 := wf_lt _ _ _ _ _ _ _ _ _ h1
      have a2 := wf_lt _ _ _ _ _ _ _ _ _ h2
      have b1 := wf_cnt _ _ _ _ _ _ _ _ _ h1
      obtain rfl : v = vcn c m := by omega
      obtain rfl : g = fcn c m := by omega
      have x1 := vcn_mono (c := c) (show l + 1 ≤ m by omega)
      by_cases z : k < m
      · obtain ⟨f', vs', y1, y2, y3⟩ := ih k (by rw [hv', hf']; exact h1) (fun x hx => by have := hvs x hx; omega) (by omega) (by omega) z
        exact ⟨f', vs', y1, by omega, y3⟩
      · exact ih k h2 (fun x hx => by have := hvs x hx; omega) he (by omega) hke
theorem wP.at2 (hw : wP c n nv nf) {k : Nat} (hk : k < n) : ∃ f vs, wf c f k (en c k) (c k 6) vs (vcn c k) (vcn c (en c k)) (fcn c k) (fcn c (en c k)) ∧ en c k ≤ n ∧ ∀ x, x ∈ vs → x < vcn c k := by
  obtain ⟨F, hF, _⟩ := hw.can
  exact wf_can k hF (fun x hx => by cases hx) hw.1 (Nat.zero_le _) hk
end NP
