/-! WELL FORMED PROGRAMS: cells c label what; an expr stands at l .. e - 1, part of up, with the variables vs round it; variables v0 .. v1 - 1 and functions f0 .. f1 - 1 are its own -/
def wf (c : Nat → Nat → Int) : Nat → Nat → Nat → Int → List Nat → Nat → Nat → Nat → Nat → Prop
  | 0, _, _, _, _, _, _, _, _ => False
  | f + 1, l, e, up, vs, v0, v1, f0, f1 => c l 6 = up ∧ (
    (c l 0 = 0 ∧ (∃ x, x ∈ vs ∧ c l 1 = (x : Int)) ∧ c l 2 = -1 ∧ c l 3 = -1 ∧ c l 4 = -1 ∧ c l 5 = -1 ∧ e = l + 1 ∧ v1 = v0 ∧ f1 = f0) ∨
    (c l 0 = 1 ∧ (-999999 ≤ c l 1 ∧ c l 1 ≤ 999999) ∧ c l 2 = -1 ∧ c l 3 = -1 ∧ c l 4 = -1 ∧ c l 5 = -1 ∧ e = l + 1 ∧ v1 = v0 ∧ f1 = f0) ∨
    (c l 0 = 2 ∧ c l 1 = (v0 : Int) ∧ c l 2 = -1 ∧ c l 3 = ((l + 1 : Nat) : Int) ∧ c l 4 = -1 ∧ c l 5 = -1 ∧ wf c f (l + 1) e l (v0 :: vs) (v0 + 1) v1 (f0 + 1) f1) ∨
    (c l 0 = 3 ∧ c l 1 = ((v0 + 1 : Nat) : Int) ∧ c l 2 = (v0 : Int) ∧ c l 3 = ((l + 1 : Nat) : Int) ∧ c l 4 = -1 ∧ c l 5 = -1 ∧ wf c f (l + 1) e l ((v0 + 1) :: v0 :: vs) (v0 + 2) v1 (f0 + 1) f1) ∨
    (c l 0 = 5 ∧ c l 1 = (v0 : Int) ∧ c l 2 = -1 ∧ c l 3 = ((l + 1 : Nat) : Int) ∧ c l 5 = -1 ∧ ∃ m v g, c l 4 = ((m : Nat) : Int) ∧ wf c f (l + 1) m l vs (v0 + 1) v f0 g ∧ wf c f m e l (v0 :: vs) v v1 g f1) ∨
    (c l 0 = 4 ∧ c l 1 = -1 ∧ c l 2 = -1 ∧ c l 3 = ((l + 1 : Nat) : Int) ∧ ∃ m v g m2 v2 g2, c l 4 = ((m : Nat) : Int) ∧ c l 5 = ((m2 : Nat) : Int) ∧ wf c f (l + 1) m l vs v0 v f0 g ∧ wf c f m m2 l vs v v2 g g2 ∧ wf c f m2 e l vs v2 v1 g2 f1) ∨
    ((6 ≤ c l 0 ∧ c l 0 ≤ 11) ∧ c l 1 = -1 ∧ c l 2 = -1 ∧ c l 3 = ((l + 1 : Nat) : Int) ∧ c l 5 = -1 ∧ ∃ m v g, c l 4 = ((m : Nat) : Int) ∧ wf c f (l + 1) m l vs v0 v f0 g ∧ wf c f m e l vs v v1 g f1))
/-- the cells of ts, from label l on -/
def cT (c : Nat → Nat → Int) (l : Nat) (ts : List (Nat → Int)) : Prop := ∀ m w, m < ts.length → w < 7 → c (l + m) w = ts.getD m (fun _ => 0) w
theorem cT.head {c : Nat → Nat → Int} {l : Nat} {t : Nat → Int} {ts : List (Nat → Int)} (h : cT c l (t :: ts)) {w : Nat} (hw : w < 7) : c l w = t w := h 0 w (by simp) hw
theorem cT.tail {c : Nat → Nat → Int} {l : Nat} {t : Nat → Int} {ts : List (Nat → Int)} (h : cT c l (t :: ts)) : cT c (l + 1) ts := by
  intro m w hm hw
  have := h (m + 1) w (by rw [List.length_cons]; omega) hw
  rw [show l + (m + 1) = l + 1 + m by omega] at this
  exact this
theorem cT.left {c : Nat → Nat → Int} {l : Nat} {t1 t2 : List (Nat → Int)} (h : cT c l (t1 ++ t2)) : cT c l t1 := by
  intro m w hm hw
  have := h m w (by rw [List.length_append]; omega) hw
  rw [List.getD_eq_getElem?_getD, List.getElem?_append_left hm, ← List.getD_eq_getElem?_getD] at this
  exact this
theorem cT.right {c : Nat → Nat → Int} {l : Nat} {t1 t2 : List (Nat → Int)} (h : cT c l (t1 ++ t2)) : cT c (l + t1.length) t2 := by
  intro m w hm hw
  have := h (t1.length + m) w (by rw [List.length_append]; omega) hw
  rw [List.getD_eq_getElem?_getD, List.getElem?_append_right (by omega), show t1.length + m - t1.length = m by omega, ← List.getD_eq_getElem?_getD] at this
  rw [show l + t1.length + m = l + (t1.length + m) by omega]
  exact this
theorem lk_mem {env : List (List Nat × Nat)} {w : List Nat} {x : Nat} (h : lk env w = some x) : x ∈ env.map (·.2) := by
  induction env with
  | nil => cases h
  | cons y r ih =>
    rw [lk] at h
    split at h
    · cases h; simp
    · rw [List.map_cons]; exact List.mem_cons_of_mem _ (ih h)
theorem xCl_ok {u : Nat → Nat} {n : Nat} {σ σ' : xS} {ts ts' : List (Nat → Int)} (h : xCl u n σ ts = .inr (σ', ts')) : ts' = ts ∧ σ'.2 = σ.2 := by
  unfold xCl xEnd at h
  split at h
  · cases h
  · rename_i s hs
    split at hs
    · cases hs; cases h; exact ⟨rfl, rfl⟩
    · cases hs
/-- what reading finds is well formed -/
def pW (n : Nat) (c : Nat → Nat → Int) (f : Nat) (env : List (List Nat × Nat)) (up : Int) (σ σ' : xS) (ts : List (Nat → Int)) : Prop := σ'.1 ≤ n ∧ σ'.2.1 = σ.2.1 + ts.length ∧ σ'.2.1 ≤ 200 ∧ wf c f σ.2.1 (σ.2.1 + ts.length) up (env.map (·.2)) σ.2.2.1 σ'.2.2.1 σ.2.2.2 σ'.2.2.2
def pxW (u : Nat → Nat) (n : Nat) (rec : xF) (f : Nat) : Prop := ∀ (env : List (List Nat × Nat)) (up : Int) (σ σ' : xS) (ts : List (Nat → Int)) (c : Nat → Nat → Int), σ.1 ≤ n → σ.2.1 ≤ 200 → rec env up σ = .inr (σ', ts) → cT c σ.2.1 ts → pW n c f env up σ σ' ts
theorem xE_wf {u : Nat → Nat} {n f : Nat} (hu : ∀ i, i < n → u i < 256) {big : Nat → Int → xR} {env : List (List Nat × Nat)} {up : Int} {σ σ' : xS} {ts : List (Nat → Int)} {c : Nat → Nat → Int} (hl : σ.2.1 ≤ 200) (hp : σ.1 ≤ n)
    (hb : ∀ s ch, σ.2.1 < 200 → s = sk u n σ.1 → cz u n s = ch → (ch = 92 ∨ ch = 40) → big s ch = .inr (σ', ts) → pW n c (f + 1) env up σ σ' ts)
    (h : xE u n big env up σ = .inr (σ', ts)) (hc : cT c σ.2.1 ts) : pW n c (f + 1) env up σ σ' ts := by
  have hs := sk_le (u := u) hp
  unfold xE at h
  split at h
  · cases h
  rename_i h200
  split at h
  · split at h
    · split at h
      · cases h
      · rename_i v hv
        cases h
        have q := fun {w} (hw : w < 7) => hc.head (w := w) hw
        refine ⟨(we_le hs.2).2, rfl, by show σ.2.1 + 1 ≤ 200; omega, (q (by omega)).trans (by simp [xTok]), Or.inl ⟨(q (by omega)).trans (by simp [xTok]), ⟨v, lk_mem hv, (q (by omega)).trans (by simp [xTok])⟩, (q (by omega)).trans (by simp [xTok]), (q (by omega)).trans (by simp [xTok]), (q (by omega)).trans (by simp [xTok]), (q (by omega)).trans (by simp [xTok]), rfl, rfl, rfl⟩⟩
    · cases h
  split at h
  · unfold xNu at h
    dsimp only at h
    have hq : (if cz u n (sk u n σ.1) = 45 then sk u n σ.1 + 1 else sk u n σ.1) ≤ n := by
      split
      · rename_i h45; have := cz_lt (u := u) (n := n) (p := sk u n σ.1) (by omega); omega
      · exact hs.2
    generalize (if cz u n (sk u n σ.1) = 45 then sk u n σ.1 + 1 else sk u n σ.1) = q0 at h hq
    obtain ⟨g1, g2, g3, g4⟩ := nu_rg hu 6 q0 0 hq (by omega)
    have e6 : ((0 : Int) + 1) * 10 ^ 6 = 1000000 := by decide
    rw [e6] at g4
    generalize nu u n 6 q0 0 = y at h g1 g2 g3 g4
    split at h
    · split at h
      · cases h
      · cases h
        have q := fun {w} (hw : w < 7) => hc.head (w := w) hw
        refine ⟨g2, rfl, by show σ.2.1 + 1 ≤ 200; omega, (q (by omega)).trans (by simp [xTok]), Or.inr (Or.inl ⟨(q (by omega)).trans (by simp [xTok]), ?_, (q (by omega)).trans (by simp [xTok]), (q (by omega)).trans (by simp [xTok]), (q (by omega)).trans (by simp [xTok]), (q (by omega)).trans (by simp [xTok]), rfl, rfl, rfl⟩)⟩
        rw [q (w := 1) (by omega)]
        show -999999 ≤ (if cz u n (sk u n σ.1) = 45 then _ else _) ∧ (if cz u n (sk u n σ.1) = 45 then _ else _) ≤ _
        split <;> omega
    · cases h
  split at h
  · rename_i hch; exact hb _ _ (by omega) rfl rfl hch h
  · cases h

theorem xBd_ok2 {u : Nat → Nat} {n : Nat} {w : List Nat} {σ σ' : xS} (h : xBd u n σ = .inr (w, σ')) : σ' = (we u n (sk u n σ.1), σ.2.1, σ.2.2.1 + 1, σ.2.2.2) := by
  unfold xBd at h
  split at h
  · split at h
    · cases h
    · cases h; rfl
  · cases h
/-- the places stay within the text -/
theorem xBd_le {u : Nat → Nat} {n : Nat} {w : List Nat} {σ σ' : xS} (h : xBd u n σ = .inr (w, σ')) (hp : σ.1 ≤ n) : σ'.1 ≤ n := by
  rw [xBd_ok2 h]
  exact (we_le (sk_le hp).2).2
theorem xEnd_ok {u : Nat → Nat} {n : Nat} {c : Int} {σ σ' : xS} (h : xEnd u n c σ = .inr σ') (hp : σ.1 ≤ n) (hc : 0 ≤ c) : σ' = (sk u n σ.1 + 1, σ.2) ∧ σ'.1 ≤ n := by
  unfold xEnd at h
  split at h
  · rename_i hz
    cases h
    have := cz_lt (u := u) (n := n) (p := sk u n σ.1) (by omega)
    exact ⟨rfl, by show sk u n σ.1 + 1 ≤ n; omega⟩
  · cases h

theorem xCl_le {u : Nat → Nat} {n : Nat} {σ σ' : xS} {ts ts' : List (Nat → Int)} (h : xCl u n σ ts = .inr (σ', ts')) (hp : σ.1 ≤ n) : σ'.1 ≤ n := by
  unfold xCl at h
  split at h
  · cases h
  · rename_i s hs
    cases h
    exact (xEnd_ok hs hp (by decide)).2
section PW
variable {u : Nat → Nat} {n f : Nat} {rec : xF} {env : List (List Nat × Nat)} {up : Int} {σ' : xS} {ts : List (Nat → Int)} {c : Nat → Nat → Int}
theorem xLam_wf {p0 s9 l nv nf : Nat} (hr : pxW u n rec f) (hp : p0 + 1 ≤ n) (hl : l < 200) (h : xLam u n rec env up p0 (s9, l, nv, nf) = .inr (σ', ts)) (hc : cT c l ts) : pW n c (f + 1) env up (s9, l, nv, nf) σ' ts := by
  unfold xLam at h
  dsimp only at h
  split at h
  · cases h
  split at h
  · cases h
  rename_i w σ1 hb
  have h1 := xBd_le hb hp
  have hσ := xBd_ok2 hb
  split at h
  · cases h
  rename_i σ2 he
  obtain ⟨h2, h3⟩ := xEnd_ok he h1 (by decide)
  split at h
  · cases h
  rename_i σ3 t1 hx
  cases h
  rw [hσ] at h2
  have e2 : σ2.2 = (l + 1, nv + 1, nf + 1) := by rw [h2]
  have q := hr _ _ σ2 _ _ c h3 (by rw [e2]; show l + 1 ≤ 200; omega) hx (by rw [e2]; exact hc.tail)
  obtain ⟨a1, a2, a3, a4⟩ := q
  rw [e2] at a2 a4
  dsimp only at a2 a4
  have g := fun {w} (hw : w < 7) => hc.head (w := w) hw
  refine ⟨a1, ?_, a3, ?_⟩
  · rw [a2, List.length_cons]; dsimp only; omega
  · refine ⟨(g (by omega)).trans (by simp [xTok]), Or.inr (Or.inr (Or.inl ⟨(g (by omega)).trans (by simp [xTok]), (g (by omega)).trans (by simp [xTok]), (g (by omega)).trans (by simp [xTok]), (g (by omega)).trans (by simp [xTok]), (g (by omega)).trans (by simp [xTok]), (g (by omega)).trans (by simp [xTok]), ?_⟩))⟩
    rw [List.length_cons]
    dsimp only
    rw [show l + (t1.length + 1) = l + 1 + t1.length by omega]
    exact a4
theorem xFx_wf {s0 s9 l nv nf : Nat} (hr : pxW u n rec f) (hp : s0 ≤ n) (hl : l < 200) (h : xFx u n rec env up (s0, l + 1, nv, nf + 1) = .inr (σ', ts)) (hc : cT c l ts) : pW n c (f + 1) env up (s9, l, nv, nf) σ' ts := by
  unfold xFx at h
  split at h
  · cases h
  rename_i w σ1 hb
  have h1 := xBd_le hb hp
  have hσ := xBd_ok2 hb
  split at h
  · cases h
  rename_i w2 σ2 hb2
  have h2 := xBd_le hb2 h1
  have hσ2 := xBd_ok2 hb2
  rw [hσ] at hσ2
  split at h
  · cases h
  rename_i σ3 t1 hx
  obtain ⟨rfl, e9⟩ := xCl_ok h
  have e2 : σ2.2 = (l + 1, nv + 2, nf + 1) := by rw [hσ2]
  obtain ⟨a1, a2, a3, a4⟩ := hr _ _ σ2 _ _ c h2 (by rw [e2]; show l + 1 ≤ 200; omega) hx (by rw [e2]; exact hc.tail)
  have hp3 := xCl_le h a1
  rw [e2] at a2 a4
  dsimp only at a2 a4
  have g := fun {w} (hw : w < 7) => hc.head (w := w) hw
  have e91 : σ'.2.1 = σ3.2.1 := by rw [e9]
  have e92 : σ'.2.2.1 = σ3.2.2.1 := by rw [e9]
  have e93 : σ'.2.2.2 = σ3.2.2.2 := by rw [e9]
  refine ⟨hp3, ?_, by omega, ?_⟩
  · rw [e91, a2, List.length_cons]; dsimp only; omega
  · refine ⟨(g (by omega)).trans (by simp [xTok]), Or.inr (Or.inr (Or.inr (Or.inl ⟨(g (by omega)).trans (by simp [xTok]), (g (by omega)).trans (by simp [xTok]), (g (by omega)).trans (by simp [xTok]), (g (by omega)).trans (by simp [xTok]), (g (by omega)).trans (by simp [xTok]), (g (by omega)).trans (by simp [xTok]), ?_⟩)))⟩
    rw [List.length_cons, e92, e93]
    dsimp only
    rw [show l + (t1.length + 1) = l + 1 + t1.length by omega]
    rw [show (((l + 1 : Nat) : Int) - 1) = (l : Int) by omega] at a4
    exact a4
theorem xLt_wf {s0 s9 l nv nf : Nat} (hr : pxW u n rec f) (hp : s0 ≤ n) (hl : l < 200) (h : xLt u n rec env up (s0, l + 1, nv, nf) = .inr (σ', ts)) (hc : cT c l ts) : pW n c (f + 1) env up (s9, l, nv, nf) σ' ts := by
  unfold xLt at h
  split at h
  · cases h
  rename_i w σ1 hb
  have h1 := xBd_le hb hp
  have hσ := xBd_ok2 hb
  split at h
  · cases h
  rename_i σ2 t1 hx
  split at h
  · cases h
  rename_i σ3 t2 hx2
  obtain ⟨rfl, e9⟩ := xCl_ok h
  have e1 : σ1.2 = (l + 1, nv + 1, nf) := by rw [hσ]
  have hct := hc.tail
  obtain ⟨a1, a2, a3, a4⟩ := hr _ _ σ1 _ _ c h1 (by rw [e1]; show l + 1 ≤ 200; omega) hx (by rw [e1]; exact hct.left)
  rw [e1] at a2 a4
  dsimp only at a2 a4
  obtain ⟨b1, b2, b3, b4⟩ := hr _ _ σ2 _ _ c a1 a3 hx2 (by rw [a2]; exact hct.right)
  have hp3 := xCl_le h b1
  have g := fun {w} (hw : w < 7) => hc.head (w := w) hw
  have e91 : σ'.2.1 = σ3.2.1 := by rw [e9]
  have e92 : σ'.2.2.1 = σ3.2.2.1 := by rw [e9]
  have e93 : σ'.2.2.2 = σ3.2.2.2 := by rw [e9]
  refine ⟨hp3, ?_, by omega, ?_⟩
  · rw [e91, b2, a2, List.length_cons, List.length_append]; dsimp only; omega
  · refine ⟨(g (by omega)).trans (by simp [xTok]), Or.inr (Or.inr (Or.inr (Or.inr (Or.inl ⟨(g (by omega)).trans (by simp [xTok]), (g (by omega)).trans (by simp [xTok]), (g (by omega)).trans (by simp [xTok]), (g (by omega)).trans (by simp [xTok]), (g (by omega)).trans (by simp [xTok]), l + 1 + t1.length, σ2.2.2.1, σ2.2.2.2, (g (by omega)).trans (by simp [xTok]; omega), ?_, ?_⟩))))⟩
    · rw [show (((l + 1 : Nat) : Int) - 1) = (l : Int) by omega] at a4
      exact a4
    · rw [List.length_cons, List.length_append, e92, e93]
      dsimp only
      rw [show l + (t1.length + t2.length + 1) = l + 1 + t1.length + t2.length by omega]
      rw [show (((l + 1 : Nat) : Int) - 1) = (l : Int) by omega, a2] at b4
      exact b4
theorem xMn_wf {s0 s9 l nv nf k : Nat} (hr : pxW u n rec f) (hp : s0 ≤ n) (hl : l < 200) (hk : k = 4 ∨ (6 ≤ k ∧ k ≤ 11)) (h : xMn u n rec env up k (if k = 4 then 3 else 2) (s0, l + 1, nv, nf) = .inr (σ', ts)) (hc : cT c l ts) : pW n c (f + 1) env up (s9, l, nv, nf) σ' ts := by
  unfold xMn at h
  dsimp only at h
  rw [show (((l + 1 : Nat) : Int) - 1) = (l : Int) by omega] at h
  split at h
  · cases h
  rename_i σ3 ls t9 hks
  obtain ⟨rfl, e9⟩ := xCl_ok h
  have e91 : σ'.2.1 = σ3.2.1 := by rw [e9]
  have e92 : σ'.2.2.1 = σ3.2.2.1 := by rw [e9]
  have e93 : σ'.2.2.2 = σ3.2.2.2 := by rw [e9]
  have g := fun {w} (hw : w < 7) => hc.head (w := w) hw
  have hct := hc.tail
  by_cases k4 : k = 4
  · rw [if_pos k4, xKs] at hks
    split at hks
    · cases hks
    rename_i σ1 t1 hx1
    rw [xKs] at hks
    split at hks
    · cases hks
    rename_i ls2 t8 hks2
    split at hks2
    · cases hks2
    rename_i σ2 t2 hx2
    rw [xKs] at hks2
    split at hks2
    · cases hks2
    rename_i ls3 t7 hks3
    split at hks3
    · cases hks3
    rename_i σ4 t3 hx3
    rw [xKs] at hks3
    dsimp only at hks3
    cases hks3
    cases hks2
    cases hks
    rw [List.append_nil] at *
    obtain ⟨a1, a2, a3, a4⟩ := hr _ _ _ _ _ c hp (by show l + 1 ≤ 200; omega) hx1 hct.left
    dsimp only at a2 a4
    obtain ⟨b1, b2, b3, b4⟩ := hr _ _ _ _ _ c a1 a3 hx2 (by rw [a2]; exact hct.right.left)
    obtain ⟨d1, d2, d3, d4⟩ := hr _ _ _ _ _ c b1 b3 hx3 (by rw [b2, a2]; exact hct.right.right)
    have hp3 := xCl_le h d1
    refine ⟨hp3, ?_, by omega, ?_⟩
    · rw [e91, d2, b2, a2, List.length_cons, List.length_append, List.length_append]; dsimp only; omega
    · refine ⟨(g (by omega)).trans (by simp [tkL, tokS, xTok]), Or.inr (Or.inr (Or.inr (Or.inr (Or.inr (Or.inl ⟨(g (by omega)).trans (by simp [tkL, tokS, xTok, k4]), (g (by omega)).trans (by simp [tkL, tokS, xTok]), (g (by omega)).trans (by simp [tkL, tokS, xTok]), (g (by omega)).trans (by simp [tkL, tokS, xTok]), l + 1 + t1.length, σ1.2.2.1, σ1.2.2.2, l + 1 + t1.length + t2.length, σ2.2.2.1, σ2.2.2.2, (g (by omega)).trans (by simp [tkL, tokS, xTok]; omega), (g (by omega)).trans (by simp [tkL, tokS, xTok]; omega), a4, ?_, ?_⟩)))))⟩
      · rw [a2] at b4; exact b4
      · rw [List.length_cons, List.length_append, List.length_append, e92, e93]
        dsimp only
        rw [show l + (t1.length + (t2.length + t3.length) + 1) = l + 1 + t1.length + t2.length + t3.length by omega]
        rw [b2, a2] at d4
        exact d4
  · rw [if_neg k4, xKs] at hks
    split at hks
    · cases hks
    rename_i σ1 t1 hx1
    rw [xKs] at hks
    split at hks
    · cases hks
    rename_i ls2 t8 hks2
    split at hks2
    · cases hks2
    rename_i σ2 t2 hx2
    rw [xKs] at hks2
    dsimp only at hks2
    cases hks2
    cases hks
    rw [List.append_nil] at *
    obtain ⟨a1, a2, a3, a4⟩ := hr _ _ _ _ _ c hp (by show l + 1 ≤ 200; omega) hx1 hct.left
    dsimp only at a2 a4
    obtain ⟨b1, b2, b3, b4⟩ := hr _ _ _ _ _ c a1 a3 hx2 (by rw [a2]; exact hct.right)
    have hp3 := xCl_le h b1
    have hg0 : c l 0 = (k : Int) := (g (by omega)).trans (by simp [tkL, tokS, xTok])
    refine ⟨hp3, ?_, by omega, ?_⟩
    · rw [e91, b2, a2, List.length_cons, List.length_append]; dsimp only; omega
    · refine ⟨(g (by omega)).trans (by simp [tkL, tokS, xTok]), Or.inr (Or.inr (Or.inr (Or.inr (Or.inr (Or.inr ⟨by rw [hg0]; omega, (g (by omega)).trans (by simp [tkL, tokS, xTok]), (g (by omega)).trans (by simp [tkL, tokS, xTok]), (g (by omega)).trans (by simp [tkL, tokS, xTok]), (g (by omega)).trans (by simp [tkL, tokS, xTok]), l + 1 + t1.length, σ1.2.2.1, σ1.2.2.2, (g (by omega)).trans (by simp [tkL, tokS, xTok]; omega), a4, ?_⟩)))))⟩
      rw [List.length_cons, List.length_append, e92, e93]
      dsimp only
      rw [show l + (t1.length + t2.length + 1) = l + 1 + t1.length + t2.length by omega]
      rw [a2] at b4
      exact b4
end PW
