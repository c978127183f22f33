/-! WELL FORMED PROGRAMS, label by label -/
abbrev isFn (c : Nat → Nat → Int) (l : Nat) : Prop := c l 0 = 2 ∨ c l 0 = 3
/-- functions below a label; names of v below a label -/
def fcn (c : Nat → Nat → Int) : Nat → Nat
  | 0 => 0
  | l + 1 => fcn c l + if c l 0 = 2 ∨ c l 0 = 3 then 1 else 0
def mcn (c : Nat → Nat → Int) (v : Nat) : Nat → Nat
  | 0 => 0
  | l + 1 => mcn c v l + if c l 0 = 0 ∧ c l 1 = (v : Int) then 1 else 0
def foN (c : Nat → Nat → Int) (l : Nat) : Int := if c l 0 = 2 ∨ c l 0 = 3 then (fcn c l : Int) else -1
def wiN (c : Nat → Nat → Int) : Nat → Nat → Int
  | 0, _ => -1
  | f + 1, l => if c l 6 = -1 then -1 else if foN c (c l 6).toNat = -1 then wiN c f (c l 6).toNat else foN c (c l 6).toNat
/-- the function in whose body a label stands -/
def wi (c : Nat → Nat → Int) (l : Nat) : Int := wiN c (l + 1) l
/-- one label's facts; the expr that it stands in ends at e -/
def w1 (c : Nat → Nat → Int) (nv e l : Nat) : Prop := (0 ≤ c l 0 ∧ c l 0 ≤ 11) ∧ ((c l 0 = 0 ∨ c l 0 = 2 ∨ c l 0 = 3 ∨ c l 0 = 5) → 0 ≤ c l 1 ∧ c l 1 < nv) ∧ (c l 0 = 3 → 0 ≤ c l 2 ∧ c l 2 < nv) ∧ (2 ≤ c l 0 → c l 3 = l + 1 ∧ l + 1 < e) ∧ (4 ≤ c l 0 → l + 1 < c l 4 ∧ c l 4 < e) ∧ (c l 0 = 4 → c l 4 < c l 5 ∧ c l 5 < e) ∧ (c l 0 < 4 → c l 4 = -1) ∧ (c l 0 ≠ 4 → c l 5 = -1) ∧ (c l 0 < 2 → c l 3 = -1) ∧ (c l 0 ≠ 3 → c l 2 = -1) ∧ ((c l 0 = 4 ∨ 6 ≤ c l 0) → c l 1 = -1) ∧ (c l 0 = 1 → -999999 ≤ c l 1 ∧ c l 1 ≤ 999999)
theorem w1.mono {c : Nat → Nat → Int} {nv nv2 e e2 l : Nat} (h : w1 c nv e l) (hv : nv ≤ nv2) (he : e ≤ e2) : w1 c nv2 e2 l := by
  obtain ⟨h1, h2, h3, h4, h5, h6, h7⟩ := h
  refine ⟨h1, fun z => ?_, fun z => ?_, fun z => ?_, fun z => ?_, fun z => ?_, h7⟩
  · have := h2 z; omega
  · have := h3 z; omega
  · have := h4 z; omega
  · have := h5 z; omega
  · have := h6 z; omega
theorem fcn_mono {c : Nat → Nat → Int} {a b : Nat} (h : a ≤ b) : fcn c a ≤ fcn c b := by
  induction b with
  | zero => rw [show a = 0 by omega]; exact Nat.le_refl _
  | succ b ih =>
    by_cases e : a = b + 1
    · rw [e]; exact Nat.le_refl _
    · have := ih (by omega); rw [fcn]; omega
theorem wf_flat {c : Nat → Nat → Int} : ∀ (f l e : Nat) (up : Int) (vs : List Nat) (v0 v1 f0 f1 : Nat), wf c f l e up vs v0 v1 f0 f1 → (∀ x, x ∈ vs → x < v0) → l < e ∧ v0 ≤ v1 ∧ fcn c e + f0 = fcn c l + f1 ∧ c l 6 = up ∧ ∀ m, l ≤ m → m < e → w1 c v1 e m ∧ (l < m → (l : Int) ≤ c m 6 ∧ c m 6 < m) := by
  intro f
  induction f with
  | zero => intro l e up vs v0 v1 f0 f1 h; exact h.elim
  | succ f ih =>
    intro l e up vs v0 v1 f0 f1 h hvs
    obtain ⟨hup, h⟩ := h
    rcases h with ⟨k, ⟨x, hx, k1⟩, k2, k3, k4, k5, rfl, rfl, rfl⟩ | ⟨k, k1, k2, k3, k4, k5, rfl, rfl, rfl⟩ | ⟨k, k1, k2, k3, k4, k5, hb⟩ | ⟨k, k1, k2, k3, k4, k5, hb⟩ | ⟨k, k1, k2, k3, k5, m, v, g, k4, ha, hb⟩ | ⟨k, k1, k2, k3, m, v, g, m2, v2, g2, k4, k5, ha, hb, hc⟩ | ⟨k, k1, k2, k3, k5, m, v, g, k4, ha, hb⟩
    · have := hvs x hx
      refine ⟨by omega, Nat.le_refl _, by rw [fcn, if_neg (by omega)]; omega, hup, fun m h1 h2 => ?_⟩
      obtain rfl : m = l := by omega
      exact ⟨by unfold w1; omega, by omega⟩
    · refine ⟨by omega, Nat.le_refl _, by rw [fcn, if_neg (by omega)]; omega, hup, fun m h1 h2 => ?_⟩
      obtain rfl : m = l := by omega
      exact ⟨by unfold w1; omega, by omega⟩
    · obtain ⟨b1, b2, b3, b4, b5⟩ := ih _ _ _ _ _ _ _ _ hb (by intro x hx; rcases List.mem_cons.mp hx with rfl | hx; omega; have := hvs x hx; omega)
      refine ⟨by omega, by omega, by rw [fcn, if_pos (by omega)] at b3; omega, hup, fun j h1 h2 => ?_⟩
      by_cases e1 : j = l
      · subst e1; exact ⟨by unfold w1; omega, by omega⟩
      · obtain ⟨q1, q2⟩ := b5 j (by omega) h2
        refine ⟨q1, fun _ => ?_⟩
        by_cases e2 : j = l + 1
        · subst e2; omega
        · have := q2 (by omega); omega
    · obtain ⟨b1, b2, b3, b4, b5⟩ := ih _ _ _ _ _ _ _ _ hb (by intro x hx; rcases List.mem_cons.mp hx with rfl | hx; omega; rcases List.mem_cons.mp hx with rfl | hx; omega; have := hvs x hx; omega)
      refine ⟨by omega, by omega, by rw [fcn, if_pos (by omega)] at b3; omega, hup, fun j h1 h2 => ?_⟩
      by_cases e1 : j = l
      · subst e1; exact ⟨by unfold w1; omega, by omega⟩
      · obtain ⟨q1, q2⟩ := b5 j (by omega) h2
        refine ⟨q1, fun _ => ?_⟩
        by_cases e2 : j = l + 1
        · subst e2; omega
        · have := q2 (by omega); omega
    · obtain ⟨a1, a2, a3, a4, a5⟩ := ih _ _ _ _ _ _ _ _ ha (fun x hx => by have := hvs x hx; omega)
      obtain ⟨b1, b2, b3, b4, b5⟩ := ih _ _ _ _ _ _ _ _ hb (by intro x hx; rcases List.mem_cons.mp hx with rfl | hx; omega; have := hvs x hx; omega)
      refine ⟨by omega, by omega, by rw [fcn, if_neg (by omega)] at a3; omega, hup, fun j h1 h2 => ?_⟩
      by_cases e1 : j = l
      · subst e1; exact ⟨by unfold w1; omega, by omega⟩
      · by_cases jm : j < m
        · obtain ⟨q1, q2⟩ := a5 j (by omega) jm
          refine ⟨q1.mono (by omega) (by omega), fun _ => ?_⟩
          by_cases e2 : j = l + 1
          · subst e2; omega
          · have := q2 (by omega); omega
        · obtain ⟨q1, q2⟩ := b5 j (by omega) h2
          refine ⟨q1, fun _ => ?_⟩
          by_cases e2 : j = m
          · subst e2; omega
          · have := q2 (by omega); omega
    · obtain ⟨a1, a2, a3, a4, a5⟩ := ih _ _ _ _ _ _ _ _ ha hvs
      obtain ⟨b1, b2, b3, b4, b5⟩ := ih _ _ _ _ _ _ _ _ hb (fun x hx => by have := hvs x hx; omega)
      obtain ⟨d1, d2, d3, d4, d5⟩ := ih _ _ _ _ _ _ _ _ hc (fun x hx => by have := hvs x hx; omega)
      refine ⟨by omega, by omega, by rw [fcn, if_neg (by omega)] at a3; omega, hup, fun j h1 h2 => ?_⟩
      by_cases e1 : j = l
      · subst e1; exact ⟨by unfold w1; omega, by omega⟩
      · by_cases jm : j < m
        · obtain ⟨q1, q2⟩ := a5 j (by omega) jm
          refine ⟨q1.mono (by omega) (by omega), fun _ => ?_⟩
          by_cases e2 : j = l + 1
          · subst e2; omega
          · have := q2 (by omega); omega
        · by_cases jm2 : j < m2
          · obtain ⟨q1, q2⟩ := b5 j (by omega) jm2
            refine ⟨q1.mono (by omega) (by omega), fun _ => ?_⟩
            by_cases e2 : j = m
            · subst e2; omega
            · have := q2 (by omega); omega
          · obtain ⟨q1, q2⟩ := d5 j (by omega) h2
            refine ⟨q1, fun _ => ?_⟩
            by_cases e2 : j = m2
            · subst e2; omega
            · have := q2 (by omega); omega
    · obtain ⟨a1, a2, a3, a4, a5⟩ := ih _ _ _ _ _ _ _ _ ha hvs
      obtain ⟨b1, b2, b3, b4, b5⟩ := ih _ _ _ _ _ _ _ _ hb (fun x hx => by have := hvs x hx; omega)
      refine ⟨by omega, by omega, by rw [fcn, if_neg (by omega)] at a3; omega, hup, fun j h1 h2 => ?_⟩
      by_cases e1 : j = l
      · subst e1; exact ⟨by unfold w1; omega, by omega⟩
      · by_cases jm : j < m
        · obtain ⟨q1, q2⟩ := a5 j (by omega) jm
          refine ⟨q1.mono (by omega) (by omega), fun _ => ?_⟩
          by_cases e2 : j = l + 1
          · subst e2; omega
          · have := q2 (by omega); omega
        · obtain ⟨q1, q2⟩ := b5 j (by omega) h2
          refine ⟨q1, fun _ => ?_⟩
          by_cases e2 : j = m
          · subst e2; omega
          · have := q2 (by omega); omega
/-- a whole program: n exprs, nv variables, nf functions -/
def wP (c : Nat → Nat → Int) (n nv nf : Nat) : Prop := n ≤ 200 ∧ nv ≤ 100 ∧ nf ≤ 50 ∧ ∃ f, wf c f 0 n (-1) [] 0 nv 0 nf
theorem wP.flat {c : Nat → Nat → Int} {n nv nf : Nat} (h : wP c n nv nf) : 0 < n ∧ fcn c n = nf ∧ c 0 6 = -1 ∧ ∀ l, l < n → w1 c nv n l ∧ (0 < l → 0 ≤ c l 6 ∧ c l 6 < l) := by
  obtain ⟨_, _, _, f, hw⟩ := h
  obtain ⟨h1, h2, h3, h4, h5⟩ := wf_flat f 0 n (-1) [] 0 nv 0 nf hw (fun x hx => by simp at hx)
  refine ⟨h1, by rw [fcn] at h3; omega, h4, fun l hl => ?_⟩
  obtain ⟨q1, q2⟩ := h5 l (by omega) hl
  exact ⟨q1, fun z => by have := q2 z; omega⟩
theorem wi_step {c : Nat → Nat → Int} {n : Nat} (hU : ∀ l, l < n → c l 6 = -1 ∨ (0 ≤ c l 6 ∧ c l 6 < l)) : ∀ (f g l : Nat), l < f → l < g → l < n → wiN c f l = wiN c g l := by
  intro f
  induction f with
  | zero => intro g l h; omega
  | succ f ih =>
    intro g l h1 h2 h3
    obtain ⟨k, rfl⟩ : ∃ k, g = k + 1 := ⟨g - 1, by omega⟩
    rw [wiN, wiN]
    rcases hU l h3 with hu | hu
    · rw [if_pos hu, if_pos hu]
    · have hne : ¬ c l 6 = -1 := by omega
      rw [if_neg hne, if_neg hne, ih k (c l 6).toNat (by omega) (by omega) (by omega)]
theorem wi_eq {c : Nat → Nat → Int} {n l : Nat} (hU : ∀ l, l < n → c l 6 = -1 ∨ (0 ≤ c l 6 ∧ c l 6 < l)) (hl : l < n) : wi c l = if c l 6 = -1 then -1 else if foN c (c l 6).toNat = -1 then wi c (c l 6).toNat else foN c (c l 6).toNat := by
  unfold wi
  rw [wiN]
  rcases hU l hl with hu | hu
  · rw [if_pos hu, if_pos hu]
  · have hne : ¬ c l 6 = -1 := by omega
    rw [if_neg hne, if_neg hne, wi_step hU l ((c l 6).toNat + 1) (c l 6).toNat (by omega) (by omega) (by omega)]
theorem wi_rg {c : Nat → Nat → Int} {n : Nat} (hU : ∀ l, l < n → c l 6 = -1 ∨ (0 ≤ c l 6 ∧ c l 6 < l)) : ∀ l, l < n → -1 ≤ wi c l ∧ wi c l < (fcn c n : Int) := by
  intro l
  induction l using Nat.strongRecOn with
  | ind l ih =>
    intro hl
    rw [wi_eq hU hl]
    rcases hU l hl with hu | hu
    · rw [if_pos hu]; omega
    · rw [if_neg (by omega)]
      split
      · exact ih _ (by omega) (by omega)
      · rename_i hf
        unfold foN at hf ⊢
        split
        · rename_i hk
          have h1 : fcn c ((c l 6).toNat + 1) ≤ fcn c n := fcn_mono (by omega)
          rw [fcn, if_pos hk] at h1
          omega
        · rename_i hk; rw [if_neg hk] at hf; exact absurd rfl hf
