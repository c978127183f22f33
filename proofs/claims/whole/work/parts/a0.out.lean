/-! WHAT IS WRITTEN -/
def dgk (v : Int) (u : Int) : Nat := (48 + (v / u) % 10).toNat
/-- the digits of a number up to 999999 -/
def dg (v : Int) : List Nat := (if 100000 ≤ v then [dgk v 100000] else []) ++ ((if 10000 ≤ v then [dgk v 10000] else []) ++ ((if 1000 ≤ v then [dgk v 1000] else []) ++ ((if 100 ≤ v then [dgk v 100] else []) ++ ((if 10 ≤ v then [dgk v 10] else []) ++ [dgk v 1]))))
def nmS (v : Int) : List Nat := if 0 ≤ v then dg v else 45 :: dg (-v)
def vrS (v : Int) : List Nat := 118 :: nmS v
/-- how an expr begins -/
def hdS (c : Nat → Nat → Int) (l : Nat) : List Nat :=
  if c l 0 = 0 then vrS (c l 1) else if c l 0 = 1 then nmS (c l 1) else if c l 0 = 2 then 92 :: (vrS (c l 1) ++ [46])
  else if c l 0 = 3 then [40, 102, 105, 120, 32] ++ (vrS (c l 2) ++ (32 :: vrS (c l 1))) else if c l 0 = 4 then [40, 105, 102] else if c l 0 = 5 then [40, 108, 101, 116, 32] ++ vrS (c l 1)
  else if c l 0 = 11 then [40] else [40, stB.getD (c l 0 - 6).toNat 0]
def clS (k : Int) : List Nat := if 3 ≤ k then [41] else []
def blS (k : Int) (j : Nat) : List Nat := if k = 2 then [] else if k = 11 ∧ j = 0 then [] else [32]
def sE (c : Nat → Nat → Int) : Nat → Nat → List Nat
  | 0, _ => []
  | f + 1, l => hdS c l ++ ((if 0 < np (c l 0) then blS (c l 0) 0 ++ sE c f (c l 3).toNat else []) ++ ((if 1 < np (c l 0) then blS (c l 0) 1 ++ sE c f (c l 4).toNat else []) ++ ((if 2 < np (c l 0) then blS (c l 0) 2 ++ sE c f (c l 5).toNat else []) ++ clS (c l 0))))
/-- what ends at e, from p up -/
def Zs (c : Nat → Nat → Int) : Nat → Int → Nat → List Nat
  | 0, _, _ => []
  | f + 1, p, e => if p < 0 then [] else if en c p.toNat = e then clS (c p.toNat 0) ++ Zs c f (c p.toNat 6) e else []
def bS (c : Nat → Nat → Int) (l : Nat) : List Nat := if c l 6 < 0 then [] else blS (c (c l 6).toNat 0) (if c (c l 6).toNat 3 = (l : Int) then 0 else 1)
def Fo (c : Nat → Nat → Int) : Nat → List Nat
  | 0 => []
  | i + 1 => Fo c i ++ (bS c i ++ (hdS c i ++ Zs c 201 (i : Int) (i + 1)))
theorem Zs_fuel {c : Nat → Nat → Int} {n nv nf : Nat} (hw : wP c n nv nf) {e : Nat} : ∀ (f g : Nat) (p : Int), p < f → p < g → p < n → Zs c f p e = Zs c g p e := by
  intro f
  induction f with
  | zero =>
    intro g p hf hg hn
    cases g with
    | zero => rfl
    | succ g => unfold Zs; rw [if_pos (by omega)]
  | succ f ih =>
    intro g p hf hg hn
    cases g with
    | zero => unfold Zs; rw [if_pos (by omega)]
    | succ g =>
      unfold Zs
      by_cases y : p < 0
      · rw [if_pos y, if_pos y]
      · rw [if_neg y, if_neg y]
        by_cases y2 : en c p.toNat = e
        · rw [if_pos y2, if_pos y2]
          have h6 : c p.toNat 6 < (p.toNat : Int) := by
            by_cases y3 : p.toNat = 0
            · rw [y3, hw.flat.2.2.1]; omega
            · exact ((hw.flat.2.2.2 p.toNat (by omega)).2 (by omega)).2
          rw [ih g _ (by omega) (by omega) (by omega)]
        · rw [if_neg y2, if_neg y2]
theorem Zs_at {c : Nat → Nat → Int} {n nv nf : Nat} (hw : wP c n nv nf) {l e : Nat} (hl : l < n) : Zs c 201 (l : Int) e = if en c l = e then clS (c l 0) ++ Zs c 201 (c l 6) e else [] := by
  have hn := hw.1
  have h6 : c l 6 < (l : Int) := by
    by_cases y3 : l = 0
    · rw [y3, hw.flat.2.2.1]; omega
    · exact ((hw.flat.2.2.2 l hl).2 (by omega)).2
  have e1 : Zs c 201 (l : Int) e = if en c l = e then clS (c l 0) ++ Zs c 200 (c l 6) e else [] := by
    rw [Zs, if_neg (by omega), Int.toNat_natCast]
  rw [e1, Zs_fuel hw 200 201 (c l 6) (by omega) (by omega) (by omega)]
/-- what the labels of an expr write, one behind another -/
theorem Fo_sE {c : Nat → Nat → Int} {n nv nf : Nat} (hw : wP c n nv nf) : ∀ (f l : Nat), l < n → n ≤ l + f → Fo c (en c l) = Fo c l ++ (bS c l ++ (sE c f l ++ Zs c 201 (c l 6) (en c l))) := by
  have hn := hw.1
  intro f
  induction f with
  | zero => intro l h1 h2; omega
  | succ f ih =>
    intro l hl hf
    obtain ⟨k1, k2, k3, kk⟩ := kid hw hl
    have zl := Zs_at hw (e := l + 1) hl
    have ze := Zs_at hw (e := en c l) hl
    rw [if_pos rfl] at ze
    have pb : ∀ {m j : Nat}, isPt c n l j m → (c l 3 = (m : Int) ↔ j = 0) → bS c m = blS (c l 0) j := fun {m j} hp hj => by
      unfold bS
      obtain ⟨_, _, _, p4⟩ := hp
      rw [p4, if_neg (by omega), Int.toNat_natCast]
      by_cases y : j = 0
      · rw [if_pos (hj.mpr y), y]
      · rw [if_neg (fun z => y (hj.mp z))]
        unfold blS
        by_cases y2 : c l 0 = 2
        · rw [if_pos y2, if_pos y2]
        · rw [if_neg y2, if_neg y2, if_neg (fun z => by omega), if_neg (fun z => y z.2)]
    have one : Fo c (l + 1) = Fo c l ++ (bS c l ++ (hdS c l ++ Zs c 201 (l : Int) (l + 1))) := rfl
    rw [sE]
    rcases kk with ⟨a1, a3, a4, a5, ae⟩ | ⟨a1, p0, a4, a5, ae⟩ | ⟨a1, m, m2, p0, p1, p2, e1, e2, e3, o1, o2, o3⟩ | ⟨a1, m, p0, p1, a5, e1, e2, o1, o2⟩
    · have hnp : np (c l 0) = 0 := by unfold np; rw [if_pos a1]
      rw [hnp, if_neg (by omega), if_neg (by omega), if_neg (by omega)]
      rw [ae] at ze ⊢
      rw [one, ze]
      simp only [List.append_assoc, List.nil_append]
    · have hnp : np (c l 0) = 1 := by unfold np; rw [if_neg (by omega), if_pos (by omega)]
      have h1 := ih (l + 1) p0.2.2.1 (by omega)
      have b0 := pb p0 (iff_of_true p0.1 rfl)
      have lt := (kid hw p0.2.2.1).2.1
      rw [hnp, if_pos (by omega), if_neg (by omega), if_neg (by omega)]
      rw [if_neg (by omega)] at zl
      rw [p0.2.2.2, ae, ze, b0, one, zl] at h1
      rw [h1, p0.1, Int.toNat_natCast]
      simp only [List.append_assoc, List.nil_append, List.append_nil]
    · have hnp : np (c l 0) = 3 := by unfold np; rw [if_neg (by omega), if_neg (by omega), if_pos a1]
      have h1 := ih (l + 1) p0.2.2.1 (by omega)
      have h2 := ih m p1.2.2.1 (by omega)
      have h3 := ih m2 p2.2.2.1 (by omega)
      have b0 := pb p0 (iff_of_true p0.1 rfl)
      have p03 := p0.1
      have b1 := pb p1 (iff_of_false (fun z => by have : c l 3 = _ := p03; omega) (by decide))
      have b2 := pb p2 (iff_of_false (fun z => by have : c l 3 = _ := p03; omega) (by decide))
      have z1 := Zs_at hw (e := m) hl
      have z2 := Zs_at hw (e := m2) hl
      rw [hnp, if_pos (by omega), if_pos (by omega), if_pos (by omega)]
      rw [if_neg (by omega)] at zl z1 z2
      rw [p0.2.2.2, e1, z1, b0, one, zl] at h1
      rw [p1.2.2.2, e2, z2, b1, h1] at h2
      rw [p2.2.2.2, e3, ze, b2, h2] at h3
      rw [h3, show c l 3 = ((l + 1 : Nat) : Int) from p0.1, show c l 4 = (m : Int) from p1.1, show c l 5 = (m2 : Int) from p2.1, Int.toNat_natCast, Int.toNat_natCast, Int.toNat_natCast]
      simp only [List.append_assoc, List.nil_append, List.append_nil]
    · have hnp : np (c l 0) = 2 := by unfold np; rw [if_neg (by omega), if_neg (by omega), if_neg (by omega)]
      have h1 := ih (l + 1) p0.2.2.1 (by omega)
      have h2 := ih m p1.2.2.1 (by omega)
      have b0 := pb p0 (iff_of_true p0.1 rfl)
      have p03 := p0.1
      have b1 := pb p1 (iff_of_false (fun z => by have : c l 3 = _ := p03; omega) (by decide))
      have z1 := Zs_at hw (e := m) hl
      rw [hnp, if_pos (by omega), if_pos (by omega), if_neg (by omega)]
      rw [if_neg (by omega)] at zl z1
      rw [p0.2.2.2, e1, z1, b0, one, zl] at h1
      rw [p1.2.2.2, e2, ze, b1, h1] at h2
      rw [h2, show c l 3 = ((l + 1 : Nat) : Int) from p0.1, show c l 4 = (m : Int) from p1.1, Int.toNat_natCast, Int.toNat_natCast]
      simp only [List.append_assoc, List.nil_append, List.append_nil]
theorem Zs_neg {c : Nat → Nat → Int} {p : Int} {e : Nat} (h : p < 0) : ∀ f, Zs c f p e = []
  | 0 => rfl
  | f + 1 => by rw [Zs, if_pos h]
theorem Fo_f {c : Nat → Nat → Int} {n nv nf f : Nat} (hw : wP c n nv nf) (hf : n ≤ f) : Fo c n = sE c f 0 := by
  have h := Fo_sE hw f 0 hw.flat.1 (by omega)
  have b0 : bS c 0 = [] := by unfold bS; rw [hw.flat.2.2.1, if_pos (by decide)]
  rw [en_0 hw, b0, Zs_neg (by rw [hw.flat.2.2.1]; decide)] at h
  rw [h, List.append_nil, List.nil_append]
  rfl
theorem Fo_all {c : Nat → Nat → Int} {n nv nf : Nat} (hw : wP c n nv nf) : Fo c n = sE c 200 0 := Fo_f hw hw.1
/-- few bytes, all of them below 128 -/
def shA (k : Nat) (w : List Nat) : Prop := w.length ≤ k ∧ ∀ x, x ∈ w → x < 128
theorem shA.app {a b : Nat} {v w : List Nat} (h : shA a v) (h2 : shA b w) : shA (a + b) (v ++ w) := ⟨by rw [List.length_append]; have := h.1; have := h2.1; omega, fun x hx => (List.mem_append.mp hx).elim (h.2 x) (h2.2 x)⟩
theorem shA.le {a b : Nat} {v : List Nat} (h : shA a v) (h2 : a ≤ b) : shA b v := ⟨by have := h.1; omega, h.2⟩
theorem shA.nil {a : Nat} : shA a [] := ⟨Nat.zero_le _, fun x hx => absurd hx (List.not_mem_nil)⟩
theorem shA.one {x : Nat} (h : x < 128) : shA 1 [x] := ⟨Nat.le_refl _, fun y hy => by rw [List.mem_singleton.mp hy]; exact h⟩
theorem shA.cons {a x : Nat} {w : List Nat} (h : x < 128) (h2 : shA a w) : shA (a + 1) (x :: w) := ((shA.one h).app h2).le (by omega)
theorem dgk_lt {v u : Int} : dgk v u < 128 := by unfold dgk; omega
theorem shA.ite {p : Prop} [Decidable p] {a : Nat} {v w : List Nat} (h : p → shA a v) (h2 : ¬ p → shA a w) : shA a (if p then v else w) := by
  split
  · rename_i y; exact h y
  · rename_i y; exact h2 y
theorem dg_sh (v : Int) : shA 6 (dg v) := by
  have o : ∀ {p : Prop} [Decidable p] {u : Int}, shA 1 (if p then [dgk v u] else []) := fun {p} _ {u} => shA.ite (fun _ => shA.one dgk_lt) (fun _ => shA.nil)
  exact (o.app (o.app (o.app (o.app (o.app (shA.one dgk_lt)))))).le (by omega)
theorem nmS_sh (v : Int) : shA 7 (nmS v) := shA.ite (fun _ => (dg_sh v).le (by omega)) (fun _ => shA.cons (by decide) (dg_sh _))
theorem vrS_sh (v : Int) : shA 8 (vrS v) := shA.cons (by decide) (nmS_sh v)
theorem stB_lt (i : Nat) : stB.getD i 0 < 128 := by
  by_cases hi : i < 5
  · rcases (show i = 0 ∨ i = 1 ∨ i = 2 ∨ i = 3 ∨ i = 4 by omega) with rfl | rfl | rfl | rfl | rfl <;> decide
  · rw [show stB.getD i 0 = 0 by rw [List.getD_eq_getElem?_getD, List.getElem?_eq_none (by show 5 ≤ i; omega)]; rfl]; decide
theorem sh5 : shA 5 [40, 102, 105, 120, 32] := ⟨by decide, by decide⟩
theorem sh5b : shA 5 [40, 108, 101, 116, 32] := ⟨by decide, by decide⟩
theorem shB3 : shA 3 [40, 105, 102] := ⟨by decide, by decide⟩
theorem hdS_sh (c : Nat → Nat → Int) (l : Nat) : shA 22 (hdS c l) := by
  unfold hdS
  refine shA.ite (fun _ => (vrS_sh _).le (by omega)) (fun _ => shA.ite (fun _ => (nmS_sh _).le (by omega)) (fun _ => shA.ite (fun _ => (shA.cons (by decide) ((vrS_sh _).app (shA.one (by decide)))).le (by omega)) (fun _ => shA.ite (fun _ => (sh5.app ((vrS_sh _).app (shA.cons (by decide) (vrS_sh _)))).le (by omega)) (fun _ => shA.ite (fun _ => shB3.le (by omega)) (fun _ => shA.ite (fun _ => (sh5b.app (vrS_sh _)).le (by omega)) (fun _ => shA.ite (fun _ => (shA.one (by decide)).le (by omega)) (fun _ => (shA.cons (by decide) (shA.one (stB_lt _))).le (by omega))))))))
theorem clS_sh (k : Int) : shA 1 (clS k) := shA.ite (fun _ => shA.one (by decide)) (fun _ => shA.nil)
theorem blS_sh (k : Int) (j : Nat) : shA 1 (blS k j) := shA.ite (fun _ => shA.nil) (fun _ => shA.ite (fun _ => shA.nil) (fun _ => shA.one (by decide)))
theorem Zs_sh (c : Nat → Nat → Int) : ∀ (f : Nat) (p : Int) (e : Nat), shA f (Zs c f p e)
  | 0, _, _ => shA.nil
  | f + 1, p, e => shA.ite (fun _ => shA.nil) (fun _ => shA.ite (fun _ => ((clS_sh _).app (Zs_sh c f _ e)).le (by omega)) (fun _ => shA.nil))
theorem Fo_sh (c : Nat → Nat → Int) : ∀ i, shA (225 * i) (Fo c i)
  | 0 => shA.nil
  | i + 1 => ((Fo_sh c i).app ((shA.ite (fun _ => shA.nil) (fun _ => blS_sh _ _) : shA 1 (bS c i)).app ((hdS_sh c i).app (Zs_sh c 201 _ _)))).le (by omega)
