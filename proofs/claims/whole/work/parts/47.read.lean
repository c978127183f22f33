/-! WHAT READING IS: names, numbers, exprs over the text -/
/-- a word's bytes -/
def wd (u : Nat → Nat) (p e : Nat) : List Nat := (List.range (e - p)).map (fun i => u (p + i))
/-- a NAME stands at p -/
abbrev nmo (u : Nat → Nat) (n p : Nat) : Prop := zL (cz u n p) = true ∧ we u n p ≤ p + 4 ∧ ∀ i, i < we u n p → p < i → nD (u i) = true
def lk : List (List Nat × Nat) → List Nat → Option Nat
  | [], _ => none
  | x :: r, w => if x.1 = w then some x.2 else lk r w
def xTok (k v s a b c u : Int) : Nat → Int := fun w => if w = 0 then k else if w = 1 then v else if w = 2 then s else if w = 3 then a else if w = 4 then b else if w = 5 then c else u
/-- place, exprs, variables, functions -/
abbrev xS : Type := Nat × Nat × Nat × Nat
abbrev xR : Type := Nat ⊕ (xS × List (Nat → Int))
def xBd (u : Nat → Nat) (n : Nat) (σ : xS) : Nat ⊕ (List Nat × xS) :=
  if nmo u n (sk u n σ.1) then (if σ.2.2.1 = 100 then .inl (sk u n σ.1) else .inr (wd u (sk u n σ.1) (we u n (sk u n σ.1)), (we u n (sk u n σ.1), σ.2.1, σ.2.2.1 + 1, σ.2.2.2))) else .inl (sk u n σ.1)
def xEnd (u : Nat → Nat) (n : Nat) (c : Int) (σ : xS) : Nat ⊕ xS := if cz u n (sk u n σ.1) = c then .inr (sk u n σ.1 + 1, σ.2) else .inl (sk u n σ.1)
/-- digits: where they end, what they say -/
def nu (u : Nat → Nat) (n : Nat) : Nat → Nat → Int → Nat × Int
  | 0, q, v => (q, v)
  | k + 1, q, v => if zD (cz u n q) = true then nu u n k (q + 1) (10 * v + cz u n q - 48) else (q, v)
def xNu (u : Nat → Nat) (n : Nat) (up : Int) (p : Nat) (σ : xS) : xR :=
  let q := if cz u n p = 45 then p + 1 else p
  if zD (cz u n q) = true then
    (if zD (cz u n (nu u n 6 q 0).1) = true then .inl (nu u n 6 q 0).1
    else .inr (((nu u n 6 q 0).1, σ.2.1 + 1, σ.2.2), [xTok 1 (if cz u n p = 45 then -(nu u n 6 q 0).2 else (nu u n 6 q 0).2) (-1) (-1) (-1) (-1) up]))
  else .inl q
def xE (u : Nat → Nat) (n : Nat) (big : Nat → Int → xR) (env : List (List Nat × Nat)) (up : Int) (σ : xS) : xR :=
  if σ.2.1 = 200 then .inl (sk u n σ.1)
  else if zL (cz u n (sk u n σ.1)) = true then
    (if nmo u n (sk u n σ.1) then
      (match lk env (wd u (sk u n σ.1) (we u n (sk u n σ.1))) with
      | none => .inl (sk u n σ.1)
      | some v => .inr ((we u n (sk u n σ.1), σ.2.1 + 1, σ.2.2), [xTok 0 v (-1) (-1) (-1) (-1) up]))
    else .inl (sk u n σ.1))
  else if zD (cz u n (sk u n σ.1)) = true ∨ cz u n (sk u n σ.1) = 45 then xNu u n up (sk u n σ.1) σ
  else if cz u n (sk u n σ.1) = 92 ∨ cz u n (sk u n σ.1) = 40 then big (sk u n σ.1) (cz u n (sk u n σ.1))
  else .inl (sk u n σ.1)
abbrev xF : Type := List (List Nat × Nat) → Int → xS → xR
def xLam (u : Nat → Nat) (n : Nat) (rec : xF) (env : List (List Nat × Nat)) (up : Int) (p : Nat) (σ : xS) : xR :=
  if σ.2.2.2 = 50 then .inl p else
  match xBd u n (p + 1, σ.2.1 + 1, σ.2.2.1, σ.2.2.2 + 1) with
  | .inl q => .inl q
  | .inr (w, σ1) => match xEnd u n 46 σ1 with
    | .inl q => .inl q
    | .inr σ2 => match rec ((w, σ.2.2.1) :: env) σ.2.1 σ2 with
      | .inl q => .inl q
      | .inr (σ3, ts) => .inr (σ3, xTok 2 σ.2.2.1 (-1) (σ.2.1 + 1 : Nat) (-1) (-1) up :: ts)
def isW (u : Nat → Nat) (n p : Nat) (s : List Nat) : Bool := zL (cz u n p) && decide (we u n p = p + s.length) && decide (∀ i, i < s.length → u (p + i) = s.getD i 0)
/-- the kind of a form -/
def kdA (u : Nat → Nat) (n q : Nat) : Nat :=
  if isW u n q [105, 102] then 4 else if isW u n q [108, 101, 116] then 5 else if isW u n q [102, 105, 120] then 3
  else if cz u n q = 43 then 6 else if cz u n q = 45 ∧ ¬ zD (cz u n (q + 1)) = true then 7 else if cz u n q = 42 then 8 else if cz u n q = 61 then 9 else if cz u n q = 60 then 10 else 11
def skA (k : Nat) : Nat := if k = 4 then 2 else if k = 5 ∨ k = 3 then 3 else if k < 11 then 1 else 0
def xCl (u : Nat → Nat) (n : Nat) (σ : xS) (ts : List (Nat → Int)) : xR := match xEnd u n 41 σ with
  | .inl q => .inl q
  | .inr σ' => .inr (σ', ts)
def xFx (u : Nat → Nat) (n : Nat) (rec : xF) (env : List (List Nat × Nat)) (up : Int) (σ : xS) : xR :=
  match xBd u n σ with
  | .inl q => .inl q
  | .inr (f, σ1) => match xBd u n σ1 with
    | .inl q => .inl q
    | .inr (x, σ2) => match rec ((x, σ.2.2.1 + 1) :: (f, σ.2.2.1) :: env) ((σ.2.1 : Int) - 1) σ2 with
      | .inl q => .inl q
      | .inr (σ3, ts) => xCl u n σ3 (xTok 3 (σ.2.2.1 + 1 : Nat) σ.2.2.1 σ.2.1 (-1) (-1) up :: ts)
def xLt (u : Nat → Nat) (n : Nat) (rec : xF) (env : List (List Nat × Nat)) (up : Int) (σ : xS) : xR :=
  match xBd u n σ with
  | .inl q => .inl q
  | .inr (w, σ1) => match rec env ((σ.2.1 : Int) - 1) σ1 with
    | .inl q => .inl q
    | .inr (σ2, t1) => match rec ((w, σ.2.2.1) :: env) ((σ.2.1 : Int) - 1) σ2 with
      | .inl q => .inl q
      | .inr (σ3, t2) => xCl u n σ3 (xTok 5 σ.2.2.1 (-1) σ.2.1 σ2.2.1 (-1) up :: (t1 ++ t2))
/-- k exprs one behind another: their labels, their cells -/
def xKs (rec : xF) (env : List (List Nat × Nat)) (up : Int) : Nat → xS → Nat ⊕ (xS × List Nat × List (Nat → Int))
  | 0, σ => .inr (σ, [], [])
  | k + 1, σ => match rec env up σ with
    | .inl q => .inl q
    | .inr (σ1, t1) => match xKs rec env up k σ1 with
      | .inl q => .inl q
      | .inr (σ2, ls, ts) => .inr (σ2, σ.2.1 :: ls, t1 ++ ts)
def tokS (t : Nat → Int) (w : Nat) (x : Int) : Nat → Int := fun w' => if w' = w then x else t w'
def tkL (t : Nat → Int) (i : Nat) : List Nat → Nat → Int
  | [] => t
  | a :: ls => tkL (tokS t (3 + i) a) (i + 1) ls
def xMn (u : Nat → Nat) (n : Nat) (rec : xF) (env : List (List Nat × Nat)) (up : Int) (k many : Nat) (σ : xS) : xR :=
  match xKs rec env ((σ.2.1 : Int) - 1) many σ with
  | .inl q => .inl q
  | .inr (σ', ls, ts) => xCl u n σ' (tkL (xTok k (-1) (-1) (-1) (-1) (-1) up) 0 ls :: ts)
/-- a form behind its bracket at p; the expr is begun: in what follows σ counts it -/
def xFm (u : Nat → Nat) (n : Nat) (rec : xF) (env : List (List Nat × Nat)) (up : Int) (p : Nat) (σ : xS) : xR :=
  if kdA u n (sk u n (p + 1)) = 3 then
    (if σ.2.2.2 = 50 then .inl p else xFx u n rec env up (sk u n (p + 1) + 3, σ.2.1 + 1, σ.2.2.1, σ.2.2.2 + 1))
  else if kdA u n (sk u n (p + 1)) = 5 then xLt u n rec env up (sk u n (p + 1) + 3, σ.2.1 + 1, σ.2.2)
  else xMn u n rec env up (kdA u n (sk u n (p + 1))) (if kdA u n (sk u n (p + 1)) = 4 then 3 else 2) (sk u n (p + 1) + skA (kdA u n (sk u n (p + 1))), σ.2.1 + 1, σ.2.2)
/-- an expr: r: how many may still be opened -/
def px (u : Nat → Nat) (n : Nat) : Nat → xF
  | 0 => fun env up σ => xE u n (fun p _ => .inl p) env up σ
  | r + 1 => fun env up σ => xE u n (fun p c => if c = 92 then xLam u n (px u n r) env up p σ else xFm u n (px u n r) env up p σ) env up σ
/-! its names in the reference: four bytes in an int -/
def c7 (w : List Nat) : Int := w.foldl (fun (v : Int) (c : Nat) => v * 256 + (c : Int)) 0
/-- a NAME's bytes -/
def nmv (w : List Nat) : Prop := ∃ c t, w = c :: t ∧ 97 ≤ c ∧ c ≤ 122 ∧ t.length ≤ 3 ∧ ∀ x, x ∈ t → 48 ≤ x ∧ x ≤ 57
def envH (T : gT) : List (List Nat × Nat) → Prop
  | [] => True
  | x :: r => vI T 13 r.length = c7 x.1 ∧ vI T 14 r.length = (x.2 : Int) ∧ nmv x.1 ∧ envH T r
theorem c7_foldl (t : List Nat) (v : Int) : t.foldl (fun (v : Int) (c : Nat) => v * 256 + (c : Int)) v = v * 256 ^ t.length + c7 t := by
  unfold c7
  induction t generalizing v with
  | nil => simp
  | cons x t ih =>
    rw [List.foldl_cons, List.foldl_cons, ih, ih (0 * 256 + (x : Int)), List.length_cons]
    have e : ((256 : Int) ^ (t.length + 1)) = 256 * 256 ^ t.length := by rw [Int.pow_succ, Int.mul_comm]
    rw [e, Int.add_mul, Int.mul_assoc, Int.zero_mul, Int.zero_add]
    omega
theorem nmv_cases {w : List Nat} (h : nmv w) : (∃ a, w = [a] ∧ 97 ≤ a ∧ a ≤ 122) ∨ (∃ a b, w = [a, b] ∧ 97 ≤ a ∧ a ≤ 122 ∧ 48 ≤ b ∧ b ≤ 57) ∨ (∃ a b c, w = [a, b, c] ∧ 97 ≤ a ∧ a ≤ 122 ∧ 48 ≤ b ∧ b ≤ 57 ∧ 48 ≤ c ∧ c ≤ 57) ∨ (∃ a b c e, w = [a, b, c, e] ∧ 97 ≤ a ∧ a ≤ 122 ∧ 48 ≤ b ∧ b ≤ 57 ∧ 48 ≤ c ∧ c ≤ 57 ∧ 48 ≤ e ∧ e ≤ 57) := by
  obtain ⟨a, t, rfl, h1, h2, h3, h4⟩ := h
  match t, h3, h4 with
  | [], _, _ => exact Or.inl ⟨a, rfl, h1, h2⟩
  | [b], _, h4 => exact Or.inr (Or.inl ⟨a, b, rfl, h1, h2, (h4 b (by simp)).1, (h4 b (by simp)).2⟩)
  | [b, c], _, h4 => exact Or.inr (Or.inr (Or.inl ⟨a, b, c, rfl, h1, h2, (h4 b (by simp)).1, (h4 b (by simp)).2, (h4 c (by simp)).1, (h4 c (by simp)).2⟩))
  | [b, c, e], _, h4 => exact Or.inr (Or.inr (Or.inr ⟨a, b, c, e, rfl, h1, h2, (h4 b (by simp)).1, (h4 b (by simp)).2, (h4 c (by simp)).1, (h4 c (by simp)).2, (h4 e (by simp)).1, (h4 e (by simp)).2⟩))
  | _ :: _ :: _ :: _ :: _, h3, _ => simp at h3
theorem c7_1 (a : Nat) : c7 [a] = a := by simp [c7]
theorem c7_2 (a b : Nat) : c7 [a, b] = a * 256 + b := by simp [c7]
theorem c7_3 (a b c : Nat) : c7 [a, b, c] = (a * 256 + b) * 256 + c := by simp [c7]
theorem c7_4 (a b c e : Nat) : c7 [a, b, c, e] = ((a * 256 + b) * 256 + c) * 256 + e := by simp [c7]
theorem c7_inj {w v : List Nat} (hw : nmv w) (hv : nmv v) (h : c7 w = c7 v) : w = v := by
  rcases nmv_cases hw with ⟨a, rfl, h1⟩ | ⟨a, b, rfl, h1⟩ | ⟨a, b, c, rfl, h1⟩ | ⟨a, b, c, e, rfl, h1⟩ <;>
  rcases nmv_cases hv with ⟨a', rfl, h2⟩ | ⟨a', b', rfl, h2⟩ | ⟨a', b', c', rfl, h2⟩ | ⟨a', b', c', e', rfl, h2⟩ <;>
  simp only [c7_1, c7_2, c7_3, c7_4] at h <;> simp only [List.cons.injEq, and_true, reduceCtorEq, and_false] <;> omega
theorem c7_rg {w : List Nat} (hw : nmv w) : 0 ≤ c7 w ∧ c7 w < 2147483648 := by
  rcases nmv_cases hw with ⟨a, rfl, h1⟩ | ⟨a, b, rfl, h1⟩ | ⟨a, b, c, rfl, h1⟩ | ⟨a, b, c, e, rfl, h1⟩ <;> simp only [c7_1, c7_2, c7_3, c7_4] <;> omega
theorem wd_len {u : Nat → Nat} {p e : Nat} : (wd u p e).length = e - p := by simp [wd]
theorem wd_cons {u : Nat → Nat} {p e : Nat} (h : p < e) : wd u p e = u p :: wd u (p + 1) e := by
  unfold wd
  rw [show e - p = (e - (p + 1)) + 1 by omega, List.range_succ_eq_map, List.map_cons, List.map_map]
  refine congrArg (u p :: ·) (List.map_congr_left fun i _ => ?_)
  show u (p + (i + 1)) = u (p + 1 + i)
  rw [show p + (i + 1) = p + 1 + i by omega]
theorem wd_mem {u : Nat → Nat} {p e x : Nat} (h : x ∈ wd u p e) : ∃ i, p ≤ i ∧ i < e ∧ x = u i := by
  unfold wd at h
  obtain ⟨i, hi, rfl⟩ := List.mem_map.mp h
  exact ⟨p + i, by omega, by have := List.mem_range.mp hi; omega, rfl⟩
theorem nmo.v {u : Nat → Nat} {n p : Nat} (h : nmo u n p) : nmv (wd u p (we u n p)) := by
  obtain ⟨h1, h2, h3⟩ := h
  have hp : p < n := cz_lt (u := u) (by rw [zL_iff] at h1; omega)
  rw [cz_in hp, zL_nat] at h1
  have hlt : p < we u n p := by
    rw [we_y hp (Or.inl h1)]
    have := (we_le (u := u) (n := n) (p := p + 1) (by omega)).1
    omega
  refine ⟨u p, wd u (p + 1) (we u n p), wd_cons hlt, (nL_iff.mp h1).1, (nL_iff.mp h1).2, by rw [wd_len]; omega, ?_⟩
  intro x hx
  obtain ⟨i, hi1, hi2, rfl⟩ := wd_mem hx
  exact nD_iff.mp (h3 i hi2 (by omega))
