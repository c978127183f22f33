/-! THE CLASS READS: small methods -/
/-- what never changes while it reads -/
def tB (T : gT) (u : Nat → Nat) (m q : Nat) : Prop := mTx T 1 u ∧ m ≤ 400 ∧ vI T 40 0 = 1 ∧ vI T 40 1 = (m : Int) ∧ vI T 40 4 = (q : Int) ∧ (q = 2 ∨ q = 21)
theorem tB.of {T T' : gT} {u : Nat → Nat} {m q : Nat} (h : tB T u m q) (h1 : ∀ i, T'.1 1 i = T.1 1 i) (h0 : vI T' 40 0 = vI T 40 0) (h2 : vI T' 40 1 = vI T 40 1) (h4 : vI T' 40 4 = vI T 40 4) : tB T' u m q := ⟨fun i hi => ⟨(h.1 i hi).1, (h1 i).trans (h.1 i hi).2⟩, h.2.1, h0.trans h.2.2.1, h2.trans h.2.2.2.1, h4.trans h.2.2.2.2.1, h.2.2.2.2.2⟩
theorem tB.gI {T : gT} {u : Nat → Nat} {m q k j : Nat} {x : Int32} (h : tB T u m q) (hk : k ≠ 1) (hj : ¬ (k = 40 ∧ (j = 0 ∨ j = 1 ∨ j = 4))) : tB (gI T k j x) u m q := h.of (fun i => by rw [gI_I, if_neg (fun e => hk e.1.symm)]) (v_o (by omega)) (v_o (by omega)) (v_o (by omega))
theorem tB.b {T : gT} {u : Nat → Nat} {m q : Nat} (h : tB T u m q) {i : Nat} (hi : i < m) : u i < 256 := (h.1 i (by have := h.2.1; omega)).1
theorem tB.c {T : gT} {u : Nat → Nat} {m q : Nat} (h : tB T u m q) {i : Nat} : -1 ≤ cz u m i ∧ cz u m i < 256 := cz_rg (fun z => h.b z)
/-- a name's number in the class -/
def c6 : List Nat → Int
  | [] => 0
  | a :: t => t.foldl (fun (v : Int) (x : Nat) => v * 10 + (x : Int) - 48) (a : Int)
theorem c6_1 (a : Nat) : c6 [a] = a := rfl
theorem c6_2 (a b : Nat) : c6 [a, b] = a * 10 + b - 48 := rfl
theorem c6_3 (a b c : Nat) : c6 [a, b, c] = (a * 10 + b - 48) * 10 + c - 48 := rfl
theorem c6_4 (a b c e : Nat) : c6 [a, b, c, e] = ((a * 10 + b - 48) * 10 + c - 48) * 10 + e - 48 := rfl
theorem c6_inj {w v : List Nat} (hw : nmv w) (hv : nmv v) (h : c6 w = c6 v) : w = v := by
  rcases nmv_cases hw with ⟨a, rfl, h1⟩ | ⟨a, b, rfl, h1⟩ | ⟨a, b, c, rfl, h1⟩ | ⟨a, b, c, e, rfl, h1⟩ <;>
  rcases nmv_cases hv with ⟨a', rfl, h2⟩ | ⟨a', b', rfl, h2⟩ | ⟨a', b', c', rfl, h2⟩ | ⟨a', b', c', e', rfl, h2⟩ <;>
  simp only [c6_1, c6_2, c6_3, c6_4] at h <;> simp only [List.cons.injEq, and_true, reduceCtorEq, and_false] <;> omega
theorem c6_rg {w : List Nat} (hw : nmv w) : 0 ≤ c6 w ∧ c6 w < 1000000 := by
  rcases nmv_cases hw with ⟨a, rfl, h1⟩ | ⟨a, b, rfl, h1⟩ | ⟨a, b, c, rfl, h1⟩ | ⟨a, b, c, e, rfl, h1⟩ <;> simp only [c6_1, c6_2, c6_3, c6_4] <;> omega
theorem c6_snoc {w : List Nat} {x : Nat} (h : w ≠ []) : c6 (w ++ [x]) = c6 w * 10 + x - 48 := by
  cases w with
  | nil => exact absurd rfl h
  | cons a t =>
    show (t ++ [x]).foldl _ _ = _
    rw [List.foldl_append]
    rfl
section RD1
variable {sa : Nat → Nat} {b : Nat} {E : Nat × mH} {d : Nat} {T : gT} {u : Nat → Nat} {m q : Nat}
theorem k4_byte {p : Nat} {φ : Int → gT → Prop} (hB : tB T u m q) (hp : p < 1000) (k : φ (cz u m p) T) : gC (tP sa) lD b E d mX4_byteAt [.ref (b + 40), .int (zI (p : Int))] T (fun r T' => pI r (fun v => φ v T')) := by
  obtain ⟨t1, t2, t3, t4, t5, t6⟩ := hB
  refine w_X4_byteAt ?_
  unfold f_X4_byteAt
  rw [t4]
  refine ⟨by omega, fun z => by omega, fun _ => ⟨fun z => ⟨_, rfl, ?_⟩, fun z => ⟨t3, fun z2 => by omega, fun _ => ⟨t3, by omega, by omega, _, rfl, ?_⟩⟩⟩⟩
  · rw [show cz u m p = -1 by unfold cz; rw [if_neg (by omega)]] at k; exact k
  · have hu := (t1 p (by omega)).1
    have e : (zI (vI T 1 (p : Int).toNat) &&& zI 255).toInt = cz u m p := by
      rw [Int.toNat_natCast, zI_v, (t1 p (by omega)).2, show zI 255 = nI 255 from rfl, mCh_in (n := m) (by omega) hu, mCh_cz (fun _ => hu)]
      have := cz_rg (u := u) (n := m) (p := p) (fun _ => hu)
      rw [zI_i (by omega) (by omega)]
    rw [e]; exact k
theorem k4_look {p : Nat} {φ : Int → gT → Prop} (hB : tB T u m q) (hp : vI T 40 2 = (p : Int)) (hpm : p ≤ m) (k : φ (cz u m (sk u m p)) (gI T 40 2 (zI ((sk u m p : Nat) : Int)))) : gC (tP sa) lD b E (d + 1) mX4_look [.ref (b + 40)] T (fun r T' => pI r (fun v => φ v T')) := by
  have hm := hB.2.1
  have core : ∀ (j p : Nat) (T1 : gT), m - p = j → p ≤ m → T1 = gI T 40 2 (zI (p : Int)) → tB T1 u m q → sk u m p = sk u m p → φ (cz u m (sk u m p)) (gI T 40 2 (zI ((sk u m p : Nat) : Int))) → f_X4_look_0 sa b E d T1 (fun r T' => pI r (fun v => φ v T')) := by
    intro j
    induction j with
    | zero =>
      intro p T1 hj hpm hT hB1 _ k
      have e2 : vI T1 40 2 = (p : Int) := by rw [hT, v_s (by omega)]
      unfold f_X4_look_0
      rw [hB1.2.2.2.1, e2]
      refine ⟨fun _ => k4_byte hB1 (by omega) ⟨_, rfl, ?_⟩, fun z => by omega⟩
      rw [sk_n (fun z => by omega), ← hT] at k
      exact k
    | succ j ih =>
      intro p T1 hj hpm hT hB1 _ k
      have e2 : vI T1 40 2 = (p : Int) := by rw [hT, v_s (by omega)]
      have hc := hB1.c (i := p)
      have nxt : u p = 32 ∨ u p = 10 → gW (tP sa) lD b E (d + 1) mX4_look 0 [some (.ref (b + 40))] [] (gI T1 40 2 (zI ((vI T1 40 2) + 1))) (fun r T' => pI r (fun v => φ v T')) := by
        intro hb
        refine w_X4_look_0 ?_
        rw [e2, show (p : Int) + 1 = ((p + 1 : Nat) : Int) by omega]
        rw [sk_y (by omega) hb] at k
        exact ih (p + 1) _ (by omega) (by omega) (by rw [hT, gI_gI]) (hB1.gI (by omega) (by omega)) rfl k
      unfold f_X4_look_0
      rw [hB1.2.2.2.1]
      refine ⟨fun z => by omega, fun _ => ?_⟩
      rw [e2]
      refine k4_byte hB1 (by omega) ⟨by omega, fun z => ?_, fun z => ?_⟩
      · rw [cz_in (by omega)] at z
        have := nxt (Or.inl (by omega))
        rw [e2] at this ⊢; exact this
      · rw [e2]
        refine k4_byte hB1 (by omega) ⟨by omega, fun z2 => ?_, fun z2 => ?_⟩
        · rw [e2]
          rw [cz_in (by omega)] at z z2
          rw [sk_n (fun y => by omega), ← hT] at k
          exact k4_byte hB1 (by omega) ⟨_, rfl, k⟩
        · rw [cz_in (by omega)] at z2
          have := nxt (Or.inr (by omega))
          rw [e2] at this ⊢; exact this
  refine w_X4_look ?_
  exact core (m - p) p T rfl hpm (gI_same (vI_to hp)).symm hB rfl k
theorem k4_fail0 {x : Int} {φ : gT → Prop} (h : vI T 40 3 = -1) (k : φ (gI T 40 3 (zI x))) : gC (tP sa) lD b E d mX4_fail [.ref (b + 40), .int (zI x)] T (fun r T' => pV r (φ T')) := by
  refine w_X4_fail ?_
  unfold f_X4_fail
  exact ⟨fun z => absurd h z, fun _ => ⟨rfl, k⟩⟩
theorem k4_fail1 {x : Int} {φ : gT → Prop} (h : vI T 40 3 ≠ -1) (k : φ T) : gC (tP sa) lD b E d mX4_fail [.ref (b + 40), .int (zI x)] T (fun r T' => pV r (φ T')) := by
  refine w_X4_fail ?_
  unfold f_X4_fail
  exact ⟨fun _ => ⟨rfl, k⟩, fun z => absurd z h⟩
/-- the end of a word -/
def wn (u : Nat → Nat) (m p : Nat) : Nat := if zL (cz u m p) = true then we u m p else p
theorem wn_le {p : Nat} (h : p ≤ m) : p ≤ wn u m p ∧ wn u m p ≤ m := by
  unfold wn
  split
  · exact we_le h
  · omega
theorem k4_word {p : Nat} {φ : Int → gT → Prop} (hB : tB T u m q) (hp : vI T 40 2 = (p : Int)) (hpm : p ≤ m) (k : φ ((wn u m p : Nat) : Int) T) : gC (tP sa) lD b E (d + 1) mX4_wordEnd [.ref (b + 40)] T (fun r T' => pI r (fun v => φ v T')) := by
  have hm := hB.2.1
  have hc := hB.c (i := p)
  refine w_X4_wordEnd ?_
  unfold f_X4_wordEnd
  rw [hp]
  -- behind the first
  have lp : ∀ (j e : Nat), m - e = j → p < e → e ≤ m → φ ((we u m e : Nat) : Int) T → gW (tP sa) lD b E (d + 1) mX4_wordEnd 5 [some (.ref (b + 40)), some (.int (zI (e : Int)))] [] T (fun r T' => pI r (fun v => φ v T')) := by
    intro j
    induction j with
    | zero =>
      intro e hj he hem k
      refine w_X4_wordEnd_5 ?_
      unfold f_X4_wordEnd_5
      rw [we_n (fun z => by omega)] at k
      exact ⟨by omega, fun _ => ⟨_, rfl, k⟩, fun z => absurd z (by have := hB.2.2.2.1; omega)⟩
    | succ j ih =>
      intro e hj he hem k
      have hc := hB.c (i := e)
      refine w_X4_wordEnd_5 ?_
      unfold f_X4_wordEnd_5
      rw [hB.2.2.2.1, show (e : Int) + 1 = ((e + 1 : Nat) : Int) by omega]
      have lt : e < m := by omega
      refine ⟨by omega, fun z => by omega, fun _ => k4_byte hB (by omega) ⟨by omega, fun z => ?_, fun z => ⟨fun z2 => by omega, fun _ => k4_byte hB (by omega) ⟨by omega, fun z2 => ?_, fun z2 => ?_⟩⟩⟩⟩
      · rw [cz_in lt, zL_nat] at z
        rw [we_y lt (Or.inl z)] at k
        exact ih (e + 1) (by omega) (by omega) (by omega) k
      · rw [cz_in lt, zL_nat] at z
        rw [cz_in lt, zD_nat] at z2
        rw [we_n (fun y => y.2.elim z z2)] at k
        exact ⟨_, rfl, k⟩
      · rw [cz_in lt, zD_nat] at z2
        rw [we_y lt (Or.inr z2)] at k
        exact ih (e + 1) (by omega) (by omega) (by omega) k
  unfold wn at k
  refine w_X4_wordEnd_5 ?_
  unfold f_X4_wordEnd_5
  rw [hB.2.2.2.1, show (p : Int) + 1 = ((p + 1 : Nat) : Int) by omega]
  refine ⟨by omega, fun z => ?_, fun z => k4_byte hB (by omega) ⟨by omega, fun z1 => ?_, fun z1 => ⟨fun _ => ?_, fun z2 => by omega⟩⟩⟩
  · rw [if_neg] at k
    · exact ⟨_, rfl, k⟩
    · intro y; rw [zL_iff] at y
      have := cz_lt (u := u) (n := m) (p := p) (by omega)
      omega
  · have lt : p < m := by omega
    rw [if_pos z1] at k
    rw [cz_in lt, zL_nat] at z1
    rw [we_y lt (Or.inl z1)] at k
    exact lp _ (p + 1) rfl (by omega) (by omega) k
  · rw [if_neg z1] at k
    exact ⟨_, rfl, k⟩
/-- a name: whatever comes after -/
theorem k4_name {p : Nat} {φ : Int → gT → Prop} (hB : tB T u m q) (hp : vI T 40 2 = (p : Int)) (hpm : p ≤ m)
    (hY : nmo u m (sk u m p) → φ (c6 (wd u (sk u m p) (we u m (sk u m p)))) (gI T 40 2 (zI ((we u m (sk u m p) : Nat) : Int))))
    (hN : ¬ nmo u m (sk u m p) → gC (tP sa) lD b E (d + 1) mX4_fail [.ref (b + 40), .int (zI ((sk u m p : Nat) : Int))] (gI T 40 2 (zI ((sk u m p : Nat) : Int))) (fun r T' => pV r (φ (-1) T'))) :
    gC (tP sa) lD b E (d + 2) mX4_takeName [.ref (b + 40)] T (fun r T' => pI r (fun v => φ v T')) := by
  have hm := hB.2.1
  obtain ⟨hs1, hs2⟩ := sk_le (u := u) hpm
  refine w_X4_takeName (d := d + 1) ?_
  unfold f_X4_takeName
  refine k4_look (d := d) hB hp hpm ?_
  generalize hsp : sk u m p = s at *
  have hB1 : tB (gI T 40 2 (zI (s : Nat))) u m q := hB.gI (by omega) (by omega)
  have hp1 : vI (gI T 40 2 (zI (s : Nat))) 40 2 = (s : Int) := v_s (by omega)
  have fl : ∀ {P : Prop} , ¬ nmo u m s → gC (tP sa) lD b E (d + 1) mX4_fail [.ref (b + 40), .int (zI (s : Int))] (gI T 40 2 (zI (s : Nat))) (fun r T33 => pV r ((fun r T' => pI r (fun v => φ v T')) (some (.int (zI (-1)))) T33)) := fun {P} h =>
    (hN h).mono (Nat.le_refl _) (fun r T' hr => ⟨hr.1, _, rfl, hr.2⟩)
  refine k4_word (d := d) hB1 hp1 (by omega) ?_
  obtain ⟨w1, w2⟩ := wn_le (u := u) (m := m) (p := s) (by omega)
  rw [hp1]
  have wlt : zL (cz u m s) = true → s < m ∧ s < we u m s ∧ wn u m s = we u m s := fun z => by
    have lt : s < m := cz_lt (u := u) (by rw [zL_iff] at z; omega)
    refine ⟨lt, ?_, by unfold wn; rw [if_pos z]⟩
    rw [cz_in lt, zL_nat] at z
    rw [we_y lt (Or.inl z)]
    have := (we_le (u := u) (n := m) (p := s + 1) (by omega)).1
    omega
  refine ⟨by omega, fun z => fl (P := True) (fun y => ?_), fun z => ⟨by omega, fun z2 => ?_, fun z2 => fl (P := True) (fun y => ?_)⟩⟩
  · have := wlt y.1; omega
  · have hz : zL (cz u m s) = true := by
      by_cases y : zL (cz u m s) = true
      · exact y
      · unfold wn at z; rw [if_neg y] at z; exact absurd rfl z
    obtain ⟨l1, l2, l3⟩ := wlt hz
    rw [l3] at z2 w2 ⊢
    refine k4_byte hB1 (by omega) ?_
    rw [hp1]
    -- the digits
    have lp : ∀ (j e : Nat), we u m s - e = j → s < e → e ≤ we u m s → (∀ i, i < e → s < i → nD (u i) = true) → gW (tP sa) lD b E (d + 1 + 1) mX4_takeName 54 [some (.ref (b + 40)), some (.int (zI ((we u m s : Nat) : Int))), some (.int (zI (c6 (wd u s e)))), some (.int (zI (e : Int)))] [] (gI T 40 2 (zI (s : Nat))) (fun r T' => pI r (fun v => φ v T')) := by
      intro j
      induction j with
      | zero =>
        intro e hj he hle hD
        refine w_X4_takeName_54 (d := d + 1) ?_
        unfold f_X4_takeName_54
        obtain rfl : e = we u m s := by omega
        rw [gI_gI]
        exact ⟨by omega, by omega, fun _ => ⟨_, rfl, hY ⟨hz, by omega, hD⟩⟩, fun z => absurd (Int.le_refl _) z⟩
      | succ j ih =>
        intro e hj he hle hD
        have hc := hB1.c (i := e)
        refine w_X4_takeName_54 (d := d + 1) ?_
        unfold f_X4_takeName_54
        refine ⟨by omega, by omega, fun z => by omega, fun _ => k4_byte hB1 (by omega) ⟨by omega, fun z1 => k4_byte hB1 (by omega) ?_, fun z1 => ?_⟩⟩
        · rw [cz_in (by omega), zD_nat] at z1
          have e1 : c6 (wd u s e) * 10 + cz u m e - 48 = c6 (wd u s (e + 1)) := by
            rw [wd_snoc (by omega), c6_snoc (by rw [wd_cons (by omega)]; exact List.cons_ne_nil _ _), cz_in (by omega)]
          rw [e1, show (e : Int) + 1 = ((e + 1 : Nat) : Int) by omega]
          refine ih (e + 1) (by omega) (by omega) (by omega) (fun i h1 h2 => ?_)
          by_cases y : i = e
          · rw [y]; exact z1
          · exact hD i (by omega) h2
        · rw [cz_in (by omega), zD_nat] at z1
          rw [hp1]
          exact fl (P := True) (fun y => z1 (y.2.2 e (by omega) he))
    have := lp _ (s + 1) rfl (by omega) (by omega) (fun i h1 h2 => by omega)
    rw [wd_1, c6_1] at this
    rw [cz_in l1, show (s : Int) + 1 = ((s + 1 : Nat) : Int) by omega]
    exact this
  · have := wlt y.1; have := y.2.1; omega
/-- a key word -/
theorem k4_isWord {p e a : Nat} {w : List Nat} {φ : Int → gT → Prop} (hB : tB T u m q) (hp : vI T 40 2 = (p : Int)) (hpm : p ≤ m) (he : p ≤ e) (hem : e ≤ m) (hs : mStr E b a w) (hw : w.length < 5) (hwb : ∀ i, i < w.length → w.getD i 0 < 256)
    (k1 : e = p + w.length → (∀ i, i < w.length → u (p + i) = w.getD i 0) → φ 1 T) (k0 : ¬ (e = p + w.length ∧ ∀ i, i < w.length → u (p + i) = w.getD i 0) → φ 0 T) :
    gC (tP sa) lD b E (d + 4) mX4_isWord [.ref (b + 40), .int (zI (e : Int)), .ref a] T (fun r T' => pI r (fun v => φ v T')) := by
  have hm := hB.2.1
  have e0 : ∀ g : Nat, ¬ (e = p + w.length ∧ ∀ i, i < w.length → u (p + i) = w.getD i 0) → gW (tP sa) lD b E (d + 3 + 1) mX4_isWord 22 [some (.ref (b + 40)), some (.int (zI (e : Int))), some (.ref a), some (.int (zI 0)), some (.int (zI (g : Int)))] [] T (fun r T' => pI r (fun v => φ v T')) ∨ 1000 ≤ g := by
    intro g h
    by_cases hg : g < 1000
    · left
      refine w_X4_isWord_22 hs ?_
      unfold f_X4_isWord_22
      exact ⟨by omega, by omega, fun _ => ⟨Or.inl rfl, _, rfl, k0 h⟩, fun _ => ⟨by omega, fun _ => ⟨Or.inl rfl, _, rfl, k0 h⟩, fun z => absurd rfl z⟩⟩
    · right; omega
  refine w_X4_isWord hs ?_
  unfold f_X4_isWord
  rw [hp]
  refine ⟨by omega, by omega, fun z => (e0 0 (fun y => z (by have := y.1; omega))).resolve_right (by omega), fun z => ?_⟩
  have ee : e = p + w.length := by omega
  have lp : ∀ (j i : Nat), w.length - i = j → i ≤ w.length → (∀ x, x < i → u (p + x) = w.getD x 0) → gW (tP sa) lD b E (d + 3 + 1) mX4_isWord 22 [some (.ref (b + 40)), some (.int (zI (e : Int))), some (.ref a), some (.int (zI 1)), some (.int (zI (i : Int)))] [] T (fun r T' => pI r (fun v => φ v T')) := by
    intro j
    induction j with
    | zero =>
      intro i hj hi hx
      obtain rfl : i = w.length := by omega
      refine w_X4_isWord_22 hs ?_
      unfold f_X4_isWord_22
      exact ⟨by omega, by omega, fun _ => ⟨Or.inr rfl, _, rfl, k1 ee hx⟩, fun z => absurd (Int.le_refl _) z⟩
    | succ j ih =>
      intro i hj hi hx
      have hb := hwb i (by omega)
      have hc := hB.c (i := p + i)
      refine w_X4_isWord_22 hs ?_
      unfold f_X4_isWord_22
      rw [hp, Int.toNat_natCast, show (p : Int) + (i : Int) = ((p + i : Nat) : Int) by omega, show (i : Int) + 1 = ((i + 1 : Nat) : Int) by omega]
      refine ⟨by omega, by omega, fun z => by omega, fun _ => ⟨by omega, fun z => by omega, fun _ => k4_byte hB (by omega) ⟨by omega, by omega, by omega, by omega, fun z => ?_, fun z => ?_⟩⟩⟩
      · rw [cz_in (by omega)] at z
        exact (e0 (i + 1) (fun y => z (by rw [y.2 i (by omega)]))).resolve_right (by omega)
      · rw [cz_in (by omega)] at z
        refine ih (i + 1) (by omega) (by omega) (fun x h1 => ?_)
        by_cases y : x = i
        · rw [y]; omega
        · exact hx x (by omega)
  exact lp _ 0 rfl (Nat.zero_le _) (fun x h1 => by omega)
end RD1
