theorem shor_n {m c : Nat} (hm : m < 8388608) (hc : c < 256) : (nI m <<< (8 : Int32) ||| nI c) = nI (m * 256 + c) := by
  apply Int32.toBitVec_inj.mp
  apply BitVec.eq_of_toNat_eq
  have e : (Int32.toBitVec 8).smod 32 = 8#32 := by decide
  simp only [Int32.toBitVec_or, Int32.toBitVec_shiftLeft, e, nI, Int32.toBitVec_ofNat', BitVec.toNat_or, BitVec.shiftLeft_eq', BitVec.toNat_shiftLeft, BitVec.toNat_ofNat, Nat.shiftLeft_eq]
  rw [Nat.mod_eq_of_lt (a := m) (by omega), Nat.mod_eq_of_lt (a := c) (by omega), Nat.mod_eq_of_lt (a := 8) (by omega), Nat.mod_eq_of_lt (a := m * 256 + c) (by omega), Nat.mod_eq_of_lt (by omega)]
  have := Nat.shiftLeft_add_eq_or_of_lt (i := 8) (b := c) (by omega) m
  rw [Nat.shiftLeft_eq] at this
  omega
theorem shor {v c : Int} (hv : 0 ≤ v ∧ v < 8388608) (hc : 0 ≤ c ∧ c < 256) : (zI ((zI v <<< (zI 8 &&& 31)).toInt) ||| zI c).toInt = v * 256 + c := by
  obtain ⟨m, rfl⟩ : ∃ m : Nat, v = m := ⟨v.toNat, by omega⟩
  obtain ⟨k, rfl⟩ : ∃ m : Nat, c = m := ⟨c.toNat, by omega⟩
  rw [zI_t, show (zI 8 &&& 31) = (8 : Int32) by decide, ← zI_nat, ← zI_nat, shor_n (by omega) (by omega), zI_nat, zI_i (by omega) (by omega)]
  omega
theorem vI_gIs {T : gT} {k j k2 j2 : Nat} {x : Int32} : vI (gI T k j x) k2 j2 = if k2 = k ∧ j2 = j then x.toInt else vI T k2 j2 := by
  unfold vI
  rw [gI_I]
  split <;> rfl
theorem v_o {T : gT} {k j k2 j2 : Nat} {x : Int32} (h : ¬ (k2 = k ∧ j2 = j)) : vI (gI T k j x) k2 j2 = vI T k2 j2 := by rw [vI_gIs, if_neg h]
theorem v_s {T : gT} {k j : Nat} {z : Int} (h : -2147483648 ≤ z ∧ z < 2147483648) : vI (gI T k j (zI z)) k j = z := by rw [vI_gIs, if_pos ⟨rfl, rfl⟩, zI_i h.1 h.2]
theorem wd_snoc {u : Nat → Nat} {p k : Nat} (h : p ≤ k) : wd u p (k + 1) = wd u p k ++ [u k] := by
  unfold wd
  rw [show k + 1 - p = (k - p) + 1 by omega, List.range_succ, List.map_append, List.map_cons, List.map_nil, show p + (k - p) = k by omega]
theorem c7_snoc (w : List Nat) (x : Nat) : c7 (w ++ [x]) = c7 w * 256 + x := by
  unfold c7
  rw [List.foldl_append]
  rfl
theorem wd_1 {u : Nat → Nat} {p : Nat} : wd u p (p + 1) = [u p] := by
  rw [wd_snoc (Nat.le_refl _)]
  unfold wd
  rw [Nat.sub_self]; rfl
theorem c7_wd {u : Nat → Nat} {p k : Nat} (h1 : p < k) (h2 : k ≤ p + 3) (h : ∀ i, p ≤ i → i < k → u i < 128) : 0 ≤ c7 (wd u p k) ∧ c7 (wd u p k) < 8388608 := by
  have a0 := h p (by omega) (by omega)
  obtain e | e | e : k = p + 1 ∨ k = p + 1 + 1 ∨ k = p + 1 + 1 + 1 := by omega
  · rw [e, wd_1, c7_1]; omega
  · have a1 := h (p + 1) (by omega) (by omega)
    rw [e, wd_snoc (by omega), c7_snoc, wd_1, c7_1]; omega
  · have a1 := h (p + 1) (by omega) (by omega)
    have a2 : u (p + 2) < 128 := h (p + 2) (by omega) (by omega)
    rw [e, wd_snoc (by omega), wd_snoc (by omega), c7_snoc, c7_snoc, wd_1, c7_1]; omega
section NM
variable {sa : Nat → Nat} {b : Nat} {E : Nat × mH} {d : Nat} {T : gT} {u : Nat → Nat} {n : Nat}
theorem c_name_lp {Q : Option Value → gT → Prop} (ht : tx T u n) (hw : vI T 0 22 = 0) {a e : Nat} (he : e ≤ n) (hl : ∀ i, a ≤ i → i < e → u i < 128)
    (hY : e ≤ a + 4 → (∀ i, i < e → a < i → nD (u i) = true) → Q (some (.int (zI (c7 (wd u a e))))) (gI T 0 20 (zI (e : Int))))
    (hN : ¬ (e ≤ a + 4 ∧ ∀ i, i < e → a < i → nD (u i) = true) → Q (some (.int (zI (-1)))) (gI (gI T 0 21 (zI (a : Int))) 0 22 (zI 1))) :
    ∀ (j k : Nat) (g v : Int), e - k = j → a < k → k ≤ e → (g = 0 ∨ g = 1) → (g = 1 → e ≤ a + 4 ∧ v = c7 (wd u a k) ∧ ∀ i, i < k → a < i → nD (u i) = true) → (g = 0 → ¬ (e ≤ a + 4 ∧ ∀ i, i < e → a < i → nD (u i) = true)) →
    gW (tP sa) lM b E (d + 1) mX7_name 57 [some (.ref (b + 0)), some (.int (zI (a : Int))), some (.int (zI (e : Int))), some (.int (zI g)), some (.int (zI v)), some (.int (zI (k : Int)))] [] T Q := by
  have hn := ht.n
  intro j
  induction j with
  | zero =>
    intro k g v hj hk1 hk2 hg h1 h0
    obtain rfl : k = e := by omega
    refine w_X7_name_57 ?_
    unfold f_X7_name_57
    refine ⟨by omega, by omega, fun _ => ⟨by omega, fun c => ?_, fun c => ?_⟩, fun c => absurd c (by omega)⟩
    · obtain ⟨q1, q2, q3⟩ := h1 (by omega)
      rw [q2]; exact hY q1 q3
    · exact k_fail0 hw (hN (h0 c))
  | succ j ih =>
    intro k g v hj hk1 hk2 hg h1 h0
    refine w_X7_name_57 ?_
    unfold f_X7_name_57
    refine ⟨by omega, by omega, fun c => absurd c (by omega), fun _ => ⟨by omega, fun c => ⟨fun c2 => absurd c c2, fun _ => ?_⟩, fun c => ⟨by omega, by omega, ?_⟩⟩⟩
    · exact k_fail0 hw (hN (h0 c))
    · obtain ⟨q1, q2, q3⟩ := h1 (by omega)
      have hk : u k < 128 := hl k (by omega) (by omega)
      have e1 : vI T 1 ((k : Int)).toNat = (u k : Int) := by rw [Int.toNat_natCast]; exact ht.v (by omega) hk
      have hv := c7_wd (u := u) hk1 (by omega) (fun i h1 h2 => hl i h1 (by omega))
      rw [e1, shor (by rw [q2]; exact hv) (by omega), zD_nat]
      by_cases hd : nD (u k) = true
      · rw [if_pos hd]
        refine ih (k + 1) 1 _ (by omega) (by omega) (by omega) (Or.inr rfl) (fun _ => ⟨q1, ?_, ?_⟩) (fun z => absurd z (by decide))
        · rw [wd_snoc (by omega), c7_snoc, q2]
        · intro i h1 h2
          by_cases q : i = k
          · rw [q]; exact hd
          · exact q3 i (by omega) h2
      · rw [if_neg hd]
        exact ih (k + 1) 0 _ (by omega) (by omega) (by omega) (Or.inl rfl) (fun z => absurd z (by decide)) (fun _ z => hd (z.2 k (by omega) hk1))
theorem c_name {p : Nat} {φ : Int → gT → Prop} (ht : tx T u n) (hp : vI T 0 20 = (p : Int)) (hpn : p ≤ n) (hw : vI T 0 22 = 0)
    (hY : nmo u n (sk u n p) → φ (c7 (wd u (sk u n p) (we u n (sk u n p)))) (gI T 0 20 (zI (we u n (sk u n p) : Nat))))
    (hN : ¬ nmo u n (sk u n p) → φ (-1) (gI (gI (gI T 0 20 (zI (sk u n p : Nat))) 0 21 (zI (sk u n p : Nat))) 0 22 (zI 1))) :
    gC (tP sa) lM b E (d + 2) mX7_name [.ref (b + 0)] T (fun r T' => pI r (fun v => φ v T')) := by
  have hn := ht.n
  obtain ⟨hs1, hs2⟩ := sk_le (u := u) hpn
  refine w_X7_name (d := d + 1) ?_
  unfold f_X7_name
  refine k_blanks ht hp (by omega) ?_
  generalize hsp : sk u n p = s at *
  have ht1 : tx (gI T 0 20 (zI (s : Nat))) u n := ht.gI (by decide) (by decide)
  have hp1 : vI (gI T 0 20 (zI (s : Nat))) 0 20 = (s : Int) := v_s (by omega)
  have hw1 : vI (gI T 0 20 (zI (s : Nat))) 0 22 = 0 := by rw [v_o (by decide), hw]
  refine k_peek ht1 hp1 (by omega) ?_
  have hc := cz_rg (u := u) (n := n) (p := s) (fun q => ht.b (by omega))
  refine ⟨by omega, fun c => ?_, fun c => ?_⟩
  · have hlt : s < n := cz_lt (u := u) (by rw [zL_iff] at c; omega)
    have c' : nL (u s) = true := by rw [cz_in hlt, zL_nat] at c; exact c
    have hwe := we_le (u := u) (n := n) (p := s) (by omega)
    have hse : s < we u n s := by
      rw [we_y hlt (Or.inl c')]
      have := (we_le (u := u) (n := n) (p := s + 1) (by omega)).1
      omega
    refine k_wordEnd ht1 hp1 (by omega) ?_
    rw [hp1]
    have lp : ∀ g : Int, (g = 0 ∨ g = 1) → (g = 1 → we u n s ≤ s + 4) → (g = 0 → ¬ we u n s ≤ s + 4) → gW (tP sa) lM b E (d + 1 + 1) mX7_name 57 [some (.ref (b + 0)), some (.int (zI (s : Int))), some (.int (zI (we u n s : Nat))), some (.int (zI g)), some (.int (zI (cz u n s))), some (.int (zI ((s : Int) + 1)))] [] (gI T 0 20 (zI (s : Nat))) (fun r T' => pI r (fun v => φ v T')) := by
      intro g hg h1 h0
      refine c_name_lp ht1 hw1 hwe.2 (fun i h1 h2 => we_128 h1 h2) (fun q1 q2 => ⟨_, rfl, ?_⟩) (fun q => ⟨_, rfl, hN (fun z => q ⟨z.2.1, z.2.2⟩)⟩) _ (s + 1) g _ rfl (by omega) (by omega) hg (fun z => ⟨h1 z, by rw [wd_1, c7_1, cz_in hlt], fun i q1 q2 => by omega⟩) (fun z q => h0 z q.1)
      rw [gI_gI]
      exact hY ⟨c, q1, q2⟩
    refine ⟨by omega, fun q => ?_, fun q => ?_⟩
    · exact k_peek ht1 hp1 (by omega) (lp 0 (Or.inl rfl) (by omega) (by omega))
    · exact k_peek ht1 hp1 (by omega) (lp 1 (Or.inr rfl) (by omega) (by omega))
  · rw [hp1]
    exact k_fail0 hw1 ⟨_, rfl, hN (fun z => c z.1)⟩
end NM
