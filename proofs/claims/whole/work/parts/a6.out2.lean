/-! THE TEXT'S BYTES, ASKED AND TYPED -/
def oStep (u : Nat → Nat) (m : Nat) (i : Int) (k : Nat) (v : Int64) : Int64 := if (zI i).toInt64 + (zI (k : Int)).toInt64 < 0 then v else if ¬ (zI i).toInt64 + (zI (k : Int)).toInt64 < (zI (m : Int)).toInt64 then v else v ||| (((sb_b (u ((zI i).toInt64 + (zI (k : Int)).toInt64).toInt32.toInt.toNat)).toInt64 &&& 255) <<< ((zI (8 * (k : Int))).toInt64 &&& 63))
def oFrom (u : Nat → Nat) (m : Nat) (i : Int) : Nat → Nat → Int64 → Int64
  | 0, _, v => v
  | j + 1, k, v => oFrom u m i j (k + 1) (oStep u m i k v)
def aOut (u : Nat → Nat) (m : Nat) (i : Int) : Int64 := oFrom u m i 8 0 0
theorem o_in {p : Int64} {m : Nat} (hm : m ≤ 400) (h0 : ¬ p < 0) (h1 : p < (zI (m : Int)).toInt64) : 0 ≤ p.toInt32.toInt ∧ p.toInt32.toInt < m := by
  have e1 : (zI (m : Int)).toInt64.toInt = (m : Int) := by rw [Int32.toInt_toInt64]; exact zI_i (by omega) (by omega)
  rw [Int64.lt_iff_toInt_lt] at h0 h1
  rw [e1] at h1
  have e0 : (0 : Int64).toInt = 0 := rfl
  rw [e0] at h0
  rw [Int64.toInt_toInt32]
  have : p.toInt.bmod (2 ^ 32) = p.toInt := by
    apply Int.bmod_eq_of_le <;> omega
  rw [this]
  omega
theorem or_z (x : Int64) : x ||| 0 = x := Int64.or_zero
section OUT
variable {sa : Nat → Nat} {b : Nat} {E : Nat × mH} {d : Nat} {T : gT} {A : aSt}
theorem s_out {i : Int} (h : cA T A) : gC (tP sa) lD b E d mX6_out [.ref (b + 0), .int (zI i)] T (sJ T (aOut A.1 A.2.1 i) A) := by
  obtain ⟨q, hA⟩ := id h
  obtain ⟨⟨t1, t2, t3⟩, _⟩ := id hA
  refine w_X6_out ?_
  unfold f_X6_out
  have lp : ∀ (j k : Nat) (v : Int64) (L5 : Option Value), j + k = 8 → (L5 = none ∨ ∃ x, L5 = some (.long x)) → oFrom A.1 A.2.1 i j k v = aOut A.1 A.2.1 i → gW (tP sa) lD b E d mX6_out 5 [some (.ref (b + 0)), some (.int (zI i)), some (.long v), none, some (.int (zI (k : Int))), L5, none] [] T (sJ T (aOut A.1 A.2.1 i) A) := by
    intro j
    induction j with
    | zero =>
      intro k v L5 hj hL ho
      have key : f_X6_out_5 sa b E d i v (k : Int) T (sJ T (aOut A.1 A.2.1 i) A) := by
        unfold f_X6_out_5
        refine ⟨by omega, fun _ => ⟨?_, rfl, h⟩, fun z => by omega⟩
        rw [← ho]; rfl
      rcases hL with rfl | ⟨x, rfl⟩
      · exact w_X6_out_5 key
      · exact w_X6_out_5b (l5 := x) key
    | succ j ih =>
      intro k v L5 hj hL ho
      have key : f_X6_out_5 sa b E d i v (k : Int) T (sJ T (aOut A.1 A.2.1 i) A) := by
        unfold f_X6_out_5
        rw [oFrom] at ho
        unfold oStep at ho
        rw [t2, show (k : Int) + 1 = ((k + 1 : Nat) : Int) by omega]
        refine ⟨by omega, fun z => by omega, fun _ => ⟨fun z => ?_, fun z => ⟨fun z2 => ?_, fun z2 => ?_⟩⟩⟩
        · rw [if_pos z] at ho
          exact ih (k + 1) v _ (by omega) (Or.inr ⟨_, rfl⟩) ho
        · rw [if_neg z, if_pos z2] at ho
          exact ih (k + 1) v _ (by omega) (Or.inr ⟨_, rfl⟩) ho
        · rw [if_neg z, if_neg (fun y => y z2)] at ho
          have hi := o_in t3 z z2
          refine ⟨hi.1, by omega, ?_⟩
          rw [zI_v, (t1 _ (by omega)).2]
          exact ih (k + 1) _ _ (by omega) (Or.inr ⟨_, rfl⟩) ho
      rcases hL with rfl | ⟨x, rfl⟩
      · exact w_X6_out_5 key
      · exact w_X6_out_5b (l5 := x) key
  exact lp 8 0 0 none rfl (Or.inl rfl) rfl
end OUT
