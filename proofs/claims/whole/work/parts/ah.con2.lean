/-! THE CONSTRUCTORS (printed by wip/whole/gen_con.py) -/
theorem mft_2_0 : putOk 2 0 = true := by decide +kernel
theorem mft_2_1 : putOk 2 1 = true := by decide +kernel
theorem mft_2_2 : putOk 2 2 = true := by decide +kernel
theorem mft_2_3 : putOk 2 3 = true := by decide +kernel
theorem mft_3_0 : putOk 3 0 = true := by decide +kernel
theorem mft_3_1 : putOk 3 1 = true := by decide +kernel
theorem mft_3_2 : putOk 3 2 = true := by decide +kernel
theorem mft_4_3 : putOk 4 3 = true := by decide +kernel
theorem mft_4_6 : putOk 4 6 = true := by decide +kernel
theorem mft_4_7 : putOk 4 7 = true := by decide +kernel
theorem mft_4_8 : putOk 4 8 = true := by decide +kernel
theorem mft_4_9 : putOk 4 9 = true := by decide +kernel
theorem mft_4_10 : putOk 4 10 = true := by decide +kernel
theorem mft_4_11 : putOk 4 11 = true := by decide +kernel
theorem mft_5_3 : putOk 5 3 = true := by decide +kernel
theorem mft_5_4 : putOk 5 4 = true := by decide +kernel
theorem mft_5_5 : putOk 5 5 = true := by decide +kernel
theorem mft_5_6 : putOk 5 6 = true := by decide +kernel
theorem mft_5_7 : putOk 5 7 = true := by decide +kernel
theorem mft_5_8 : putOk 5 8 = true := by decide +kernel
theorem mft_5_9 : putOk 5 9 = true := by decide +kernel
theorem mft_5_10 : putOk 5 10 = true := by decide +kernel
theorem mft_5_11 : putOk 5 11 = true := by decide +kernel
theorem mft_5_12 : putOk 5 12 = true := by decide +kernel
theorem mft_5_13 : putOk 5 13 = true := by decide +kernel
theorem mft_5_14 : putOk 5 14 = true := by decide +kernel
theorem mft_5_15 : putOk 5 15 = true := by decide +kernel
theorem mft_5_16 : putOk 5 16 = true := by decide +kernel
theorem mft_5_17 : putOk 5 17 = true := by decide +kernel
theorem mft_6_7 : putOk 6 7 = true := by decide +kernel
theorem mft_6_8 : putOk 6 8 = true := by decide +kernel
theorem mft_6_10 : putOk 6 10 = true := by decide +kernel
theorem mft_6_11 : putOk 6 11 = true := by decide +kernel
theorem mft_6_12 : putOk 6 12 = true := by decide +kernel
theorem mft_6_13 : putOk 6 13 = true := by decide +kernel
theorem mft_7_0 : putOk 7 0 = true := by decide +kernel
theorem mft_8_0 : putOk 8 0 = true := by decide +kernel
theorem mft_8_2 : putOk 8 2 = true := by decide +kernel
theorem mft_8_3 : putOk 8 3 = true := by decide +kernel
theorem mft_8_4 : putOk 8 4 = true := by decide +kernel
theorem mft_8_5 : putOk 8 5 = true := by decide +kernel
theorem mft_8_6 : putOk 8 6 = true := by decide +kernel
theorem mft_8_7 : putOk 8 7 = true := by decide +kernel
theorem mft_9_1 : putOk 9 1 = true := by decide +kernel
theorem mft_9_5 : putOk 9 5 = true := by decide +kernel
theorem mft_9_6 : putOk 9 6 = true := by decide +kernel
theorem mft_9_7 : putOk 9 7 = true := by decide +kernel
theorem mft_9_9 : putOk 9 9 = true := by decide +kernel
theorem mft_9_10 : putOk 9 10 = true := by decide +kernel
theorem mft_9_11 : putOk 9 11 = true := by decide +kernel
theorem mft_9_12 : putOk 9 12 = true := by decide +kernel
theorem mft_9_13 : putOk 9 13 = true := by decide +kernel
theorem mft_9_14 : putOk 9 14 = true := by decide +kernel
theorem mft_9_15 : putOk 9 15 = true := by decide +kernel
theorem mft_9_19 : putOk 9 19 = true := by decide +kernel
theorem mft_9_25 : putOk 9 25 = true := by decide +kernel
theorem mft_9_26 : putOk 9 26 = true := by decide +kernel
theorem mft_9_29 : putOk 9 29 = true := by decide +kernel
theorem mft_9_30 : putOk 9 30 = true := by decide +kernel
theorem mft_9_31 : putOk 9 31 = true := by decide +kernel
theorem mft_9_32 : putOk 9 32 = true := by decide +kernel
theorem mft_9_33 : putOk 9 33 = true := by decide +kernel
theorem mft_9_34 : putOk 9 34 = true := by decide +kernel
theorem mft_9_35 : putOk 9 35 = true := by decide +kernel
theorem mft_9_37 : putOk 9 37 = true := by decide +kernel
theorem mft_9_38 : putOk 9 38 = true := by decide +kernel
theorem mft_9_39 : putOk 9 39 = true := by decide +kernel
theorem mft_9_40 : putOk 9 40 = true := by decide +kernel
theorem mft_9_41 : putOk 9 41 = true := by decide +kernel
theorem mft_9_47 : putOk 9 47 = true := by decide +kernel
theorem mft_9_50 : putOk 9 50 = true := by decide +kernel
section KE
variable {P : mP} {b : Nat} {h : mH} {n d : Nat} {M : mM} {pc : Nat} {L : mL} {st : List Value} {cs : List mC} {sl i ci : Nat} {fs fs9 : List Value} {app app9 : List mC} {Q : Option Value → List mC → Nat → Prop}
theorem k_newaE {t : ArrayType} {ty : FieldType} {z : Nat → vp_A} {v : Int32} {N K : Nat} (hd : decode (mCode M) pc = .ok (.newarray t, 2)) (hz : mZero t = some (ty, z)) (hv : v.toNatClampNeg = N) (hn : ¬ (v < 0 ∨ 60000 < v.toNatClampNeg)) (hK : app.length = K) (he : app ++ [.inl (ty, z N)] = app9) (k : kW P b h n d M (pc + 2) L (.ref (n + (cs.length + K)) :: st) (kL cs i ci fs app9) (sl + N) Q) : kW P b h n d M pc L (.int v :: st) (kL cs i ci fs app) sl Q := by
  subst hK; subst he
  exact k_newa hd hz hv hn k
theorem k_putE {k9 f a : Nat} (hi : i < cs.length) (hb : b ≤ n) (hd : decode (mCode M) pc = .ok (.putfield k9, 3)) (hF : P.1 (mTag M) k9 = some (ci, f)) (hft : putOk ci f = true) (hf : f < fs.length) (hini : mIni M = true ∧ mCi M = ci) (he : fs.set f (.ref a) = fs9) (k : kW P b h n d M (pc + 3) L st (kL cs i ci fs9 app) sl Q) : kW P b h n d M pc L (.ref a :: .ref (n + i) :: st) (kL cs i ci fs app) sl Q := by
  subst he
  exact k_put hi hb hd hF hft hf hini k
end KE
def fF_X0 (n c : Nat) : List Value := [.ref (n + (c + 0)), .ref (n + (c + 1)), .ref (n + (c + 2)), .ref (n + (c + 3)), .int 0]
def fA_X0 (n c : Nat) : List mC := [.inl (.int, 1000, .inl (fun _ => 0)), .inl (.int, 1000, .inl (fun _ => 0)), .inl (.long, 1000, .inr (.inl (fun _ => 0))), .inl (.int, 1000, .inl (fun _ => 0))]
set_option maxRecDepth 4000 in
theorem con_X0 (sa : Nat → Nat) {b d : Nat} : kCon (tP sa) b (d + 1) mX0_init 2 [.null, .null, .null, .null, .int 0] fF_X0 fA_X0 4000 := by
  intro h n cs i sl Q hb hi hg hq
  show kW (tP sa) b h n (d + 1) mX0_init 0 [some (.ref (n + i))] [] cs sl Q
  rw [← kL_own hg]
  refine k_step dX0_init_0 (Or.inr rfl) (fun S => rfl) ?_
  refine k_obj0 dX0_init_1 tG_0_3 rfl rfl ?_
  refine k_step dX0_init_4 (Or.inr rfl) (fun S => rfl) ?_
  refine k_step dX0_init_5 (Or.inr rfl) (fun S => rfl) ?_
  refine k_newa (N := 1000) dX0_init_8 rfl (by decide) (by decide) ?_
  refine k_put hi hb dX0_init_10 tF_0_11 mft_2_0 (Nat.le_of_ble_eq_true rfl) ⟨rfl, rfl⟩ ?_
  refine k_step dX0_init_13 (Or.inr rfl) (fun S => rfl) ?_
  refine k_step dX0_init_14 (Or.inr rfl) (fun S => rfl) ?_
  refine k_newa (N := 1000) dX0_init_17 rfl (by decide) (by decide) ?_
  refine k_put hi hb dX0_init_19 tF_0_15 mft_2_1 (Nat.le_of_ble_eq_true rfl) ⟨rfl, rfl⟩ ?_
  refine k_step dX0_init_22 (Or.inr rfl) (fun S => rfl) ?_
  refine k_step dX0_init_23 (Or.inr rfl) (fun S => rfl) ?_
  refine k_newa (N := 1000) dX0_init_26 rfl (by decide) (by decide) ?_
  refine k_put hi hb dX0_init_28 tF_0_18 mft_2_2 (Nat.le_of_ble_eq_true rfl) ⟨rfl, rfl⟩ ?_
  refine k_step dX0_init_31 (Or.inr rfl) (fun S => rfl) ?_
  refine k_step dX0_init_32 (Or.inr rfl) (fun S => rfl) ?_
  refine k_newa (N := 1000) dX0_init_35 rfl (by decide) (by decide) ?_
  refine k_put hi hb dX0_init_37 tF_0_22 mft_2_3 (Nat.le_of_ble_eq_true rfl) ⟨rfl, rfl⟩ ?_
  refine k_ret dX0_init_40 (Or.inr rfl) (Or.inl ⟨rfl, rfl, rfl⟩) rfl ?_
  rw [show sl + 4000 = sl + 1000 + 1000 + 1000 + 1000 by omega] at hq
  exact hq
def fF_X1 (n c : Nat) : List Value := [.ref (n + (c + 0)), .ref (n + (c + 1)), .ref (n + (c + 2)), .int 0]
def fA_X1 (n c : Nat) : List mC := [.inl (.long, 200, .inr (.inl (fun _ => 0))), .inl (.long, 100, .inr (.inl (fun _ => 0))), .inl (.long, 50, .inr (.inl (fun _ => 0)))]
set_option maxRecDepth 4000 in
theorem con_X1 (sa : Nat → Nat) {b d : Nat} : kCon (tP sa) b (d + 1) mX1_init 3 [.null, .null, .null, .int 0] fF_X1 fA_X1 350 := by
  intro h n cs i sl Q hb hi hg hq
  show kW (tP sa) b h n (d + 1) mX1_init 0 [some (.ref (n + i))] [] cs sl Q
  rw [← kL_own hg]
  refine k_step dX1_init_0 (Or.inr rfl) (fun S => rfl) ?_
  refine k_obj0 dX1_init_1 tG_1_3 rfl rfl ?_
  refine k_step dX1_init_4 (Or.inr rfl) (fun S => rfl) ?_
  refine k_step dX1_init_5 (Or.inr rfl) (fun S => rfl) ?_
  refine k_newa (N := 200) dX1_init_8 rfl (by decide) (by decide) ?_
  refine k_put hi hb dX1_init_10 tF_1_9 mft_3_0 (Nat.le_of_ble_eq_true rfl) ⟨rfl, rfl⟩ ?_
  refine k_step dX1_init_13 (Or.inr rfl) (fun S => rfl) ?_
  refine k_step dX1_init_14 (Or.inr rfl) (fun S => rfl) ?_
  refine k_newa (N := 100) dX1_init_16 rfl (by decide) (by decide) ?_
  refine k_put hi hb dX1_init_18 tF_1_15 mft_3_1 (Nat.le_of_ble_eq_true rfl) ⟨rfl, rfl⟩ ?_
  refine k_step dX1_init_21 (Or.inr rfl) (fun S => rfl) ?_
  refine k_step dX1_init_22 (Or.inr rfl) (fun S => rfl) ?_
  refine k_newa (N := 50) dX1_init_24 rfl (by decide) (by decide) ?_
  refine k_put hi hb dX1_init_26 tF_1_18 mft_3_2 (Nat.le_of_ble_eq_true rfl) ⟨rfl, rfl⟩ ?_
  refine k_ret dX1_init_29 (Or.inr rfl) (Or.inl ⟨rfl, rfl, rfl⟩) rfl ?_
  rw [show sl + 350 = sl + 200 + 100 + 50 by omega] at hq
  exact hq
def fF_X3 (n c : Nat) : List Value := [.int 0, .int 0, .int 0, .ref (n + (c + 0)), .ref (n + (c + 1)), .ref (n + (c + 2)), .ref (n + (c + 3)), .ref (n + (c + 4)), .ref (n + (c + 5)), .ref (n + (c + 6)), .ref (n + (c + 7)), .ref (n + (c + 8)), .ref (n + (c + 9)), .ref (n + (c + 10)), .ref (n + (c + 11)), .ref (n + (c + 15)), .ref (n + (c + 16)), .ref (n + (c + 17))]
def fA_X3 (n c : Nat) : List mC := [.inl (.int, 200, .inl (fun _ => 0)), .inl (.int, 200, .inl (fun _ => 0)), .inl (.int, 200, .inl (fun _ => 0)), .inl (.int, 200, .inl (fun _ => 0)), .inl (.int, 200, .inl (fun _ => 0)), .inl (.int, 200, .inl (fun _ => 0)), .inl (.int, 50, .inl (fun _ => 0)), .inl (.int, 100, .inl (fun _ => 0)), .inl (.int, 100, .inl (fun _ => 0)), .inl (.int, 50, .inl (fun _ => 0)), .inl (.int, 100, .inl (fun _ => 0)), .inl (.array .int, 3, .inr (.inr (.inr (.inr (fun j => if j < 3 then some ((n + (c + 11)) + 1 + j) else none))))), .inl (.int, 200, .inl (fun _ => 0)), .inl (.int, 200, .inl (fun _ => 0)), .inl (.int, 200, .inl (fun _ => 0)), .inl (.int, 200, .inl (fun _ => 0)), .inl (.int, 200, .inl (fun _ => 0)), .inl (.int, 200, .inl (fun _ => 0))]
set_option maxRecDepth 4000 in
theorem con_X3 (sa : Nat → Nat) {b d : Nat} : kCon (tP sa) b (d + 1) mX3_init 5 [.int 0, .int 0, .int 0, .null, .null, .null, .null, .null, .null, .null, .null, .null, .null, .null, .null, .null, .null, .null] fF_X3 fA_X3 2803 := by
  intro h n cs i sl Q hb hi hg hq
  show kW (tP sa) b h n (d + 1) mX3_init 0 [some (.ref (n + i))] [] cs sl Q
  rw [← kL_own hg]
  refine k_step dX3_init_0 (Or.inr rfl) (fun S => rfl) ?_
  refine k_obj0 dX3_init_1 tG_3_3 rfl rfl ?_
  refine k_step dX3_init_4 (Or.inr rfl) (fun S => rfl) ?_
  refine k_step dX3_init_5 (Or.inr rfl) (fun S => rfl) ?_
  refine k_newa (N := 200) dX3_init_8 rfl (by decide) (by decide) ?_
  refine k_put hi hb dX3_init_10 tF_3_9 mft_5_3 (Nat.le_of_ble_eq_true rfl) ⟨rfl, rfl⟩ ?_
  refine k_step dX3_init_13 (Or.inr rfl) (fun S => rfl) ?_
  refine k_step dX3_init_14 (Or.inr rfl) (fun S => rfl) ?_
  refine k_newa (N := 200) dX3_init_17 rfl (by decide) (by decide) ?_
  refine k_put hi hb dX3_init_19 tF_3_15 mft_5_4 (Nat.le_of_ble_eq_true rfl) ⟨rfl, rfl⟩ ?_
  refine k_step dX3_init_22 (Or.inr rfl) (fun S => rfl) ?_
  refine k_step dX3_init_23 (Or.inr rfl) (fun S => rfl) ?_
  refine k_newa (N := 200) dX3_init_26 rfl (by decide) (by decide) ?_
  refine k_put hi hb dX3_init_28 tF_3_18 mft_5_5 (Nat.le_of_ble_eq_true rfl) ⟨rfl, rfl⟩ ?_
  refine k_step dX3_init_31 (Or.inr rfl) (fun S => rfl) ?_
  refine k_step dX3_init_32 (Or.inr rfl) (fun S => rfl) ?_
  refine k_newa (N := 200) dX3_init_35 rfl (by decide) (by decide) ?_
  refine k_put hi hb dX3_init_37 tF_3_21 mft_5_6 (Nat.le_of_ble_eq_true rfl) ⟨rfl, rfl⟩ ?_
  refine k_step dX3_init_40 (Or.inr rfl) (fun S => rfl) ?_
  refine k_step dX3_init_41 (Or.inr rfl) (fun S => rfl) ?_
  refine k_newa (N := 200) dX3_init_44 rfl (by decide) (by decide) ?_
  refine k_put hi hb dX3_init_46 tF_3_24 mft_5_7 (Nat.le_of_ble_eq_true rfl) ⟨rfl, rfl⟩ ?_
  refine k_step dX3_init_49 (Or.inr rfl) (fun S => rfl) ?_
  refine k_step dX3_init_50 (Or.inr rfl) (fun S => rfl) ?_
  refine k_newa (N := 200) dX3_init_53 rfl (by decide) (by decide) ?_
  refine k_put hi hb dX3_init_55 tF_3_27 mft_5_8 (Nat.le_of_ble_eq_true rfl) ⟨rfl, rfl⟩ ?_
  refine k_step dX3_init_58 (Or.inr rfl) (fun S => rfl) ?_
  refine k_step dX3_init_59 (Or.inr rfl) (fun S => rfl) ?_
  refine k_newa (N := 50) dX3_init_61 rfl (by decide) (by decide) ?_
  refine k_put hi hb dX3_init_63 tF_3_30 mft_5_9 (Nat.le_of_ble_eq_true rfl) ⟨rfl, rfl⟩ ?_
  refine k_step dX3_init_66 (Or.inr rfl) (fun S => rfl) ?_
  refine k_step dX3_init_67 (Or.inr rfl) (fun S => rfl) ?_
  refine k_newa (N := 100) dX3_init_69 rfl (by decide) (by decide) ?_
  refine k_put hi hb dX3_init_71 tF_3_33 mft_5_10 (Nat.le_of_ble_eq_true rfl) ⟨rfl, rfl⟩ ?_
  refine k_step dX3_init_74 (Or.inr rfl) (fun S => rfl) ?_
  refine k_step dX3_init_75 (Or.inr rfl) (fun S => rfl) ?_
  refine k_newa (N := 100) dX3_init_77 rfl (by decide) (by decide) ?_
  refine k_put hi hb dX3_init_79 tF_3_36 mft_5_11 (Nat.le_of_ble_eq_true rfl) ⟨rfl, rfl⟩ ?_
  refine k_step dX3_init_82 (Or.inr rfl) (fun S => rfl) ?_
  refine k_step dX3_init_83 (Or.inr rfl) (fun S => rfl) ?_
  refine k_newa (N := 50) dX3_init_85 rfl (by decide) (by decide) ?_
  refine k_put hi hb dX3_init_87 tF_3_39 mft_5_12 (Nat.le_of_ble_eq_true rfl) ⟨rfl, rfl⟩ ?_
  refine k_step dX3_init_90 (Or.inr rfl) (fun S => rfl) ?_
  refine k_step dX3_init_91 (Or.inr rfl) (fun S => rfl) ?_
  refine k_newa (N := 100) dX3_init_93 rfl (by decide) (by decide) ?_
  refine k_put hi hb dX3_init_95 tF_3_42 mft_5_13 (Nat.le_of_ble_eq_true rfl) ⟨rfl, rfl⟩ ?_
  refine k_step dX3_init_98 (Or.inr rfl) (fun S => rfl) ?_
  refine k_step dX3_init_99 (Or.inr rfl) (fun S => rfl) ?_
  refine k_step dX3_init_100 (Or.inr rfl) (fun S => rfl) ?_
  refine k_multi (N := 3) (K := 200) rfl dX3_init_103 (by decide) (by decide) (by decide) (by decide) (by decide) (by decide) ?_
  refine k_put hi hb dX3_init_107 tF_3_47 mft_5_14 (Nat.le_of_ble_eq_true rfl) ⟨rfl, rfl⟩ ?_
  refine k_step dX3_init_110 (Or.inr rfl) (fun S => rfl) ?_
  refine k_step dX3_init_111 (Or.inr rfl) (fun S => rfl) ?_
  refine k_newa (N := 200) dX3_init_114 rfl (by decide) (by decide) ?_
  refine k_put hi hb dX3_init_116 tF_3_50 mft_5_15 (Nat.le_of_ble_eq_true rfl) ⟨rfl, rfl⟩ ?_
  refine k_step dX3_init_119 (Or.inr rfl) (fun S => rfl) ?_
  refine k_step dX3_init_120 (Or.inr rfl) (fun S => rfl) ?_
  refine k_newa (N := 200) dX3_init_123 rfl (by decide) (by decide) ?_
  refine k_put hi hb dX3_init_125 tF_3_53 mft_5_16 (Nat.le_of_ble_eq_true rfl) ⟨rfl, rfl⟩ ?_
  refine k_step dX3_init_128 (Or.inr rfl) (fun S => rfl) ?_
  refine k_step dX3_init_129 (Or.inr rfl) (fun S => rfl) ?_
  refine k_newa (N := 200) dX3_init_132 rfl (by decide) (by decide) ?_
  refine k_put hi hb dX3_init_134 tF_3_56 mft_5_17 (Nat.le_of_ble_eq_true rfl) ⟨rfl, rfl⟩ ?_
  refine k_ret dX3_init_137 (Or.inr rfl) (Or.inl ⟨rfl, rfl, rfl⟩) rfl ?_
  rw [show sl + 2803 = sl + 200 + 200 + 200 + 200 + 200 + 200 + 50 + 100 + 100 + 50 + 100 + 3 + 3 * 200 + 200 + 200 + 200 by omega] at hq
  exact hq
def fF_X4 (n c : Nat) : List Value := [.null, .int 0, .int 0, .int 0, .null, .int 0, .int 0, .ref (n + (c + 0)), .ref (n + (c + 1)), .int 0, .ref (n + (c + 2)), .ref (n + (c + 3)), .ref (n + (c + 4)), .ref (n + (c + 5)), .int 0]
def fA_X4 (n c : Nat) : List mC := [.inl (.int, 100, .inl (fun _ => 0)), .inl (.int, 100, .inl (fun _ => 0)), .inl (.int, 40, .inl (fun _ => 0)), .inl (.int, 40, .inl (fun _ => 0)), .inl (.int, 40, .inl (fun _ => 0)), .inl (.int, 40, .inl (fun _ => 0))]
set_option maxRecDepth 4000 in
theorem con_X4 (sa : Nat → Nat) {b d : Nat} : kCon (tP sa) b (d + 1) mX4_init 6 [.null, .int 0, .int 0, .int 0, .null, .int 0, .int 0, .null, .null, .int 0, .null, .null, .null, .null, .int 0] fF_X4 fA_X4 360 := by
  intro h n cs i sl Q hb hi hg hq
  show kW (tP sa) b h n (d + 1) mX4_init 0 [some (.ref (n + i))] [] cs sl Q
  rw [← kL_own hg]
  refine k_step dX4_init_0 (Or.inr rfl) (fun S => rfl) ?_
  refine k_obj0 dX4_init_1 tG_4_3 rfl rfl ?_
  refine k_step dX4_init_4 (Or.inr rfl) (fun S => rfl) ?_
  refine k_step dX4_init_5 (Or.inr rfl) (fun S => rfl) ?_
  refine k_newa (N := 100) dX4_init_7 rfl (by decide) (by decide) ?_
  refine k_put hi hb dX4_init_9 tF_4_9 mft_6_7 (Nat.le_of_ble_eq_true rfl) ⟨rfl, rfl⟩ ?_
  refine k_step dX4_init_12 (Or.inr rfl) (fun S => rfl) ?_
  refine k_step dX4_init_13 (Or.inr rfl) (fun S => rfl) ?_
  refine k_newa (N := 100) dX4_init_15 rfl (by decide) (by decide) ?_
  refine k_put hi hb dX4_init_17 tF_4_15 mft_6_8 (Nat.le_of_ble_eq_true rfl) ⟨rfl, rfl⟩ ?_
  refine k_step dX4_init_20 (Or.inr rfl) (fun S => rfl) ?_
  refine k_step dX4_init_21 (Or.inr rfl) (fun S => rfl) ?_
  refine k_newa (N := 40) dX4_init_23 rfl (by decide) (by decide) ?_
  refine k_put hi hb dX4_init_25 tF_4_18 mft_6_10 (Nat.le_of_ble_eq_true rfl) ⟨rfl, rfl⟩ ?_
  refine k_step dX4_init_28 (Or.inr rfl) (fun S => rfl) ?_
  refine k_step dX4_init_29 (Or.inr rfl) (fun S => rfl) ?_
  refine k_newa (N := 40) dX4_init_31 rfl (by decide) (by decide) ?_
  refine k_put hi hb dX4_init_33 tF_4_21 mft_6_11 (Nat.le_of_ble_eq_true rfl) ⟨rfl, rfl⟩ ?_
  refine k_step dX4_init_36 (Or.inr rfl) (fun S => rfl) ?_
  refine k_step dX4_init_37 (Or.inr rfl) (fun S => rfl) ?_
  refine k_newa (N := 40) dX4_init_39 rfl (by decide) (by decide) ?_
  refine k_put hi hb dX4_init_41 tF_4_24 mft_6_12 (Nat.le_of_ble_eq_true rfl) ⟨rfl, rfl⟩ ?_
  refine k_step dX4_init_44 (Or.inr rfl) (fun S => rfl) ?_
  refine k_step dX4_init_45 (Or.inr rfl) (fun S => rfl) ?_
  refine k_newa (N := 40) dX4_init_47 rfl (by decide) (by decide) ?_
  refine k_put hi hb dX4_init_49 tF_4_27 mft_6_13 (Nat.le_of_ble_eq_true rfl) ⟨rfl, rfl⟩ ?_
  refine k_ret dX4_init_52 (Or.inr rfl) (Or.inl ⟨rfl, rfl, rfl⟩) rfl ?_
  rw [show sl + 360 = sl + 100 + 100 + 40 + 40 + 40 + 40 by omega] at hq
  exact hq
def fF_X5 (n c : Nat) : List Value := [.ref (n + (c + 0)), .int 0]
def fA_X5 (n c : Nat) : List mC := [.inl (.byte, 400, .inl (fun _ => 0))]
set_option maxRecDepth 4000 in
theorem con_X5 (sa : Nat → Nat) {b d : Nat} : kCon (tP sa) b (d + 1) mX5_init 7 [.null, .int 0] fF_X5 fA_X5 400 := by
  intro h n cs i sl Q hb hi hg hq
  show kW (tP sa) b h n (d + 1) mX5_init 0 [some (.ref (n + i))] [] cs sl Q
  rw [← kL_own hg]
  refine k_step dX5_init_0 (Or.inr rfl) (fun S => rfl) ?_
  refine k_obj0 dX5_init_1 tG_5_3 rfl rfl ?_
  refine k_step dX5_init_4 (Or.inr rfl) (fun S => rfl) ?_
  refine k_step dX5_init_5 (Or.inr rfl) (fun S => rfl) ?_
  refine k_newa (N := 400) dX5_init_8 rfl (by decide) (by decide) ?_
  refine k_put hi hb dX5_init_10 tF_5_9 mft_7_0 (Nat.le_of_ble_eq_true rfl) ⟨rfl, rfl⟩ ?_
  refine k_ret dX5_init_13 (Or.inr rfl) (Or.inl ⟨rfl, rfl, rfl⟩) rfl ?_
  rw [show sl + 400 = sl + 400 by omega] at hq
  exact hq
def fF_X2 (n c : Nat) : List Value := [.int 0, .int 0, .long 0, .ref (n + (c + 0)), .null, .int 0, .ref (n + (c + 1)), .ref (n + (c + 6)), .ref (n + (c + 7)), .ref (n + (c + 8)), .ref (n + (c + 9)), .ref (n + (c + 10)), .int 0, .int 0, .int 0, .int 0, .long 0]
def fA_X2 (n c : Nat) : List mC := [.inl (.long, 200, .inr (.inl (fun _ => 0))), .inr (2, [.ref (n + (c + 2)), .ref (n + (c + 3)), .ref (n + (c + 4)), .ref (n + (c + 5)), .int 0]), .inl (.int, 1000, .inl (fun _ => 0)), .inl (.int, 1000, .inl (fun _ => 0)), .inl (.long, 1000, .inr (.inl (fun _ => 0))), .inl (.int, 1000, .inl (fun _ => 0)), .inl (.int, 2000, .inl (fun _ => 0)), .inl (.int, 2000, .inl (fun _ => 0)), .inl (.boolean, 2000, .inl (fun _ => 0)), .inl (.int, 2000, .inl (fun _ => 0)), .inl (.long, 2000, .inr (.inl (fun _ => 0)))]
set_option maxRecDepth 4000 in
theorem con_X2 (sa : Nat → Nat) {b d : Nat} : kCon (tP sa) b (d + 2) mX2_init 4 [.int 0, .int 0, .long 0, .null, .null, .int 0, .null, .null, .null, .null, .null, .null, .int 0, .int 0, .int 0, .int 0, .long 0] fF_X2 fA_X2 14205 := by
  intro h n cs i sl Q hb hi hg hq
  show kW (tP sa) b h n (d + 2) mX2_init 0 [some (.ref (n + i))] [] cs sl Q
  rw [← kL_own hg]
  refine k_step dX2_init_0 (Or.inr rfl) (fun S => rfl) ?_
  refine k_obj0 dX2_init_1 tG_2_3 rfl rfl ?_
  refine k_step dX2_init_4 (Or.inr rfl) (fun S => rfl) ?_
  refine k_step dX2_init_5 (Or.inr rfl) (fun S => rfl) ?_
  refine k_newa (N := 200) dX2_init_8 rfl (by decide) (by decide) ?_
  refine k_put hi hb dX2_init_10 tF_2_9 mft_4_3 (Nat.le_of_ble_eq_true rfl) ⟨rfl, rfl⟩ ?_
  refine k_step dX2_init_13 (Or.inr rfl) (fun S => rfl) ?_
  refine k_new (born := [.null, .null, .null, .null, .int 0]) dX2_init_14 tC_2_15 (by decide +kernel) ?_
  refine k_step dX2_init_17 (Or.inr rfl) (fun S => rfl) ?_
  refine k_con (con_X0 (d := d) sa) (by omega) hb dX2_init_18 tG_2_17 tM_0 rfl rfl rfl rfl ?_
  refine k_put hi hb dX2_init_21 tF_2_18 mft_4_6 (Nat.le_of_ble_eq_true rfl) ⟨rfl, rfl⟩ ?_
  refine k_step dX2_init_24 (Or.inr rfl) (fun S => rfl) ?_
  refine k_step dX2_init_25 (Or.inr rfl) (fun S => rfl) ?_
  refine k_newa (N := 2000) dX2_init_28 rfl (by decide) (by decide) ?_
  refine k_put hi hb dX2_init_30 tF_2_22 mft_4_7 (Nat.le_of_ble_eq_true rfl) ⟨rfl, rfl⟩ ?_
  refine k_step dX2_init_33 (Or.inr rfl) (fun S => rfl) ?_
  refine k_step dX2_init_34 (Or.inr rfl) (fun S => rfl) ?_
  refine k_newa (N := 2000) dX2_init_37 rfl (by decide) (by decide) ?_
  refine k_put hi hb dX2_init_39 tF_2_26 mft_4_8 (Nat.le_of_ble_eq_true rfl) ⟨rfl, rfl⟩ ?_
  refine k_step dX2_init_42 (Or.inr rfl) (fun S => rfl) ?_
  refine k_step dX2_init_43 (Or.inr rfl) (fun S => rfl) ?_
  refine k_newa (N := 2000) dX2_init_46 rfl (by decide) (by decide) ?_
  refine k_put hi hb dX2_init_48 tF_2_29 mft_4_9 (Nat.le_of_ble_eq_true rfl) ⟨rfl, rfl⟩ ?_
  refine k_step dX2_init_51 (Or.inr rfl) (fun S => rfl) ?_
  refine k_step dX2_init_52 (Or.inr rfl) (fun S => rfl) ?_
  refine k_newa (N := 2000) dX2_init_55 rfl (by decide) (by decide) ?_
  refine k_put hi hb dX2_init_57 tF_2_33 mft_4_10 (Nat.le_of_ble_eq_true rfl) ⟨rfl, rfl⟩ ?_
  refine k_step dX2_init_60 (Or.inr rfl) (fun S => rfl) ?_
  refine k_step dX2_init_61 (Or.inr rfl) (fun S => rfl) ?_
  refine k_newa (N := 2000) dX2_init_64 rfl (by decide) (by decide) ?_
  refine k_put hi hb dX2_init_66 tF_2_36 mft_4_11 (Nat.le_of_ble_eq_true rfl) ⟨rfl, rfl⟩ ?_
  refine k_ret dX2_init_69 (Or.inr rfl) (Or.inl ⟨rfl, rfl, rfl⟩) rfl ?_
  rw [show sl + 14205 = sl + 200 + 5 + 4000 + 2000 + 2000 + 2000 + 2000 + 2000 by omega] at hq
  exact hq
def fF_X6 (n c : Nat) : List Value := [.ref (n + (c + 0)), .int 0, .ref (n + (c + 1)), .ref (n + (c + 20)), .ref (n + (c + 39)), .ref (n + (c + 46)), .ref (n + (c + 50)), .ref (n + (c + 62))]
def fA_X6 (n c : Nat) : List mC := [.inl (.byte, 400, .inl (fun _ => 0)), .inr (5, [.int 0, .int 0, .int 0, .ref (n + (c + 2)), .ref (n + (c + 3)), .ref (n + (c + 4)), .ref (n + (c + 5)), .ref (n + (c + 6)), .ref (n + (c + 7)), .ref (n + (c + 8)), .ref (n + (c + 9)), .ref (n + (c + 10)), .ref (n + (c + 11)), .ref (n + (c + 12)), .ref (n + (c + 13)), .ref (n + (c + 17)), .ref (n + (c + 18)), .ref (n + (c + 19))]), .inl (.int, 200, .inl (fun _ => 0)), .inl (.int, 200, .inl (fun _ => 0)), .inl (.int, 200, .inl (fun _ => 0)), .inl (.int, 200, .inl (fun _ => 0)), .inl (.int, 200, .inl (fun _ => 0)), .inl (.int, 200, .inl (fun _ => 0)), .inl (.int, 50, .inl (fun _ => 0)), .inl (.int, 100, .inl (fun _ => 0)), .inl (.int, 100, .inl (fun _ => 0)), .inl (.int, 50, .inl (fun _ => 0)), .inl (.int, 100, .inl (fun _ => 0)), .inl (.array .int, 3, .inr (.inr (.inr (.inr (fun j => if j < 3 then some ((n + (c + 13)) + 1 + j) else none))))), .inl (.int, 200, .inl (fun _ => 0)), .inl (.int, 200, .inl (fun _ => 0)), .inl (.int, 200, .inl (fun _ => 0)), .inl (.int, 200, .inl (fun _ => 0)), .inl (.int, 200, .inl (fun _ => 0)), .inl (.int, 200, .inl (fun _ => 0)), .inr (5, [.int 0, .int 0, .int 0, .ref (n + (c + 21)), .ref (n + (c + 22)), .ref (n + (c + 23)), .ref (n + (c + 24)), .ref (n + (c + 25)), .ref (n + (c + 26)), .ref (n + (c + 27)), .ref (n + (c + 28)), .ref (n + (c + 29)), .ref (n + (c + 30)), .ref (n + (c + 31)), .ref (n + (c + 32)), .ref (n + (c + 36)), .ref (n + (c + 37)), .ref (n + (c + 38))]), .inl (.int, 200, .inl (fun _ => 0)), .inl (.int, 200, .inl (fun _ => 0)), .inl (.int, 200, .inl (fun _ => 0)), .inl (.int, 200, .inl (fun _ => 0)), .inl (.int, 200, .inl (fun _ => 0)), .inl (.int, 200, .inl (fun _ => 0)), .inl (.int, 50, .inl (fun _ => 0)), .inl (.int, 100, .inl (fun _ => 0)), .inl (.int, 100, .inl (fun _ => 0)), .inl (.int, 50, .inl (fun _ => 0)), .inl (.int, 100, .inl (fun _ => 0)), .inl (.array .int, 3, .inr (.inr (.inr (.inr (fun j => if j < 3 then some ((n + (c + 32)) + 1 + j) else none))))), .inl (.int, 200, .inl (fun _ => 0)), .inl (.int, 200, .inl (fun _ => 0)), .inl (.int, 200, .inl (fun _ => 0)), .inl (.int, 200, .inl (fun _ => 0)), .inl (.int, 200, .inl (fun _ => 0)), .inl (.int, 200, .inl (fun _ => 0)), .inr (6, [.null, .int 0, .int 0, .int 0, .null, .int 0, .int 0, .ref (n + (c + 40)), .ref (n + (c + 41)), .int 0, .ref (n + (c + 42)), .ref (n + (c + 43)), .ref (n + (c + 44)), .ref (n + (c + 45)), .int 0]), .inl (.int, 100, .inl (fun _ => 0)), .inl (.int, 100, .inl (fun _ => 0)), .inl (.int, 40, .inl (fun _ => 0)), .inl (.int, 40, .inl (fun _ => 0)), .inl (.int, 40, .inl (fun _ => 0)), .inl (.int, 40, .inl (fun _ => 0)), .inr (3, [.ref (n + (c + 47)), .ref (n + (c + 48)), .ref (n + (c + 49)), .int 0]), .inl (.long, 200, .inr (.inl (fun _ => 0))), .inl (.long, 100, .inr (.inl (fun _ => 0))), .inl (.long, 50, .inr (.inl (fun _ => 0))), .inr (4, [.int 0, .int 0, .long 0, .ref (n + (c + 51)), .null, .int 0, .ref (n + (c + 52)), .ref (n + (c + 57)), .ref (n + (c + 58)), .ref (n + (c + 59)), .ref (n + (c + 60)), .ref (n + (c + 61)), .int 0, .int 0, .int 0, .int 0, .long 0]), .inl (.long, 200, .inr (.inl (fun _ => 0))), .inr (2, [.ref (n + (c + 53)), .ref (n + (c + 54)), .ref (n + (c + 55)), .ref (n + (c + 56)), .int 0]), .inl (.int, 1000, .inl (fun _ => 0)), .inl (.int, 1000, .inl (fun _ => 0)), .inl (.long, 1000, .inr (.inl (fun _ => 0))), .inl (.int, 1000, .inl (fun _ => 0)), .inl (.int, 2000, .inl (fun _ => 0)), .inl (.int, 2000, .inl (fun _ => 0)), .inl (.boolean, 2000, .inl (fun _ => 0)), .inl (.int, 2000, .inl (fun _ => 0)), .inl (.long, 2000, .inr (.inl (fun _ => 0))), .inr (7, [.ref (n + (c + 63)), .int 0]), .inl (.byte, 400, .inl (fun _ => 0))]
set_option maxRecDepth 4000 in
theorem con_X6 (sa : Nat → Nat) {b d : Nat} : kCon (tP sa) b (d + 3) mX6_init 8 [.null, .int 0, .null, .null, .null, .null, .null, .null] fF_X6 fA_X6 21395 := by
  intro h n cs i sl Q hb hi hg hq
  show kW (tP sa) b h n (d + 3) mX6_init 0 [some (.ref (n + i))] [] cs sl Q
  rw [← kL_own hg]
  refine k_step dX6_init_0 (Or.inr rfl) (fun S => rfl) ?_
  refine k_obj0 dX6_init_1 tG_6_1 rfl rfl ?_
  refine k_step dX6_init_4 (Or.inr rfl) (fun S => rfl) ?_
  refine k_step dX6_init_5 (Or.inr rfl) (fun S => rfl) ?_
  refine k_newa (N := 400) dX6_init_8 rfl (by decide) (by decide) ?_
  refine k_put hi hb dX6_init_10 tF_6_9 mft_8_0 (Nat.le_of_ble_eq_true rfl) ⟨rfl, rfl⟩ ?_
  refine k_step dX6_init_13 (Or.inr rfl) (fun S => rfl) ?_
  refine k_new (born := [.int 0, .int 0, .int 0, .null, .null, .null, .null, .null, .null, .null, .null, .null, .null, .null, .null, .null, .null, .null]) dX6_init_14 tC_6_13 (by decide +kernel) ?_
  refine k_step dX6_init_17 (Or.inr rfl) (fun S => rfl) ?_
  refine k_con (con_X3 (d := d) sa) (by omega) hb dX6_init_18 tG_6_15 tM_28 rfl rfl rfl rfl ?_
  refine k_put hi hb dX6_init_21 tF_6_16 mft_8_2 (Nat.le_of_ble_eq_true rfl) ⟨rfl, rfl⟩ ?_
  refine k_step dX6_init_24 (Or.inr rfl) (fun S => rfl) ?_
  refine k_new (born := [.int 0, .int 0, .int 0, .null, .null, .null, .null, .null, .null, .null, .null, .null, .null, .null, .null, .null, .null, .null]) dX6_init_25 tC_6_13 (by decide +kernel) ?_
  refine k_step dX6_init_28 (Or.inr rfl) (fun S => rfl) ?_
  refine k_con (con_X3 (d := d) sa) (by omega) hb dX6_init_29 tG_6_15 tM_28 rfl rfl rfl rfl ?_
  refine k_put hi hb dX6_init_32 tF_6_20 mft_8_3 (Nat.le_of_ble_eq_true rfl) ⟨rfl, rfl⟩ ?_
  refine k_step dX6_init_35 (Or.inr rfl) (fun S => rfl) ?_
  refine k_new (born := [.null, .int 0, .int 0, .int 0, .null, .int 0, .int 0, .null, .null, .int 0, .null, .null, .null, .null, .int 0]) dX6_init_36 tC_6_23 (by decide +kernel) ?_
  refine k_step dX6_init_39 (Or.inr rfl) (fun S => rfl) ?_
  refine k_con (con_X4 (d := d) sa) (by omega) hb dX6_init_40 tG_6_25 tM_44 rfl rfl rfl rfl ?_
  refine k_put hi hb dX6_init_43 tF_6_26 mft_8_4 (Nat.le_of_ble_eq_true rfl) ⟨rfl, rfl⟩ ?_
  refine k_step dX6_init_46 (Or.inr rfl) (fun S => rfl) ?_
  refine k_new (born := [.null, .null, .null, .int 0]) dX6_init_47 tC_6_30 (by decide +kernel) ?_
  refine k_step dX6_init_50 (Or.inr rfl) (fun S => rfl) ?_
  refine k_con (con_X1 (d := d) sa) (by omega) hb dX6_init_51 tG_6_32 tM_7 rfl rfl rfl rfl ?_
  refine k_put hi hb dX6_init_54 tF_6_33 mft_8_5 (Nat.le_of_ble_eq_true rfl) ⟨rfl, rfl⟩ ?_
  refine k_step dX6_init_57 (Or.inr rfl) (fun S => rfl) ?_
  refine k_new (born := [.int 0, .int 0, .long 0, .null, .null, .int 0, .null, .null, .null, .null, .null, .null, .int 0, .int 0, .int 0, .int 0, .long 0]) dX6_init_58 tC_6_37 (by decide +kernel) ?_
  refine k_step dX6_init_61 (Or.inr rfl) (fun S => rfl) ?_
  refine k_con (con_X2 (d := d) sa) (by omega) hb dX6_init_62 tG_6_39 tM_16 rfl rfl rfl rfl ?_
  refine k_put hi hb dX6_init_65 tF_6_40 mft_8_6 (Nat.le_of_ble_eq_true rfl) ⟨rfl, rfl⟩ ?_
  refine k_step dX6_init_68 (Or.inr rfl) (fun S => rfl) ?_
  refine k_new (born := [.null, .int 0]) dX6_init_69 tC_6_44 (by decide +kernel) ?_
  refine k_step dX6_init_72 (Or.inr rfl) (fun S => rfl) ?_
  refine k_con (con_X5 (d := d) sa) (by omega) hb dX6_init_73 tG_6_46 tM_69 rfl rfl rfl rfl ?_
  refine k_put hi hb dX6_init_76 tF_6_47 mft_8_7 (Nat.le_of_ble_eq_true rfl) ⟨rfl, rfl⟩ ?_
  refine k_ret dX6_init_79 (Or.inr rfl) (Or.inl ⟨rfl, rfl, rfl⟩) rfl ?_
  rw [show sl + 21395 = sl + 400 + 18 + 2803 + 18 + 2803 + 15 + 360 + 4 + 350 + 17 + 14205 + 2 + 400 by omega] at hq
  exact hq
