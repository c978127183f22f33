/-! EVERY CELL BEHIND THE CONSTRUCTORS (printed by wip/whole/gen_lay.py) -/
def mFq (b : Nat) (i : Nat → Int32) (j : Nat → Int64) : Nat → List Nat → List Value
  | _, [] => []
  | k, c :: r => mFv b i j k c :: mFq b i j (k + 1) r
theorem mFq_get {b : Nat} {i : Nat → Int32} {j : Nat → Int64} : ∀ (fs : List Nat) (k f : Nat), (mFq b i j k fs)[f]? = (fs[f]?).map (mFv b i j (k + f))
  | [], _, _ => rfl
  | _ :: _, _, 0 => rfl
  | c :: r, k, f + 1 => by
    rw [show k + (f + 1) = k + 1 + f by omega]
    exact mFq_get r (k + 1) f
theorem mFs_r {b : Nat} {i : Nat → Int32} {j : Nat → Int64} {fs : List Nat} : mFs b i j fs = mFq b i j 0 fs := by
  apply List.ext_getElem?
  intro f
  unfold mFs
  rw [List.getElem?_mapIdx, mFq_get, Nat.zero_add]
theorem mCe_o {b : Nat} {i : Nat → Int32} {j : Nat → Int64} {ci : Nat} {fs : List Nat} : mCe b i j (.inr (.inl (ci, fs))) = .inr (ci, mFq b i j 0 fs) := congrArg (fun z => (.inr (ci, z) : mC)) mFs_r
theorem mCe_3 {b : Nat} {i : Nat → Int32} {j : Nat → Int64} {x y z w : Nat} (hy : y = x + 1) (hz : z = x + 2) (hw : w = b + x) : (.inl (.array .int, 3, .inr (.inr (.inr (.inr (fun j => if j < 3 then some (w + j) else none))))) : mC) = mCe b i j (.inr (.inr [x, y, z])) := by
  subst hy; subst hz; subst hw
  show (_ : mC) = .inl (.array .int, 3, .inr (.inr (.inr (.inr (fun k => ([x, x + 1, x + 2][k]?).map (fun o => b + o))))))
  refine congrArg (fun f => (.inl (.array .int, 3, .inr (.inr (.inr (.inr f)))) : mC)) (funext fun k => ?_)
  match k with
  | 0 => rfl
  | 1 => rfl
  | 2 => rfl
  | n + 3 => rw [if_neg (by omega)]; rfl
theorem yD_0 {b sz ns : Nat} : (csD b)[0]? = some (mCe b ((T0D sz ns).1 0) ((T0D sz ns).2.1 0) (.inr (.inl (8, [4, 0, 2, 2, 43, 50, 54, 66])))) := by
  rw [mCe_o]
  rfl
theorem yD_1 {b sz ns : Nat} : (csD b)[1]? = some (mCe b ((T0D sz ns).1 1) ((T0D sz ns).2.1 1) (.inl (1, 400))) := rfl
theorem yD_2 {b sz ns : Nat} : (csD b)[2]? = some (mCe b ((T0D sz ns).1 2) ((T0D sz ns).2.1 2) (.inr (.inl (5, [0, 0, 0, 6, 7, 8, 9, 10, 11, 12, 13, 14, 15, 16, 17, 21, 22, 23])))) := by
  rw [mCe_o]
  rfl
theorem yD_3 {b sz ns : Nat} : (csD b)[3]? = some (mCe b ((T0D sz ns).1 3) ((T0D sz ns).2.1 3) (.inl (0, 200))) := rfl
theorem yD_4 {b sz ns : Nat} : (csD b)[4]? = some (mCe b ((T0D sz ns).1 4) ((T0D sz ns).2.1 4) (.inl (0, 200))) := rfl
theorem yD_5 {b sz ns : Nat} : (csD b)[5]? = some (mCe b ((T0D sz ns).1 5) ((T0D sz ns).2.1 5) (.inl (0, 200))) := rfl
theorem yD_6 {b sz ns : Nat} : (csD b)[6]? = some (mCe b ((T0D sz ns).1 6) ((T0D sz ns).2.1 6) (.inl (0, 200))) := rfl
theorem yD_7 {b sz ns : Nat} : (csD b)[7]? = some (mCe b ((T0D sz ns).1 7) ((T0D sz ns).2.1 7) (.inl (0, 200))) := rfl
theorem yD_8 {b sz ns : Nat} : (csD b)[8]? = some (mCe b ((T0D sz ns).1 8) ((T0D sz ns).2.1 8) (.inl (0, 200))) := rfl
theorem yD_9 {b sz ns : Nat} : (csD b)[9]? = some (mCe b ((T0D sz ns).1 9) ((T0D sz ns).2.1 9) (.inl (0, 50))) := rfl
theorem yD_10 {b sz ns : Nat} : (csD b)[10]? = some (mCe b ((T0D sz ns).1 10) ((T0D sz ns).2.1 10) (.inl (0, 100))) := rfl
theorem yD_11 {b sz ns : Nat} : (csD b)[11]? = some (mCe b ((T0D sz ns).1 11) ((T0D sz ns).2.1 11) (.inl (0, 100))) := rfl
theorem yD_12 {b sz ns : Nat} : (csD b)[12]? = some (mCe b ((T0D sz ns).1 12) ((T0D sz ns).2.1 12) (.inl (0, 50))) := rfl
theorem yD_13 {b sz ns : Nat} : (csD b)[13]? = some (mCe b ((T0D sz ns).1 13) ((T0D sz ns).2.1 13) (.inl (0, 100))) := rfl
theorem yD_14 {b sz ns : Nat} : (csD b)[14]? = some (mCe b ((T0D sz ns).1 14) ((T0D sz ns).2.1 14) (.inr (.inr [15, 16, 17]))) := by
  rw [← mCe_3 (x := 15) (w := b + 15) rfl rfl rfl]
  rfl
theorem yD_15 {b sz ns : Nat} : (csD b)[15]? = some (mCe b ((T0D sz ns).1 15) ((T0D sz ns).2.1 15) (.inl (0, 200))) := rfl
theorem yD_16 {b sz ns : Nat} : (csD b)[16]? = some (mCe b ((T0D sz ns).1 16) ((T0D sz ns).2.1 16) (.inl (0, 200))) := rfl
theorem yD_17 {b sz ns : Nat} : (csD b)[17]? = some (mCe b ((T0D sz ns).1 17) ((T0D sz ns).2.1 17) (.inl (0, 200))) := rfl
theorem yD_18 {b sz ns : Nat} : (csD b)[18]? = some (mCe b ((T0D sz ns).1 18) ((T0D sz ns).2.1 18) (.inl (0, 200))) := rfl
theorem yD_19 {b sz ns : Nat} : (csD b)[19]? = some (mCe b ((T0D sz ns).1 19) ((T0D sz ns).2.1 19) (.inl (0, 200))) := rfl
theorem yD_20 {b sz ns : Nat} : (csD b)[20]? = some (mCe b ((T0D sz ns).1 20) ((T0D sz ns).2.1 20) (.inl (0, 200))) := rfl
theorem yD_21 {b sz ns : Nat} : (csD b)[21]? = some (mCe b ((T0D sz ns).1 21) ((T0D sz ns).2.1 21) (.inr (.inl (5, [0, 0, 0, 25, 26, 27, 28, 29, 30, 31, 32, 33, 34, 35, 36, 40, 41, 42])))) := by
  rw [mCe_o]
  rfl
theorem yD_22 {b sz ns : Nat} : (csD b)[22]? = some (mCe b ((T0D sz ns).1 22) ((T0D sz ns).2.1 22) (.inl (0, 200))) := rfl
theorem yD_23 {b sz ns : Nat} : (csD b)[23]? = some (mCe b ((T0D sz ns).1 23) ((T0D sz ns).2.1 23) (.inl (0, 200))) := rfl
theorem yD_24 {b sz ns : Nat} : (csD b)[24]? = some (mCe b ((T0D sz ns).1 24) ((T0D sz ns).2.1 24) (.inl (0, 200))) := rfl
theorem yD_25 {b sz ns : Nat} : (csD b)[25]? = some (mCe b ((T0D sz ns).1 25) ((T0D sz ns).2.1 25) (.inl (0, 200))) := rfl
theorem yD_26 {b sz ns : Nat} : (csD b)[26]? = some (mCe b ((T0D sz ns).1 26) ((T0D sz ns).2.1 26) (.inl (0, 200))) := rfl
theorem yD_27 {b sz ns : Nat} : (csD b)[27]? = some (mCe b ((T0D sz ns).1 27) ((T0D sz ns).2.1 27) (.inl (0, 200))) := rfl
theorem yD_28 {b sz ns : Nat} : (csD b)[28]? = some (mCe b ((T0D sz ns).1 28) ((T0D sz ns).2.1 28) (.inl (0, 50))) := rfl
theorem yD_29 {b sz ns : Nat} : (csD b)[29]? = some (mCe b ((T0D sz ns).1 29) ((T0D sz ns).2.1 29) (.inl (0, 100))) := rfl
theorem yD_30 {b sz ns : Nat} : (csD b)[30]? = some (mCe b ((T0D sz ns).1 30) ((T0D sz ns).2.1 30) (.inl (0, 100))) := rfl
theorem yD_31 {b sz ns : Nat} : (csD b)[31]? = some (mCe b ((T0D sz ns).1 31) ((T0D sz ns).2.1 31) (.inl (0, 50))) := rfl
theorem yD_32 {b sz ns : Nat} : (csD b)[32]? = some (mCe b ((T0D sz ns).1 32) ((T0D sz ns).2.1 32) (.inl (0, 100))) := rfl
theorem yD_33 {b sz ns : Nat} : (csD b)[33]? = some (mCe b ((T0D sz ns).1 33) ((T0D sz ns).2.1 33) (.inr (.inr [34, 35, 36]))) := by
  rw [← mCe_3 (x := 34) (w := b + 34) rfl rfl rfl]
  rfl
theorem yD_34 {b sz ns : Nat} : (csD b)[34]? = some (mCe b ((T0D sz ns).1 34) ((T0D sz ns).2.1 34) (.inl (0, 200))) := rfl
theorem yD_35 {b sz ns : Nat} : (csD b)[35]? = some (mCe b ((T0D sz ns).1 35) ((T0D sz ns).2.1 35) (.inl (0, 200))) := rfl
theorem yD_36 {b sz ns : Nat} : (csD b)[36]? = some (mCe b ((T0D sz ns).1 36) ((T0D sz ns).2.1 36) (.inl (0, 200))) := rfl
theorem yD_37 {b sz ns : Nat} : (csD b)[37]? = some (mCe b ((T0D sz ns).1 37) ((T0D sz ns).2.1 37) (.inl (0, 200))) := rfl
theorem yD_38 {b sz ns : Nat} : (csD b)[38]? = some (mCe b ((T0D sz ns).1 38) ((T0D sz ns).2.1 38) (.inl (0, 200))) := rfl
theorem yD_39 {b sz ns : Nat} : (csD b)[39]? = some (mCe b ((T0D sz ns).1 39) ((T0D sz ns).2.1 39) (.inl (0, 200))) := rfl
theorem yD_40 {b sz ns : Nat} : (csD b)[40]? = some (mCe b ((T0D sz ns).1 40) ((T0D sz ns).2.1 40) (.inr (.inl (6, [2, 0, 0, 0, 2, 0, 0, 44, 45, 0, 46, 47, 48, 49, 0])))) := by
  rw [mCe_o]
  rfl
theorem yD_41 {b sz ns : Nat} : (csD b)[41]? = some (mCe b ((T0D sz ns).1 41) ((T0D sz ns).2.1 41) (.inl (0, 100))) := rfl
theorem yD_42 {b sz ns : Nat} : (csD b)[42]? = some (mCe b ((T0D sz ns).1 42) ((T0D sz ns).2.1 42) (.inl (0, 100))) := rfl
theorem yD_43 {b sz ns : Nat} : (csD b)[43]? = some (mCe b ((T0D sz ns).1 43) ((T0D sz ns).2.1 43) (.inl (0, 40))) := rfl
theorem yD_44 {b sz ns : Nat} : (csD b)[44]? = some (mCe b ((T0D sz ns).1 44) ((T0D sz ns).2.1 44) (.inl (0, 40))) := rfl
theorem yD_45 {b sz ns : Nat} : (csD b)[45]? = some (mCe b ((T0D sz ns).1 45) ((T0D sz ns).2.1 45) (.inl (0, 40))) := rfl
theorem yD_46 {b sz ns : Nat} : (csD b)[46]? = some (mCe b ((T0D sz ns).1 46) ((T0D sz ns).2.1 46) (.inl (0, 40))) := rfl
theorem yD_47 {b sz ns : Nat} : (csD b)[47]? = some (mCe b ((T0D sz ns).1 47) ((T0D sz ns).2.1 47) (.inr (.inl (3, [51, 52, 53, 0])))) := by
  rw [mCe_o]
  rfl
theorem yD_48 {b sz ns : Nat} : (csD b)[48]? = some (mCe b ((T0D sz ns).1 48) ((T0D sz ns).2.1 48) (.inl (3, 200))) := rfl
theorem yD_49 {b sz ns : Nat} : (csD b)[49]? = some (mCe b ((T0D sz ns).1 49) ((T0D sz ns).2.1 49) (.inl (3, 100))) := rfl
theorem yD_50 {b sz ns : Nat} : (csD b)[50]? = some (mCe b ((T0D sz ns).1 50) ((T0D sz ns).2.1 50) (.inl (3, 50))) := rfl
theorem yD_51 {b sz ns : Nat} : (csD b)[51]? = some (mCe b ((T0D sz ns).1 51) ((T0D sz ns).2.1 51) (.inr (.inl (4, [0, 0, 1, 55, 2, 0, 56, 61, 62, 63, 64, 65, 0, 0, 0, 0, 1])))) := by
  rw [mCe_o]
  rfl
theorem yD_52 {b sz ns : Nat} : (csD b)[52]? = some (mCe b ((T0D sz ns).1 52) ((T0D sz ns).2.1 52) (.inl (3, 200))) := rfl
theorem yD_53 {b sz ns : Nat} : (csD b)[53]? = some (mCe b ((T0D sz ns).1 53) ((T0D sz ns).2.1 53) (.inr (.inl (2, [57, 58, 59, 60, 0])))) := by
  rw [mCe_o]
  rfl
theorem yD_54 {b sz ns : Nat} : (csD b)[54]? = some (mCe b ((T0D sz ns).1 54) ((T0D sz ns).2.1 54) (.inl (0, 1000))) := rfl
theorem yD_55 {b sz ns : Nat} : (csD b)[55]? = some (mCe b ((T0D sz ns).1 55) ((T0D sz ns).2.1 55) (.inl (0, 1000))) := rfl
theorem yD_56 {b sz ns : Nat} : (csD b)[56]? = some (mCe b ((T0D sz ns).1 56) ((T0D sz ns).2.1 56) (.inl (3, 1000))) := rfl
theorem yD_57 {b sz ns : Nat} : (csD b)[57]? = some (mCe b ((T0D sz ns).1 57) ((T0D sz ns).2.1 57) (.inl (0, 1000))) := rfl
theorem yD_58 {b sz ns : Nat} : (csD b)[58]? = some (mCe b ((T0D sz ns).1 58) ((T0D sz ns).2.1 58) (.inl (0, 2000))) := rfl
theorem yD_59 {b sz ns : Nat} : (csD b)[59]? = some (mCe b ((T0D sz ns).1 59) ((T0D sz ns).2.1 59) (.inl (0, 2000))) := rfl
theorem yD_60 {b sz ns : Nat} : (csD b)[60]? = some (mCe b ((T0D sz ns).1 60) ((T0D sz ns).2.1 60) (.inl (2, 2000))) := rfl
theorem yD_61 {b sz ns : Nat} : (csD b)[61]? = some (mCe b ((T0D sz ns).1 61) ((T0D sz ns).2.1 61) (.inl (0, 2000))) := rfl
theorem yD_62 {b sz ns : Nat} : (csD b)[62]? = some (mCe b ((T0D sz ns).1 62) ((T0D sz ns).2.1 62) (.inl (3, 2000))) := rfl
theorem yD_63 {b sz ns : Nat} : (csD b)[63]? = some (mCe b ((T0D sz ns).1 63) ((T0D sz ns).2.1 63) (.inr (.inl (7, [67, 0])))) := by
  rw [mCe_o]
  rfl
theorem yD_64 {b sz ns : Nat} : (csD b)[64]? = some (mCe b ((T0D sz ns).1 64) ((T0D sz ns).2.1 64) (.inl (1, 400))) := rfl
set_option maxRecDepth 8000 in
theorem lay_D {b sz ns : Nat} : ∀ {k : Nat} {d : mDs}, lD[k]? = some d → (csD b)[k]? = some (mCe b ((T0D sz ns).1 k) ((T0D sz ns).2.1 k) d)
  | 0, _, h => by have e := Option.some.inj (lD_0.symm.trans h); subst e; exact yD_0
  | 1, _, h => by have e := Option.some.inj (lD_1.symm.trans h); subst e; exact yD_1
  | 2, _, h => by have e := Option.some.inj (lD_2.symm.trans h); subst e; exact yD_2
  | 3, _, h => by have e := Option.some.inj (lD_3.symm.trans h); subst e; exact yD_3
  | 4, _, h => by have e := Option.some.inj (lD_4.symm.trans h); subst e; exact yD_4
  | 5, _, h => by have e := Option.some.inj (lD_5.symm.trans h); subst e; exact yD_5
  | 6, _, h => by have e := Option.some.inj (lD_6.symm.trans h); subst e; exact yD_6
  | 7, _, h => by have e := Option.some.inj (lD_7.symm.trans h); subst e; exact yD_7
  | 8, _, h => by have e := Option.some.inj (lD_8.symm.trans h); subst e; exact yD_8
  | 9, _, h => by have e := Option.some.inj (lD_9.symm.trans h); subst e; exact yD_9
  | 10, _, h => by have e := Option.some.inj (lD_10.symm.trans h); subst e; exact yD_10
  | 11, _, h => by have e := Option.some.inj (lD_11.symm.trans h); subst e; exact yD_11
  | 12, _, h => by have e := Option.some.inj (lD_12.symm.trans h); subst e; exact yD_12
  | 13, _, h => by have e := Option.some.inj (lD_13.symm.trans h); subst e; exact yD_13
  | 14, _, h => by have e := Option.some.inj (lD_14.symm.trans h); subst e; exact yD_14
  | 15, _, h => by have e := Option.some.inj (lD_15.symm.trans h); subst e; exact yD_15
  | 16, _, h => by have e := Option.some.inj (lD_16.symm.trans h); subst e; exact yD_16
  | 17, _, h => by have e := Option.some.inj (lD_17.symm.trans h); subst e; exact yD_17
  | 18, _, h => by have e := Option.some.inj (lD_18.symm.trans h); subst e; exact yD_18
  | 19, _, h => by have e := Option.some.inj (lD_19.symm.trans h); subst e; exact yD_19
  | 20, _, h => by have e := Option.some.inj (lD_20.symm.trans h); subst e; exact yD_20
  | 21, _, h => by have e := Option.some.inj (lD_21.symm.trans h); subst e; exact yD_21
  | 22, _, h => by have e := Option.some.inj (lD_22.symm.trans h); subst e; exact yD_22
  | 23, _, h => by have e := Option.some.inj (lD_23.symm.trans h); subst e; exact yD_23
  | 24, _, h => by have e := Option.some.inj (lD_24.symm.trans h); subst e; exact yD_24
  | 25, _, h => by have e := Option.some.inj (lD_25.symm.trans h); subst e; exact yD_25
  | 26, _, h => by have e := Option.some.inj (lD_26.symm.trans h); subst e; exact yD_26
  | 27, _, h => by have e := Option.some.inj (lD_27.symm.trans h); subst e; exact yD_27
  | 28, _, h => by have e := Option.some.inj (lD_28.symm.trans h); subst e; exact yD_28
  | 29, _, h => by have e := Option.some.inj (lD_29.symm.trans h); subst e; exact yD_29
  | 30, _, h => by have e := Option.some.inj (lD_30.symm.trans h); subst e; exact yD_30
  | 31, _, h => by have e := Option.some.inj (lD_31.symm.trans h); subst e; exact yD_31
  | 32, _, h => by have e := Option.some.inj (lD_32.symm.trans h); subst e; exact yD_32
  | 33, _, h => by have e := Option.some.inj (lD_33.symm.trans h); subst e; exact yD_33
  | 34, _, h => by have e := Option.some.inj (lD_34.symm.trans h); subst e; exact yD_34
  | 35, _, h => by have e := Option.some.inj (lD_35.symm.trans h); subst e; exact yD_35
  | 36, _, h => by have e := Option.some.inj (lD_36.symm.trans h); subst e; exact yD_36
  | 37, _, h => by have e := Option.some.inj (lD_37.symm.trans h); subst e; exact yD_37
  | 38, _, h => by have e := Option.some.inj (lD_38.symm.trans h); subst e; exact yD_38
  | 39, _, h => by have e := Option.some.inj (lD_39.symm.trans h); subst e; exact yD_39
  | 40, _, h => by have e := Option.some.inj (lD_40.symm.trans h); subst e; exact yD_40
  | 41, _, h => by have e := Option.some.inj (lD_41.symm.trans h); subst e; exact yD_41
  | 42, _, h => by have e := Option.some.inj (lD_42.symm.trans h); subst e; exact yD_42
  | 43, _, h => by have e := Option.some.inj (lD_43.symm.trans h); subst e; exact yD_43
  | 44, _, h => by have e := Option.some.inj (lD_44.symm.trans h); subst e; exact yD_44
  | 45, _, h => by have e := Option.some.inj (lD_45.symm.trans h); subst e; exact yD_45
  | 46, _, h => by have e := Option.some.inj (lD_46.symm.trans h); subst e; exact yD_46
  | 47, _, h => by have e := Option.some.inj (lD_47.symm.trans h); subst e; exact yD_47
  | 48, _, h => by have e := Option.some.inj (lD_48.symm.trans h); subst e; exact yD_48
  | 49, _, h => by have e := Option.some.inj (lD_49.symm.trans h); subst e; exact yD_49
  | 50, _, h => by have e := Option.some.inj (lD_50.symm.trans h); subst e; exact yD_50
  | 51, _, h => by have e := Option.some.inj (lD_51.symm.trans h); subst e; exact yD_51
  | 52, _, h => by have e := Option.some.inj (lD_52.symm.trans h); subst e; exact yD_52
  | 53, _, h => by have e := Option.some.inj (lD_53.symm.trans h); subst e; exact yD_53
  | 54, _, h => by have e := Option.some.inj (lD_54.symm.trans h); subst e; exact yD_54
  | 55, _, h => by have e := Option.some.inj (lD_55.symm.trans h); subst e; exact yD_55
  | 56, _, h => by have e := Option.some.inj (lD_56.symm.trans h); subst e; exact yD_56
  | 57, _, h => by have e := Option.some.inj (lD_57.symm.trans h); subst e; exact yD_57
  | 58, _, h => by have e := Option.some.inj (lD_58.symm.trans h); subst e; exact yD_58
  | 59, _, h => by have e := Option.some.inj (lD_59.symm.trans h); subst e; exact yD_59
  | 60, _, h => by have e := Option.some.inj (lD_60.symm.trans h); subst e; exact yD_60
  | 61, _, h => by have e := Option.some.inj (lD_61.symm.trans h); subst e; exact yD_61
  | 62, _, h => by have e := Option.some.inj (lD_62.symm.trans h); subst e; exact yD_62
  | 63, _, h => by have e := Option.some.inj (lD_63.symm.trans h); subst e; exact yD_63
  | 64, _, h => by have e := Option.some.inj (lD_64.symm.trans h); subst e; exact yD_64
  | k + 65, _, h => by have h1 : k + 65 < 65 := (List.getElem?_eq_some_iff.mp h).1; omega
theorem yM_0 {b sz ns : Nat} : (csM b)[0]? = some (mCe (b + 65) ((T0M sz ns).1 0) ((T0M sz ns).2.1 0) (.inr (.inl (9, [0, 4, 0, 0, 0, 5, 6, 7, 0, 8, 9, 10, 11, 12, 13, 14, 0, 0, 1, 15, 0, 0, 0, 0, 0, 16, 17, 0, 0, 18, 19, 20, 21, 22, 23, 24, 0, 25, 26, 27, 28, 29, 0, 0, 1, 0, 0, 30, 0, 0, 31, 0])))) := by
  rw [mCe_o]
  rfl
theorem yM_1 {b sz ns : Nat} : (csM b)[1]? = some (mCe (b + 65) ((T0M sz ns).1 1) ((T0M sz ns).2.1 1) (.inl (1, 400))) := rfl
theorem yM_2 {b sz ns : Nat} : (csM b)[2]? = some (mCe (b + 65) ((T0M sz ns).1 2) ((T0M sz ns).2.1 2) (.inl (0, 2))) := rfl
theorem yM_3 {b sz ns : Nat} : (csM b)[3]? = some (mCe (b + 65) ((T0M sz ns).1 3) ((T0M sz ns).2.1 3) (.inl (0, 2))) := rfl
theorem yM_4 {b sz ns : Nat} : (csM b)[4]? = some (mCe (b + 65) ((T0M sz ns).1 4) ((T0M sz ns).2.1 4) (.inl (0, 2800))) := rfl
theorem yM_5 {b sz ns : Nat} : (csM b)[5]? = some (mCe (b + 65) ((T0M sz ns).1 5) ((T0M sz ns).2.1 5) (.inl (0, 200))) := rfl
theorem yM_6 {b sz ns : Nat} : (csM b)[6]? = some (mCe (b + 65) ((T0M sz ns).1 6) ((T0M sz ns).2.1 6) (.inl (0, 50))) := rfl
theorem yM_7 {b sz ns : Nat} : (csM b)[7]? = some (mCe (b + 65) ((T0M sz ns).1 7) ((T0M sz ns).2.1 7) (.inl (0, 200))) := rfl
theorem yM_8 {b sz ns : Nat} : (csM b)[8]? = some (mCe (b + 65) ((T0M sz ns).1 8) ((T0M sz ns).2.1 8) (.inl (0, 100))) := rfl
theorem yM_9 {b sz ns : Nat} : (csM b)[9]? = some (mCe (b + 65) ((T0M sz ns).1 9) ((T0M sz ns).2.1 9) (.inl (3, 200))) := rfl
theorem yM_10 {b sz ns : Nat} : (csM b)[10]? = some (mCe (b + 65) ((T0M sz ns).1 10) ((T0M sz ns).2.1 10) (.inl (3, 100))) := rfl
theorem yM_11 {b sz ns : Nat} : (csM b)[11]? = some (mCe (b + 65) ((T0M sz ns).1 11) ((T0M sz ns).2.1 11) (.inl (3, 50))) := rfl
theorem yM_12 {b sz ns : Nat} : (csM b)[12]? = some (mCe (b + 65) ((T0M sz ns).1 12) ((T0M sz ns).2.1 12) (.inl (3, 200))) := rfl
theorem yM_13 {b sz ns : Nat} : (csM b)[13]? = some (mCe (b + 65) ((T0M sz ns).1 13) ((T0M sz ns).2.1 13) (.inl (0, 200))) := rfl
theorem yM_14 {b sz ns : Nat} : (csM b)[14]? = some (mCe (b + 65) ((T0M sz ns).1 14) ((T0M sz ns).2.1 14) (.inl (0, 200))) := rfl
theorem yM_15 {b sz ns : Nat} : (csM b)[15]? = some (mCe (b + 65) ((T0M sz ns).1 15) ((T0M sz ns).2.1 15) (.inl (2, 100))) := rfl
theorem yM_16 {b sz ns : Nat} : (csM b)[16]? = some (mCe (b + 65) ((T0M sz ns).1 16) ((T0M sz ns).2.1 16) (.inl (0, 2100))) := rfl
theorem yM_17 {b sz ns : Nat} : (csM b)[17]? = some (mCe (b + 65) ((T0M sz ns).1 17) ((T0M sz ns).2.1 17) (.inl (0, 2100))) := rfl
theorem yM_18 {b sz ns : Nat} : (csM b)[18]? = some (mCe (b + 65) ((T0M sz ns).1 18) ((T0M sz ns).2.1 18) (.inl (0, 2100))) := rfl
theorem yM_19 {b sz ns : Nat} : (csM b)[19]? = some (mCe (b + 65) ((T0M sz ns).1 19) ((T0M sz ns).2.1 19) (.inl (0, 2100))) := rfl
theorem yM_20 {b sz ns : Nat} : (csM b)[20]? = some (mCe (b + 65) ((T0M sz ns).1 20) ((T0M sz ns).2.1 20) (.inl (3, 2100))) := rfl
theorem yM_21 {b sz ns : Nat} : (csM b)[21]? = some (mCe (b + 65) ((T0M sz ns).1 21) ((T0M sz ns).2.1 21) (.inl (0, 2100))) := rfl
theorem yM_22 {b sz ns : Nat} : (csM b)[22]? = some (mCe (b + 65) ((T0M sz ns).1 22) ((T0M sz ns).2.1 22) (.inl (0, 4200))) := rfl
theorem yM_23 {b sz ns : Nat} : (csM b)[23]? = some (mCe (b + 65) ((T0M sz ns).1 23) ((T0M sz ns).2.1 23) (.inl (0, 4200))) := rfl
theorem yM_24 {b sz ns : Nat} : (csM b)[24]? = some (mCe (b + 65) ((T0M sz ns).1 24) ((T0M sz ns).2.1 24) (.inl (3, 4200))) := rfl
theorem yM_25 {b sz ns : Nat} : (csM b)[25]? = some (mCe (b + 65) ((T0M sz ns).1 25) ((T0M sz ns).2.1 25) (.inl (0, 4200))) := rfl
theorem yM_26 {b sz ns : Nat} : (csM b)[26]? = some (mCe (b + 65) ((T0M sz ns).1 26) ((T0M sz ns).2.1 26) (.inl (0, 4200))) := rfl
theorem yM_27 {b sz ns : Nat} : (csM b)[27]? = some (mCe (b + 65) ((T0M sz ns).1 27) ((T0M sz ns).2.1 27) (.inl (0, 100))) := rfl
theorem yM_28 {b sz ns : Nat} : (csM b)[28]? = some (mCe (b + 65) ((T0M sz ns).1 28) ((T0M sz ns).2.1 28) (.inl (1, 400))) := rfl
set_option maxRecDepth 8000 in
theorem lay_M {b sz ns : Nat} : ∀ {k : Nat} {d : mDs}, lM[k]? = some d → (csM b)[k]? = some (mCe (b + 65) ((T0M sz ns).1 k) ((T0M sz ns).2.1 k) d)
  | 0, _, h => by have e := Option.some.inj (lM_0.symm.trans h); subst e; exact yM_0
  | 1, _, h => by have e := Option.some.inj (lM_1.symm.trans h); subst e; exact yM_1
  | 2, _, h => by have e := Option.some.inj (lM_2.symm.trans h); subst e; exact yM_2
  | 3, _, h => by have e := Option.some.inj (lM_3.symm.trans h); subst e; exact yM_3
  | 4, _, h => by have e := Option.some.inj (lM_4.symm.trans h); subst e; exact yM_4
  | 5, _, h => by have e := Option.some.inj (lM_5.symm.trans h); subst e; exact yM_5
  | 6, _, h => by have e := Option.some.inj (lM_6.symm.trans h); subst e; exact yM_6
  | 7, _, h => by have e := Option.some.inj (lM_7.symm.trans h); subst e; exact yM_7
  | 8, _, h => by have e := Option.some.inj (lM_8.symm.trans h); subst e; exact yM_8
  | 9, _, h => by have e := Option.some.inj (lM_9.symm.trans h); subst e; exact yM_9
  | 10, _, h => by have e := Option.some.inj (lM_10.symm.trans h); subst e; exact yM_10
  | 11, _, h => by have e := Option.some.inj (lM_11.symm.trans h); subst e; exact yM_11
  | 12, _, h => by have e := Option.some.inj (lM_12.symm.trans h); subst e; exact yM_12
  | 13, _, h => by have e := Option.some.inj (lM_13.symm.trans h); subst e; exact yM_13
  | 14, _, h => by have e := Option.some.inj (lM_14.symm.trans h); subst e; exact yM_14
  | 15, _, h => by have e := Option.some.inj (lM_15.symm.trans h); subst e; exact yM_15
  | 16, _, h => by have e := Option.some.inj (lM_16.symm.trans h); subst e; exact yM_16
  | 17, _, h => by have e := Option.some.inj (lM_17.symm.trans h); subst e; exact yM_17
  | 18, _, h => by have e := Option.some.inj (lM_18.symm.trans h); subst e; exact yM_18
  | 19, _, h => by have e := Option.some.inj (lM_19.symm.trans h); subst e; exact yM_19
  | 20, _, h => by have e := Option.some.inj (lM_20.symm.trans h); subst e; exact yM_20
  | 21, _, h => by have e := Option.some.inj (lM_21.symm.trans h); subst e; exact yM_21
  | 22, _, h => by have e := Option.some.inj (lM_22.symm.trans h); subst e; exact yM_22
  | 23, _, h => by have e := Option.some.inj (lM_23.symm.trans h); subst e; exact yM_23
  | 24, _, h => by have e := Option.some.inj (lM_24.symm.trans h); subst e; exact yM_24
  | 25, _, h => by have e := Option.some.inj (lM_25.symm.trans h); subst e; exact yM_25
  | 26, _, h => by have e := Option.some.inj (lM_26.symm.trans h); subst e; exact yM_26
  | 27, _, h => by have e := Option.some.inj (lM_27.symm.trans h); subst e; exact yM_27
  | 28, _, h => by have e := Option.some.inj (lM_28.symm.trans h); subst e; exact yM_28
  | k + 29, _, h => by have h1 : k + 29 < 29 := (List.getElem?_eq_some_iff.mp h).1; omega
