/-! BYTES IN MEMORY -/
theorem nar_sb {c : Nat} (h : c < 128) : vp_nar .byte (zI ((zI (c : Int)).toInt8.toInt32.toInt)) = sb_b c := by
  have : ∀ c : Nat, c < 128 → vp_nar .byte (zI ((zI (c : Int)).toInt8.toInt32.toInt)) = sb_b c := by decide +kernel
  exact this c h
theorem nar_nar {c : Nat} (h : c < 256) : vp_nar .byte (sb_b c) = sb_b c := by
  have : ∀ c : Nat, c < 256 → vp_nar .byte (sb_b c) = sb_b c := by decide +kernel
  exact this c h
theorem nar_byte (y : Int32) : vp_nar .byte (zI ((zI y.toInt).toInt8.toInt32.toInt)) = sb_b (y.toInt % 256).toNat := by
  have e1 : zI y.toInt = y := Int32.ofInt_toInt y
  have hc : (y.toInt % 256).toNat < 256 := by omega
  have e2 : y.toInt8.toInt32 = sb_b (y.toInt % 256).toNat := by
    show _ = (nI (y.toInt % 256).toNat).toInt8.toInt32
    congr 1
    apply Int8.toInt_inj.mp
    rw [Int32.toInt_toInt8, Int32.toInt_toInt8]
    have e3 : (nI (y.toInt % 256).toNat).toInt = y.toInt % 256 := by
      show (zI (((y.toInt % 256).toNat : Nat) : Int)).toInt = _
      rw [zI_i (by omega) (by omega)]; omega
    rw [e3]
    exact (Int.emod_bmod ..).symm
  rw [e1, e2]
  have e4 : zI (sb_b (y.toInt % 256).toNat).toInt = sb_b (y.toInt % 256).toNat := Int32.ofInt_toInt _
  rw [e4]
  exact nar_nar hc
