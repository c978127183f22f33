/-! BYTES IN MEMORY -/
theorem nar_sb {c : Nat} (h : c < 128) : vp_nar .byte (zI ((zI (c : Int)).toInt8.toInt32.toInt)) = sb_b c := by
  have : ∀ c : Nat, c < 128 → vp_nar .byte (zI ((zI (c : Int)).toInt8.toInt32.toInt)) = sb_b c := by decide +kernel
  exact this c h
theorem nar_nar {c : Nat} (h : c < 256) : vp_nar .byte (sb_b c) = sb_b c := by
  have : ∀ c : Nat, c < 256 → vp_nar .byte (sb_b c) = sb_b c := by decide +kernel
  exact this c h
