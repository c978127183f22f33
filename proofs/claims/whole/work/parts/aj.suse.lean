/-- the whole heap is known: a layout in it -/
theorem gH_all {lay : List mDs} {b sz ns : Nat} {T : gT} {h : mH} (hsz : T.2.2 = (sz, ns)) (hl : ∀ (k : Nat) (d : mDs), lay[k]? = some d → h (b + k) = some (mCe b (T.1 k) (T.2.1 k) d)) (hlen : b + lay.length ≤ sz) : gH lay b (sz, h) T h := ⟨hl, fun _ _ => rfl, hlen, by rw [hsz]; exact Nat.le_refl _⟩
/-- .. and stays, where nothing of it is written -/
theorem gH_keep {lay : List mDs} {b sz : Nat} {T : gT} {h h2 : mH} {E : Nat × mH} {sz2 ns2 : Nat} (hg : gH lay b E T h) (he : b + lay.length ≤ sz) (hs : sz ≤ sz2) (hk : ∀ a, a < sz → (b ≤ a ∧ a < b + lay.length) → h2 a = h a) : gH lay b (sz2, h2) (T.1, T.2.1, sz2, ns2) h2 := by
  refine ⟨fun k d hkd => ?_, fun _ _ => rfl, by dsimp only; omega, Nat.le_refl _⟩
  have hlt : k < lay.length := (List.getElem?_eq_some_iff.mp hkd).1
  rw [hk (b + k) (by omega) ⟨by omega, by omega⟩]
  exact hg.1 k d hkd
