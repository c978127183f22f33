theorem px_wf {u : Nat → Nat} {n : Nat} (hu : ∀ i, i < n → u i < 256) : ∀ r, pxW u n (px u n r) (r + 1) := by
  intro r
  induction r with
  | zero =>
    intro env up σ σ' ts c hp hl h hc
    exact xE_wf (big := fun p _ => .inl p) hu hl hp (fun s ch _ _ _ _ hb => by cases hb) h hc
  | succ r ih =>
    intro env up σ σ' ts c hp hl h hc
    refine xE_wf (big := fun p c => if c = 92 then xLam u n (px u n r) env up p σ else xFm u n (px u n r) env up p σ) hu hl hp (fun s ch hl2 hs hch hcc hb => ?_) h hc
    have hsk := sk_le (u := u) hp
    have hlt : s < n := cz_lt (u := u) (by omega)
    obtain ⟨s9, l, nv, nf⟩ := σ
    by_cases h92 : ch = 92
    · rw [if_pos h92] at hb
      exact xLam_wf ih (by omega) hl2 hb hc
    · rw [if_neg h92] at hb
      unfold xFm at hb
      have hq := sk_le (u := u) (n := n) (p := s + 1) (by omega)
      have hka := kdA_le (u := u) (n := n) (q := sk u n (s + 1))
      have hsa := skA_le (u := u) (n := n) (q := sk u n (s + 1)) hq.2
      split at hb
      · rename_i k3
        rw [k3] at hsa
        split at hb
        · cases hb
        · exact xFx_wf ih hsa hl2 hb hc
      split at hb
      · rename_i k5
        rw [k5] at hsa
        exact xLt_wf ih hsa hl2 hb hc
      · exact xMn_wf ih hsa hl2 (by omega) hb hc
