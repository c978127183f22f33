/-! what is read keeps the limits -/
def xbd (σ : xS) : Prop := σ.2.2.1 ≤ 100 ∧ σ.2.2.2 ≤ 50
def xbF (rec : xF) : Prop := ∀ env up σ σ' ts, xbd σ → rec env up σ = .inr (σ', ts) → xbd σ'
section XB
variable {u : Nat → Nat} {n : Nat} {rec : xF} {env : List (List Nat × Nat)} {up : Int} {σ σ' : xS} {ts : List (Nat → Int)}
theorem xBd_b {w : List Nat} (hb : xbd σ) (h : xBd u n σ = .inr (w, σ')) : xbd σ' := by
  unfold xBd at h
  split at h
  · split at h
    · cases h
    · rename_i q
      cases h
      refine ⟨?_, hb.2⟩
      show σ.2.2.1 + 1 ≤ 100
      have := hb.1; omega
  · cases h
theorem xEnd_b {c : Int} (hb : xbd σ) (h : xEnd u n c σ = .inr σ') : xbd σ' := by
  unfold xEnd at h
  split at h
  · cases h; exact hb
  · cases h
theorem xCl_b {t2 : List (Nat → Int)} (hb : xbd σ) (h : xCl u n σ ts = .inr (σ', t2)) : xbd σ' := by
  have := (xCl_ok h).2
  unfold xbd; rw [this]; exact hb
theorem xKs_b (hr : xbF rec) : ∀ (k : Nat) (σ σ' : xS) (ls : List Nat) (ts : List (Nat → Int)), xbd σ → xKs rec env up k σ = .inr (σ', ls, ts) → xbd σ' := by
  intro k
  induction k with
  | zero => intro σ σ' ls ts hb h; cases h; exact hb
  | succ k ih =>
    intro σ σ' ls ts hb h
    rw [xKs] at h
    split at h
    · cases h
    rename_i σ1 t1 h1
    split at h
    · cases h
    rename_i σ2 l2 t2 h2
    cases h
    exact ih _ _ _ _ (hr _ _ _ _ _ hb h1) h2
theorem xLam_b {p : Nat} (hr : xbF rec) (hb : xbd σ) (h : xLam u n rec env up p σ = .inr (σ', ts)) : xbd σ' := by
  unfold xLam at h
  split at h
  · cases h
  rename_i h50
  split at h
  · cases h
  rename_i w σ1 h1
  split at h
  · cases h
  rename_i σ2 h2
  split at h
  · cases h
  rename_i σ3 t3 h3
  cases h
  have hb2 : xbd (p + 1, σ.2.1 + 1, σ.2.2.1, σ.2.2.2 + 1) := ⟨hb.1, by show σ.2.2.2 + 1 ≤ 50; have := hb.2; omega⟩
  exact hr _ _ _ _ _ (xEnd_b (xBd_b hb2 h1) h2) h3
theorem xFx_b (hr : xbF rec) (hb : xbd σ) (h : xFx u n rec env up σ = .inr (σ', ts)) : xbd σ' := by
  unfold xFx at h
  split at h
  · cases h
  rename_i f σ1 h1
  split at h
  · cases h
  rename_i x σ2 h2
  split at h
  · cases h
  rename_i σ3 t3 h3
  exact xCl_b (hr _ _ _ _ _ (xBd_b (xBd_b hb h1) h2) h3) h
theorem xLt_b (hr : xbF rec) (hb : xbd σ) (h : xLt u n rec env up σ = .inr (σ', ts)) : xbd σ' := by
  unfold xLt at h
  split at h
  · cases h
  rename_i f σ1 h1
  split at h
  · cases h
  rename_i σ2 t2 h2
  split at h
  · cases h
  rename_i σ3 t3 h3
  exact xCl_b (hr _ _ _ _ _ (hr _ _ _ _ _ (xBd_b hb h1) h2) h3) h
theorem xMn_b {k many : Nat} (hr : xbF rec) (hb : xbd σ) (h : xMn u n rec env up k many σ = .inr (σ', ts)) : xbd σ' := by
  unfold xMn at h
  split at h
  · cases h
  rename_i σ1 l1 t1 h1
  exact xCl_b (xKs_b hr many _ _ _ _ hb h1) h
theorem xE_b {big : Nat → Int → xR} (hg : ∀ s ch, big s ch = .inr (σ', ts) → xbd σ') (hb : xbd σ) (h : xE u n big env up σ = .inr (σ', ts)) : xbd σ' := by
  unfold xE at h
  split at h
  · cases h
  split at h
  · split at h
    · split at h
      · cases h
      · cases h; exact hb
    · cases h
  split at h
  · unfold xNu at h
    dsimp only at h
    generalize (if cz u n (sk u n σ.1) = 45 then sk u n σ.1 + 1 else sk u n σ.1) = q0 at h
    split at h
    · split at h
      · cases h
      · cases h; exact hb
    · cases h
  split at h
  · exact hg _ _ h
  · cases h
theorem px_b : ∀ r, xbF (px u n r) := by
  intro r
  induction r with
  | zero => intro env up σ σ' ts hb h; exact xE_b (big := fun p _ => .inl p) (fun _ _ z => by cases z) hb h
  | succ r ih =>
    intro env up σ σ' ts hb h
    refine xE_b (big := fun p c => if c = 92 then xLam u n (px u n r) env up p σ else xFm u n (px u n r) env up p σ) (fun s ch z => ?_) hb h
    split at z
    · exact xLam_b ih hb z
    · unfold xFm at z
      split at z
      · split at z
        · cases z
        · rename_i q
          have hb2 : xbd (sk u n (s + 1) + 3, σ.2.1 + 1, σ.2.2.1, σ.2.2.2 + 1) := ⟨hb.1, by show σ.2.2.2 + 1 ≤ 50; have := hb.2; omega⟩
          exact xFx_b ih hb2 z
      split at z
      · exact xLt_b (σ := (sk u n (s + 1) + 3, σ.2.1 + 1, σ.2.2)) ih hb z
      · exact xMn_b (σ := (sk u n (s + 1) + skA (kdA u n (sk u n (s + 1))), σ.2.1 + 1, σ.2.2)) ih hb z
end XB
