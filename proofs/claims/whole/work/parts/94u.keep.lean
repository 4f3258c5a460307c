/-! what reading keeps -/
theorem RC_keep {σ τ : Mm} {i s : Nat} {D : DD} (h : RC σ i s D) (h1 : ∀ k, mA τ 1 i k = mA σ 1 i k) (h2 : ∀ k, mA τ 2 s k = mA σ 2 s k) : RC τ i s D := by
  unfold RC RCn RCt RCd RCh RCs RCe RCc RCf segC at h ⊢
  rw [h1 0, h1 1, h1 2, h1 3, h1 4, h1 5, h1 6, h1 7, h1 8, h1 9, h1 11, h1 12, h1 13, h1 14, h2 0, h2 1, h2 2, h2 3, h2 4, h2 5]
  exact h
theorem RM_keep {σ τ : Mm} {b : Nat} {D : DD} (hW : WF D) (h : RM σ b D) (hb : b ≠ 1) (ho : oth1 σ τ) : RM τ b D := by
  refine RM.cong hW h (fun k x hx => ho k (sz k * b + x) (by omega) ?_)
  by_cases b0 : b = 0
  · subst b0; left; rw [Nat.mul_zero]; omega
  · right
    have : sz k * 2 ≤ sz k * b := Nat.mul_le_mul_left _ (by omega)
    omega
theorem cz_sz {k : Nat} (h : 0 < sz k) : cz k = sz k := by
  unfold cz
  refine if_neg (fun z => ?_)
  rcases z with rfl | rfl <;> exact absurd h (by decide)
theorem RM_keep0 {σ τ : Mm} {b : Nat} {D : DD} (hW : WF D) (h : RM σ b D) (hb : b ≠ 0) (ho : ∀ k f, ¬ f < cz k → mA τ 3 0 k f = mA σ 3 0 k f) : RM τ b D := by
  refine RM.cong hW h (fun k x hx => ho k (sz k * b + x) ?_)
  rw [cz_sz (by omega)]
  have : sz k * 1 ≤ sz k * b := Nat.mul_le_mul_left _ (by omega)
  omega
