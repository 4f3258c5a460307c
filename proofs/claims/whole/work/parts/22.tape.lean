/-! feed and back -/
theorem l_append {x : Int32} {b : Nat} (σ0 : Mm) (hb : b + 4 ≤ 2000) : ∀ (n : Nat) (j : Nat) (σ : Mm), 4 - j < n → j ≤ 4 → mA σ 0 0 6 0 = nI (b + j) → (∀ k, k < b → mA σ 0 0 7 k = mA σ0 0 0 7 k) → (∀ i, i < j → mA σ 0 0 7 (b + i) &&& 255 = (x >>> ((24 - 8 * nI i) &&& 31)) &&& 255) →
    Ok (F_X8_append_3 n x (24 - 8 * nI j) σ) (fun τ => mA τ 0 0 6 0 = nI (b + 4) ∧ (∀ k, k < b → mA τ 0 0 7 k = mA σ0 0 0 7 k) ∧ ∀ j, j < 4 → mA τ 0 0 7 (b + j) &&& 255 = (x >>> ((24 - 8 * nI j) &&& 31)) &&& 255) := by
  intro n
  induction n with
  | zero => intro j σ hn; omega
  | succ n ih =>
    intro j σ hn hj h1 h2 h3
    change Ok (B_X8_append_3 (F_X8_append_3 n) _ _ _) _
    unfold B_X8_append_3
    refine Ok_s (fun q => Ok_r ?_) (fun q => Ok_f (by clear ih; grind [gI, gC]) (Ok_t (by clear ih; grind [gI, gB, gC]) ?_))
    · have e : j = 4 := by clear ih; grind [gI, gC]
      subst e
      exact ⟨h1, h2, h3⟩
    · unfold F_X8_append_30 F_X8_append_40
      have e : 24 - 8 * nI j + -8 = 24 - 8 * nI (j + 1) := by clear ih; grind [gI, gC]
      have e2 : j < 4 := by clear ih; grind [gI, gC]
      have c : (mA σ 0 0 6 0).toNatClampNeg = b + j := by rw [h1]; exact nI_clamp (by omega)
      rw [e, c]
      refine ih (j + 1) _ (by omega) (by omega) ?_ ?_ ?_
      · simp only [mA_A, mL_A, mP_A, mA_L, mL_L, mP_L, upd_at]
        simp
        clear ih; grind [gI, gC]
      · intro k hk
        simp only [mA_A, mL_A, mP_A, mA_L, mL_L, mP_L, upd_at]
        simp
        rw [if_neg (by omega)]
        exact h2 k hk
      · intro i hi
        simp only [mA_A, mL_A, mP_A, mA_L, mL_L, mP_L, upd_at]
        simp
        by_cases hj2 : i = j
        · subst hj2; rw [if_pos rfl]; exact byt _
        · rw [if_neg (by omega)]; exact h3 i (by omega)
theorem s_append {x : Int32} {σ : Mm} {b : Nat} (h : mA σ 0 0 6 0 = nI b) (hb : b + 4 ≤ 2000) :
    Ok (F_X8_append x σ) (fun τ => mA τ 0 0 6 0 = nI (b + 4) ∧ (∀ k, k < b → mA τ 0 0 7 k = mA σ 0 0 7 k) ∧ ∀ j, j < 4 → mA τ 0 0 7 (b + j) &&& 255 = (x >>> ((24 - 8 * nI j) &&& 31)) &&& 255) :=
  l_append σ hb FU 0 σ (by decide) (by omega) h (fun _ _ => rfl) (fun j hj => absurd hj (by omega))
