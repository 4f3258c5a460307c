/-! anything, both -/
theorem p_anything {h : Nat → Bool} {σ : Mm} (hI : Iv h σ) (a P R t N : Int32) : ∃ (r : Int32) (σ1 : Mm) (σ2 : Mm), F_X11_anything a P R t N σ = some (r, σ1) ∧ F_X12_anything a P R t N σ1 = some (r, σ2) ∧ Iv h σ2 := by
  by_cases hv : (1 ≤ a ∧ a ≤ 100) ∧ (1 ≤ P ∧ P ≤ 20) ∧ (1 ≤ R ∧ R ≤ 20) ∧ (0 ≤ t ∧ t ≤ 9) ∧ (1 ≤ N ∧ N ≤ 2000)
  · obtain ⟨v1, v2, v3, v4, v5⟩ := hv
    have nat : ∀ (z : Int32) (lo : Int32) (F : Nat), F < 10000 → 0 ≤ lo → lo ≤ z → z ≤ nI F → ∃ k : Nat, k ≤ F ∧ z = nI k := fun z lo F hF h0 h1 h2 => by
      have hz : 0 ≤ z := by clear hI v1 v2 v3 v4 v5; grind
      obtain ⟨e1, e2⟩ := gC z hz
      refine ⟨z.toNatClampNeg, ?_, e1⟩
      rw [e1] at h2
      by_cases c : z.toNatClampNeg ≤ F
      · exact c
      · have q := nI_lt (a := F) (b := z.toNatClampNeg) (by omega) e2
        exfalso
        generalize nI F = f at *
        generalize nI z.toNatClampNeg = g at *
        clear hI v1 v2 v3 v4 v5 e1; grind
    obtain ⟨a, ha, rfl⟩ := nat a 1 100 (by omega) (by decide) v1.1 v1.2
    obtain ⟨P, hP, rfl⟩ := nat P 1 20 (by omega) (by decide) v2.1 v2.2
    obtain ⟨R, hR, rfl⟩ := nat R 1 20 (by omega) (by decide) v3.1 v3.2
    obtain ⟨t, ht, rfl⟩ := nat t 0 9 (by omega) (by decide) v4.1 v4.2
    obtain ⟨N, hN, rfl⟩ := nat N 1 2000 (by omega) (by decide) v5.1 v5.2
    refine q_call hI fr_X11_anything rfl (nI (cn (fun x => decide (1 ≤ x) && exP a t R x P) (N + 1))) ?_ (fun _ => fr_X12_anything) rfl (fun σ1 f1 => ?_)
    · unfold F_X11_anything
      rw [if_neg (by clear hI nat; grind), if_neg (by clear hI nat; grind), if_neg (by clear hI nat; grind), if_neg (by clear hI nat; grind), if_neg (by clear hI nat; grind), if_pos v3.2, if_neg (by clear hI nat; grind), if_neg (by clear hI nat; grind), if_neg (by clear hI nat; grind), if_pos v5.2]
      exact anyC_66 ha ht hP hR hN FU 0 σ (by show _ < 1000000; omega) (by omega) (fun x hx => absurd hx (by omega))
    · unfold F_X12_anything
      rw [isInM, if_pos v1, if_neg ne10, isInM, if_pos v2, if_neg ne10, isInM, if_pos v3, if_neg ne10, isInM, if_pos v4, if_neg ne10, isInM, if_pos v5, if_neg ne10]
      have := anyM_61 (σ := σ1) ha ht hP hR hN FU 1 (by show _ < 1000000; omega) (by omega) (by omega)
      exact ⟨_, this, rfl⟩
  · refine ⟨-1, σ, σ, ?_, ?_, hI⟩
    · unfold F_X11_anything
      generalize F_X11_anything_66 FU a P R t N 0 σ = o
      clear hI
      repeat' split
      all_goals first | rfl | (exfalso; grind)
    · unfold F_X12_anything
      simp only [isInM]
      by_cases v1 : 1 ≤ a ∧ a ≤ 100
      · rw [if_pos v1, if_neg ne10]
        by_cases v2 : 1 ≤ P ∧ P ≤ 20
        · rw [if_pos v2, if_neg ne10]
          by_cases v3 : 1 ≤ R ∧ R ≤ 20
          · rw [if_pos v3, if_neg ne10]
            by_cases v4 : 0 ≤ t ∧ t ≤ 9
            · rw [if_pos v4, if_neg ne10, if_neg (fun z => hv ⟨v1, v2, v3, v4, z⟩), if_pos rfl]
            · rw [if_neg v4, if_pos rfl]
          · rw [if_neg v3, if_pos rfl]
        · rw [if_neg v2, if_pos rfl]
      · rw [if_neg v1, if_pos rfl]
