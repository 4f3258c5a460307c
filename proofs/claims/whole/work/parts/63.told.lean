/-! striking -/
theorem p_striking {h : Nat → Bool} {σ : Mm} (hI : Iv h σ) (y t' n' : Int32) : ∃ (r : Int32) (σ1 : Mm) (σ2 : Mm), F_X11_striking y t' n' σ = some (r, σ1) ∧ F_X12_striking y t' n' σ1 = some (r, σ2) ∧ Iv h σ2 := by
  obtain ⟨D, hC, hM, hW⟩ := id hI.2.2.2.2.2
  have oP := okP_of hI.1
  have h60 := hW.2.1
  have hB : CB D σ := ⟨hI.1, hC⟩
  by_cases hv : (0 ≤ y ∧ y ≤ 5000) ∧ (0 ≤ t' ∧ t' ≤ 359) ∧ (0 ≤ n' ∧ n' ≤ nI (dN D 1))
  · obtain ⟨v1, v2, v3⟩ := hv
    obtain ⟨n, hn, rfl⟩ := known_nat (by omega) v3
    obtain ⟨t, ht, rfl⟩ := deg_nat v2
    have hct : (nI t).toNatClampNeg = t := nI_clamp (by omega)
    have it : inb (nI t) 360 = true := by clear hI hC hM hW hB v1 v2 v3 oP; grind [gI, gB, gC]
    refine q_call hI fr_X11_striking rfl (fc D n y 5 t) ?_ (fun _ => fr_X12_striking) rfl (fun σ1 f1 => ?_)
    · unfold F_X11_striking F_X11_striking_31
      rw [isYearC, if_pos v1, if_neg ne10, isDegreeC, if_pos v2, if_neg ne10, if_pos oP, isKnownC (s := 0) hC.2.2.2.2.2.2.2, if_pos v3, if_neg ne10]
      refine Ok_V ((s_lookAt hW (Or.inl rfl) hn hB).frV fr_X11_lookAt) (fun τ hτ => ?_)
      obtain ⟨⟨-, hc, hS⟩, f⟩ := hτ
      refine Ok_V (s_tellAfter hW hn hc hS) (fun υ hυ => ?_)
      unfold F_X11_striking_46
      rw [hct]
      exact Ok_t it (Ok_r (hυ t ht))
    · have hM1 : RM σ1 0 D := hM.fr (f1.sub rfl)
      unfold F_X12_striking F_X12_striking_23 F_X12_striking_34
      rw [isYearM, if_pos v1, if_neg ne10, isInM, if_pos v2, if_neg ne10, isKnownM hM1, bnd_s, if_pos v3, if_neg ne10]
      refine Ok_V ((s_layAll hW hn hM1).frV fr_X12_layAll) (fun τ hτ => ?_)
      obtain ⟨⟨hY, hS⟩, f⟩ := hτ
      refine Ok_V (s_strike hW hn (hM1.fr (f.sub rfl)) hY.my hS) (fun υ hυ => ?_)
      unfold F_X12_striking_38
      rw [hct]
      exact Ok_t it (Ok_r (hυ t ht))
  · refine ⟨-1, σ, σ, ?_, ?_, hI⟩
    · unfold F_X11_striking
      rw [isYearC, isDegreeC, isKnownC (s := 0) hC.2.2.2.2.2.2.2]
      by_cases v1 : 0 ≤ y ∧ y ≤ 5000
      · rw [if_pos v1, if_neg ne10]
        by_cases v2 : 0 ≤ t' ∧ t' ≤ 359
        · rw [if_pos v2, if_neg ne10, if_pos oP, if_neg (fun z => hv ⟨v1, v2, z⟩), if_pos rfl]
        · rw [if_neg v2, if_pos rfl]
      · rw [if_neg v1, if_pos rfl]
    · unfold F_X12_striking F_X12_striking_23
      rw [isYearM, isInM, isKnownM hM, bnd_s]
      by_cases v1 : 0 ≤ y ∧ y ≤ 5000
      · rw [if_pos v1, if_neg ne10]
        by_cases v2 : 0 ≤ t' ∧ t' ≤ 359
        · rw [if_pos v2, if_neg ne10, if_neg (fun z => hv ⟨v1, v2, z⟩), if_pos rfl]
        · rw [if_neg v2, if_pos rfl]
      · rw [if_neg v1, if_pos rfl]
