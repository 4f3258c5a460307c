def foundC (σ : Mm) (F T f : Nat) (e n y : Int32) : Mm := (u3 (mA (noteS σ F 0 (nI T) e n y)) 2 0 0 (upd (upd (mA σ 2 0 0) 0 (nI (F + 1))) 1 (nI (f + 1))), mL σ, mP σ)
def foundM (σ : Mm) (F T : Nat) (e n y : Int32) : Mm := (u3 (u3 (u3 (u3 (u3 (u3 (mA (factS σ F 0 (nI T) e n)) 3 0 13 (upd (mA σ 3 0 13) T (nI F))) 3 0 9 (upd (mA σ 3 0 9) T 0)) 3 0 10 (upd (mA σ 3 0 10) T e)) 3 0 11 (upd (mA σ 3 0 11) T n)) 3 0 12 (upd (mA σ 3 0 12) T y)) 3 0 8 (upd (mA σ 3 0 8) 0 (nI (T + 1))), mL σ, mP σ)
theorem s_foundM {σ : Mm} {F T : Nat} {e n y : Int32} (hN : mA σ 3 0 8 0 = nI T) (hF : mA σ 3 0 38 0 = nI F) (hT : T < 14) (hF2 : F < 60) (he : rIn e 999) (hn : rIn n 999) (hy : rIn y 9999) : F_X12_found e n y σ = some (nI T, foundM σ F T e n y) := by
  have hc : (nI T).toNatClampNeg = T := nI_clamp (by omega)
  have hin : inb (nI T) 70 = true := by grind [gI, gB, gC]
  have i0 : inb 0 5 = true := by decide
  have z0 : vp_nar .boolean 0 = 0 := by decide
  suffices k : Ok (F_X12_found e n y σ) (fun r => r = (nI T, foundM σ F T e n y)) by
    obtain ⟨r, h1, h2⟩ := k
    rw [h1, h2]
  unfold F_X12_found
  rw [c0, hN, hF]
  simp only [isInM, ite10]
  refine Ok_t i0 (Ok_f (by grind [gI, gC]) (Ok_t i0 (Ok_f (by grind [gI, gC]) (Ok_f (not_not_intro he) (Ok_f (not_not_intro hn) (Ok_f (not_not_intro hy) (Ok_t i0 ?_)))))))
  unfold F_X12_found_65
  rw [s_fact hF hF2, bnd_s]
  unfold F_X12_found_80
  refine Ok_t hin ?_
  unfold F_X12_found_81
  refine Ok_t hin ?_
  unfold F_X12_found_89
  refine Ok_t hin ?_
  unfold F_X12_found_97
  refine Ok_t hin ?_
  unfold F_X12_found_105
  refine Ok_t hin ?_
  unfold F_X12_found_113 F_X12_found_123
  refine Ok_t i0 (Ok_t i0 (Ok_r (Prod.ext rfl ?_)))
  unfold foundM
  simp [setA, mA, mL, mP, u3_at, factS, hN, hc, nI_1, z0]
theorem s_foundC {σ : Mm} {D : DD} {e n y : Int32} (oP : okP σ = true) (hC : RC σ (mP σ 0) 0 D) (hT : nT D < 14) (hF2 : dN D 1 < 60) (he : rIn e 999) (hn : rIn n 999) (hy : rIn y 9999) : F_X11_found e n y σ = some (nI (nT D), foundC σ (dN D 1) (nT D) (cntF (D.2.1 4) (dN D 1)) e n y) := by
  have hF := hC.2.2.2.2.2.2.2.1
  have hf := hC.2.2.2.2.2.2.2.2.1
  unfold F_X11_found
  simp only [thingsInAll_eq hC, isSpotC, isAgeC, ite10]
  rw [if_pos oP, hF, if_neg (by clear hC hf hF; grind [gI, gC]), if_neg (by clear hC hf hF; grind [gI, gC]), if_neg (not_not_intro ⟨he, hn⟩), if_neg (not_not_intro hy), s_note hF hF2, bnd_s]
  unfold F_X11_found_55 F_X11_found_69 foundC
  simp [setA, mA, mL, mP, u3_at, noteS, upd_at]
  rw [show σ.1 2 0 0 1 = nI (cntF (D.2.1 4) (dN D 1)) from hf, nI_1]
set_option maxHeartbeats 4000000 in
theorem p_found {h : Nat → Bool} {σ : Mm} (hI : Iv h σ) (e n y : Int32) : ∃ (r : Int32) (σ1 : Mm) (σ2 : Mm), F_X11_found e n y σ = some (r, σ1) ∧ F_X12_found e n y σ1 = some (r, σ2) ∧ Iv h σ2 := by
  obtain ⟨D, hD⟩ := id hI.2.2.2.2.2
  have oP := okP_of hI.1
  obtain ⟨hC, hM, hW⟩ := id hD
  have hF := hC.2.2.2.2.2.2.2.1
  have hN := hM.1.2.1
  have hF2 := hM.1.2.2.2.2.2.2
  have w1 := hW.1
  have w2 := hW.2.1
  by_cases hv : nT D < 14 ∧ dN D 1 < 60 ∧ rIn e 999 ∧ rIn n 999 ∧ rIn y 9999
  · obtain ⟨vT, vF, ve, vn, vy⟩ := hv
    have hN1 : mA (foundC σ (dN D 1) (nT D) (cntF (D.2.1 4) (dN D 1)) e n y) 3 0 8 0 = nI (nT D) := by simp [foundC, noteS, mA, u3_at]; exact hN
    have hF1 : mA (foundC σ (dN D 1) (nT D) (cntF (D.2.1 4) (dN D 1)) e n y) 3 0 38 0 = nI (dN D 1) := by simp [foundC, noteS, mA, u3_at]; exact hF2
    refine ⟨_, _, _, s_foundC oP hC vT vF ve vn vy, s_foundM hN1 hF1 vT vF ve vn vy, ?_⟩
    refine hI.upd (D := addF D 0 (nI (nT D)) e n y) (fun _ => rfl) (fun k => ?_) (fun i k hi => ?_) (fun i k hi => ?_) (fun k f _ _ hk => ?_) ⟨?_, ?_, ?_⟩
    · simp [foundM, factS, foundC, noteS, mA, u3_at]
    · simp [foundM, factS, foundC, noteS, mA, u3_at]
    · simp [foundM, factS, foundC, noteS, mA, u3_at, show ¬ i = 0 by omega]
    · by_cases k8 : k = 8
      · subst k8; have : 1 ≤ f := hk; simp [foundM, factS, foundC, noteS, mA, u3_at, upd_at, show ¬ f = 0 by omega]
      by_cases k9 : k = 9
      · subst k9; have : 14 ≤ f := hk; simp [foundM, factS, foundC, noteS, mA, u3_at, upd_at, show ¬ f = nT D by omega]
      by_cases k10 : k = 10
      · subst k10; have : 14 ≤ f := hk; simp [foundM, factS, foundC, noteS, mA, u3_at, upd_at, show ¬ f = nT D by omega]
      by_cases k11 : k = 11
      · subst k11; have : 14 ≤ f := hk; simp [foundM, factS, foundC, noteS, mA, u3_at, upd_at, show ¬ f = nT D by omega]
      by_cases k12 : k = 12
      · subst k12; have : 14 ≤ f := hk; simp [foundM, factS, foundC, noteS, mA, u3_at, upd_at, show ¬ f = nT D by omega]
      by_cases k13 : k = 13
      · subst k13; have : 14 ≤ f := hk; simp [foundM, factS, foundC, noteS, mA, u3_at, upd_at, show ¬ f = nT D by omega]
      by_cases k38 : k = 38
      · subst k38; have : 1 ≤ f := hk; simp [foundM, factS, foundC, noteS, mA, u3_at, upd_at, show ¬ f = 0 by omega]
      by_cases k39 : k = 39
      · subst k39; have : 60 ≤ f := hk; simp [foundM, factS, foundC, noteS, mA, u3_at, upd_at, show ¬ f = dN D 1 by omega]
      by_cases k40 : k = 40
      · subst k40; have : 60 ≤ f := hk; simp [foundM, factS, foundC, noteS, mA, u3_at, upd_at, show ¬ f = dN D 1 by omega]
      by_cases k41 : k = 41
      · subst k41; have : 60 ≤ f := hk; simp [foundM, factS, foundC, noteS, mA, u3_at, upd_at, show ¬ f = dN D 1 by omega]
      by_cases k42 : k = 42
      · subst k42; have : 60 ≤ f := hk; simp [foundM, factS, foundC, noteS, mA, u3_at, upd_at, show ¬ f = dN D 1 by omega]
      simp [foundM, factS, foundC, noteS, mA, u3_at, k8, k9, k10, k11, k12, k13, k38, k39, k40, k41, k42]
    · refine RC_add hC (fun k => ?_) ?_ ?_ ?_ ?_ ?_ ?_ ?_
      all_goals simp [foundM, factS, foundC, noteS, mA, u3_at, upd_at]
    · refine RM_add hM hW (a := nI (nT D)) (b := e) (c := n) (fun k k1 k2 k3 => ?_) ?_ ?_ (fun k x k1 k2 hx => ?_) (fun _ => ?_) ?_ ?_ ?_ ?_ ⟨fun _ => rfl, fun z => absurd z (by decide), fun _ => ⟨rfl, rfl⟩, fun z => absurd z (by decide)⟩
      · funext f
        simp [foundM, factS, foundC, noteS, mA, u3_at, show ¬ k = 8 by omega, show ¬ k = 9 by omega, show ¬ k = 10 by omega, show ¬ k = 11 by omega, show ¬ k = 12 by omega, show ¬ k = 13 by omega, show ¬ k = 38 by omega, show ¬ k = 39 by omega, show ¬ k = 40 by omega, show ¬ k = 41 by omega, show ¬ k = 42 by omega]
      · simp [foundM, factS, foundC, noteS, mA, u3_at, upd_at]
      · simp [foundM, factS, foundC, noteS, mA, u3_at, upd_at]
      · have hx2 : ¬ x = nT D := by omega
        have hk : k = 9 ∨ k = 10 ∨ k = 11 ∨ k = 12 ∨ k = 13 := by omega
        rcases hk with rfl | rfl | rfl | rfl | rfl <;> simp [foundM, factS, foundC, noteS, mA, u3_at, upd_at, hx2]
      · simp [foundM, factS, foundC, noteS, mA, u3_at, upd_at]
      all_goals simp [foundM, factS, foundC, noteS, mA, u3_at]
    · refine addF_WF hW vF (fun _ => vT) (Or.inl ⟨addF_4, ?_, ?_, ?_, ?_⟩)
      · rw [addF_5, addF_cnt (Nat.le_refl _)]; rfl
      · rw [addF_6]; exact ve
      · rw [addF_7]; exact vn
      · rw [addF_8]; exact vy
  · refine ⟨-1, σ, σ, ?_, ?_, hI⟩
    · unfold F_X11_found
      simp only [thingsInAll_eq hC, isSpotC, isAgeC, ite10]
      rw [if_pos oP, hF]
      by_cases a1 : (60 : Int32) ≤ nI (dN D 1)
      · rw [if_pos a1]
      rw [if_neg a1]
      by_cases a2 : (14 : Int32) ≤ nI (nT D)
      · rw [if_pos a2]
      rw [if_neg a2]
      by_cases a3 : rIn e 999 ∧ rIn n 999
      · rw [if_neg (not_not_intro a3), if_pos]
        intro a4
        exact hv ⟨by clear hC hM hD hI hW; grind [gI, gC], by clear hC hM hD hI hW; grind [gI, gC], a3.1, a3.2, a4⟩
      · rw [if_pos a3]
    · unfold F_X12_found
      simp only [isInM, ite10, c0, hN, hF2, if_pos (show inb 0 5 = true by decide)]
      by_cases a1 : nI (nT D) = 14
      · rw [if_pos a1]
      rw [if_neg a1]
      by_cases a2 : nI (dN D 1) = 60
      · rw [if_pos a2]
      rw [if_neg a2]
      by_cases a3 : (0 : Int32) ≤ e ∧ e ≤ 999
      · rw [if_neg (not_not_intro a3)]
        by_cases a4 : (0 : Int32) ≤ n ∧ n ≤ 999
        · rw [if_neg (not_not_intro a4), if_pos]
          intro a5
          exact hv ⟨by clear hC hM hD hI hW; grind [gI, gC], by clear hC hM hD hI hW; grind [gI, gC], a3, a4, a5⟩
        · rw [if_pos a4]
      · rw [if_pos a3]
