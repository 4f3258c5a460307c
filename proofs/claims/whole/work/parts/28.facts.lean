theorem bnd_s {β : Type} {a : Int32} {τ : Mm} {f : Int32 → Mm → Option β} : bnd (some (a, τ)) f = f a τ := rfl
theorem bnl_s {β : Type} {a : Int64} {τ : Mm} {f : Int64 → Mm → Option β} : bnl (some (a, τ)) f = f a τ := rfl
theorem bnv_s {β : Type} {τ : Mm} {f : Mm → Option β} : bnv (some τ) f = f τ := rfl
theorem isThingC {σ : Mm} {D : DD} (hC : RC σ (mP σ 0) 0 D) (hW : WF D) (x : Int32) : f_X11_isThing x σ = if 0 ≤ x ∧ x < nI (nT D) then 1 else 0 := by
  have h1 := hW.1
  unfold f_X11_isThing
  rw [thingsInAll_eq hC]
  grind [gI]
theorem isThingM {σ : Mm} {N : Nat} (hN : mA σ 3 0 8 0 = nI N) (x : Int32) : F_X12_isThing x σ = some (if 0 ≤ x ∧ x < nI N then 1 else 0, σ) := by
  unfold F_X12_isThing
  rw [c0, hN, if_pos (show inb 0 5 = true by decide)]
  by_cases h0 : x < 0
  · rw [if_pos h0, if_neg (by grind)]
  · rw [if_neg h0]
    by_cases h1 : nI N ≤ x
    · rw [if_pos h1, if_neg (by grind)]
    · rw [if_neg h1, if_pos (by grind)]
theorem isInM {x a b : Int32} : f_X12_isIn x a b = if a ≤ x ∧ x ≤ b then 1 else 0 := by
  unfold f_X12_isIn; grind
theorem isSpotC {x y : Int32} : f_X11_isSpot x y = if rIn x 999 ∧ rIn y 999 then 1 else 0 := by
  unfold f_X11_isSpot rIn; grind
theorem isAgeC {x : Int32} : f_X11_isAge x = if rIn x 9999 then 1 else 0 := by
  unfold f_X11_isAge rIn; grind
theorem full_C {σ : Mm} {i : Nat} {D : DD} (hC : RC σ i 0 D) (hF : dN D 1 = 60) : ¬ mA σ 2 0 0 0 < 60 := by
  rw [hC.2.2.2.2.2.2.2.1, hF]; decide
theorem full_M {σ : Mm} {D : DD} (hM : RM σ 0 D) (hF : dN D 1 = 60) : mA σ 3 0 38 0 = 60 := by
  rw [hM.1.2.2.2.2.2.2, hF]; rfl
theorem n8_note {σ : Mm} {F : Nat} {κ ab e n y : Int32} : mA (noteS σ F κ ab e n y) 3 0 8 0 = mA σ 3 0 8 0 := by simp [noteS, mA, u3_at]
theorem n38_note {σ : Mm} {F : Nat} {κ ab e n y : Int32} : mA (noteS σ F κ ab e n y) 3 0 38 0 = mA σ 3 0 38 0 := by simp [noteS, mA, u3_at]
theorem n39_note {σ : Mm} {F : Nat} {κ ab e n y : Int32} : mA (noteS σ F κ ab e n y) 3 0 39 = mA σ 3 0 39 := by simp [noteS, mA, u3_at]
theorem ne10 : ¬ (1 : Int32) = 0 := by decide
theorem ite10 {c : Prop} {dc : Decidable c} : ((@ite _ c dc (1 : Int32) 0) = 0) ↔ ¬ c := by
  by_cases h : c
  · simp [h]
  · simp [h]
theorem p_move {h : Nat → Bool} {σ : Mm} (hI : Iv h σ) (x e n : Int32) : ∃ (r : Int32) (σ1 : Mm) (σ2 : Mm), F_X11_move x e n σ = some (r, σ1) ∧ F_X12_move x e n σ1 = some (r, σ2) ∧ Iv h σ2 := by
  obtain ⟨D, hD⟩ := id hI.2.2.2.2.2
  have oP := okP_of hI.1
  obtain ⟨hC, hM, hW⟩ := id hD
  have hF := hC.2.2.2.2.2.2.2.1
  have hN := hM.1.2.1
  have hF2 := hM.1.2.2.2.2.2.2
  have w2 := hW.2.1
  unfold F_X11_move F_X12_move F_X12_move_5 F_X11_move_30 F_X12_move_38
  simp only [if_pos oP, isThingC hC hW, isSpotC, isInM]
  by_cases hv : (0 ≤ x ∧ x < nI (nT D)) ∧ rIn e 999 ∧ rIn n 999
  · obtain ⟨v1, v2, v3⟩ := hv
    rw [if_pos v1, if_neg ne10, if_pos (show rIn e 999 ∧ rIn n 999 from ⟨v2, v3⟩), if_neg ne10]
    by_cases h60 : dN D 1 = 60
    · rw [s_noteN (full_C hC h60)]
      refine ⟨-1, σ, σ, rfl, ?_, hI⟩
      rw [isThingM hN, if_pos v1]
      simp only [bnd_s]
      rw [if_neg ne10, if_pos (show (0 : Int32) ≤ e ∧ e ≤ 999 from v2), if_neg ne10, if_pos (show (0 : Int32) ≤ n ∧ n ≤ 999 from v3), if_neg ne10, s_factN (full_M hM h60)]
      rfl
    · rw [s_note hF (by omega)]
      have ab := add_both hI hD (κ := 1) (ab := x) (e := e) (n := n) (y := 0) (a := x) (b := e) (c := n) (by omega) (by decide) ?_ ⟨fun _ => rfl, fun z => absurd z (by decide), fun _ => ⟨rfl, rfl⟩, fun z => absurd z (by decide)⟩
      · refine ⟨nI (dN D 1), _, _, rfl, ?_, ab.1⟩
        rw [isThingM (n8_note.trans hN), if_pos v1]
        simp only [bnd_s]
        rw [if_neg ne10, if_pos (show (0 : Int32) ≤ e ∧ e ≤ 999 from v2), if_neg ne10, if_pos (show (0 : Int32) ≤ n ∧ n ≤ 999 from v3), if_neg ne10, s_fact (n38_note.trans hF2) (by omega)]
        rfl
      · refine Or.inr (Or.inl ⟨addF_4, ?_, ?_, ?_, ?_⟩)
        · rw [addF_5]; exact v1.1
        · rw [addF_5, addF_cnt (Nat.le_refl _)]; exact v1.2
        · rw [addF_6]; exact v2
        · rw [addF_7]; exact v3
  · refine ⟨-1, σ, σ, ?_, ?_, hI⟩
    · by_cases v1 : 0 ≤ x ∧ x < nI (nT D)
      · rw [if_pos v1, if_neg ne10, if_neg (fun z => hv ⟨v1, z⟩), if_pos rfl]
      · rw [if_neg v1, if_pos rfl]
    · rw [isThingM hN]
      simp only [bnd_s]
      by_cases v1 : 0 ≤ x ∧ x < nI (nT D)
      · rw [if_pos v1, if_neg ne10]
        by_cases v2 : (0 : Int32) ≤ e ∧ e ≤ 999
        · rw [if_pos v2, if_neg ne10, if_neg (fun z => hv ⟨v1, v2, z⟩), if_pos rfl]
        · rw [if_neg v2, if_pos rfl]
      · rw [if_neg v1, if_pos rfl]
theorem p_gone {h : Nat → Bool} {σ : Mm} (hI : Iv h σ) (x : Int32) : ∃ (r : Int32) (σ1 : Mm) (σ2 : Mm), F_X11_gone x σ = some (r, σ1) ∧ F_X12_gone x σ1 = some (r, σ2) ∧ Iv h σ2 := by
  obtain ⟨D, hD⟩ := id hI.2.2.2.2.2
  have oP := okP_of hI.1
  obtain ⟨hC, hM, hW⟩ := id hD
  have hF := hC.2.2.2.2.2.2.2.1
  have hN := hM.1.2.1
  have hF2 := hM.1.2.2.2.2.2.2
  have w2 := hW.2.1
  unfold F_X11_gone F_X12_gone F_X12_gone_5 F_X11_gone_22 F_X12_gone_16
  simp only [if_pos oP, isThingC hC hW]
  by_cases v1 : 0 ≤ x ∧ x < nI (nT D)
  · rw [if_pos v1, if_neg ne10]
    by_cases h60 : dN D 1 = 60
    · rw [s_noteN (full_C hC h60)]
      refine ⟨-1, σ, σ, rfl, ?_, hI⟩
      rw [isThingM hN, if_pos v1]
      simp only [bnd_s]
      rw [if_neg ne10, s_factN (full_M hM h60)]
      rfl
    · rw [s_note hF (by omega)]
      have ab := add_both hI hD (κ := 2) (ab := x) (e := 0) (n := 0) (y := 0) (a := x) (b := 0) (c := 0) (by omega) (by decide) ?_ ⟨fun _ => rfl, fun z => absurd z (by decide), fun _ => ⟨rfl, rfl⟩, fun z => absurd z (by decide)⟩
      · refine ⟨nI (dN D 1), _, _, rfl, ?_, ab.1⟩
        rw [isThingM (n8_note.trans hN), if_pos v1]
        simp only [bnd_s]
        rw [if_neg ne10, s_fact (n38_note.trans hF2) (by omega)]
        rfl
      · refine Or.inr (Or.inr (Or.inl ⟨addF_4, ?_, ?_⟩))
        · rw [addF_5]; exact v1.1
        · rw [addF_5, addF_cnt (Nat.le_refl _)]; exact v1.2
  · refine ⟨-1, σ, σ, ?_, ?_, hI⟩
    · rw [if_neg v1, if_pos rfl]
    · rw [isThingM hN]
      simp only [bnd_s]
      rw [if_neg v1, if_pos rfl]
theorem p_date {h : Nat → Bool} {σ : Mm} (hI : Iv h σ) (x y : Int32) : ∃ (r : Int32) (σ1 : Mm) (σ2 : Mm), F_X11_date x y σ = some (r, σ1) ∧ F_X12_date x y σ1 = some (r, σ2) ∧ Iv h σ2 := by
  obtain ⟨D, hD⟩ := id hI.2.2.2.2.2
  have oP := okP_of hI.1
  obtain ⟨hC, hM, hW⟩ := id hD
  have hF := hC.2.2.2.2.2.2.2.1
  have hN := hM.1.2.1
  have hF2 := hM.1.2.2.2.2.2.2
  have w2 := hW.2.1
  unfold F_X11_date F_X12_date F_X12_date_5 F_X11_date_29 F_X12_date_27
  simp only [if_pos oP, isThingC hC hW, isAgeC, isInM]
  by_cases hv : (0 ≤ x ∧ x < nI (nT D)) ∧ rIn y 9999
  · obtain ⟨v1, v2⟩ := hv
    rw [if_pos v1, if_neg ne10, if_pos v2, if_neg ne10]
    by_cases h60 : dN D 1 = 60
    · rw [s_noteN (full_C hC h60)]
      refine ⟨-1, σ, σ, rfl, ?_, hI⟩
      rw [isThingM hN, if_pos v1]
      simp only [bnd_s]
      rw [if_neg ne10, if_neg ne10, s_factN (full_M hM h60)]
      rfl
    · rw [s_note hF (by omega)]
      have ab := add_both hI hD (κ := 3) (ab := x) (e := 0) (n := 0) (y := y) (a := x) (b := y) (c := 0) (by omega) (by decide) ?_ ⟨fun _ => rfl, fun z => absurd z (by decide), fun z => absurd z (by decide), fun _ => rfl⟩
      · refine ⟨nI (dN D 1), _, _, rfl, ?_, ab.1⟩
        rw [isThingM (n8_note.trans hN), if_pos v1]
        simp only [bnd_s]
        rw [if_neg ne10, if_neg ne10, s_fact (n38_note.trans hF2) (by omega)]
        rfl
      · refine Or.inr (Or.inr (Or.inr (Or.inl ⟨addF_4, ?_, ?_, ?_⟩)))
        · rw [addF_5]; exact v1.1
        · rw [addF_5, addF_cnt (Nat.le_refl _)]; exact v1.2
        · rw [addF_8]; exact v2
  · refine ⟨-1, σ, σ, ?_, ?_, hI⟩
    · by_cases v1 : 0 ≤ x ∧ x < nI (nT D)
      · rw [if_pos v1, if_neg ne10, if_neg (fun z => hv ⟨v1, z⟩), if_pos rfl]
      · rw [if_neg v1, if_pos rfl]
    · rw [isThingM hN]
      simp only [bnd_s]
      by_cases v1 : 0 ≤ x ∧ x < nI (nT D)
      · rw [if_pos v1, if_neg ne10, if_neg (fun z => hv ⟨v1, z⟩), if_pos rfl]
      · rw [if_neg v1, if_pos rfl]
theorem p_annul {h : Nat → Bool} {σ : Mm} (hI : Iv h σ) (x : Int32) : ∃ (r : Int32) (σ1 : Mm) (σ2 : Mm), F_X11_annul x σ = some (r, σ1) ∧ F_X12_annul x σ1 = some (r, σ2) ∧ Iv h σ2 := by
  obtain ⟨D, hD⟩ := id hI.2.2.2.2.2
  obtain ⟨hC, hM, hW⟩ := id hD
  have hF := hC.2.2.2.2.2.2.2.1
  have hF2 := hM.1.2.2.2.2.2.2
  have w2 := hW.2.1
  unfold F_X11_annul F_X12_annul F_X11_annul_42 F_X12_annul_34
  rw [hF]
  simp only [c0, isInM, ite10, hF2, if_pos (show inb 0 5 = true by decide)]
  by_cases h0 : x < 0
  · refine ⟨-1, σ, σ, by rw [if_pos h0], ?_, hI⟩
    rw [if_pos (fun z => absurd z.1 (by grind))]
  rw [if_neg h0]
  by_cases h1 : nI (dN D 1) ≤ x
  · refine ⟨-1, σ, σ, by rw [if_pos h1], ?_, hI⟩
    rw [if_pos (by clear hD hC hM hW hI; grind [gI, gC])]
  rw [if_neg h1]
  obtain ⟨j, hj, rfl⟩ : ∃ j : Nat, j < dN D 1 ∧ x = nI j := ⟨x.toNatClampNeg, by clear hD hC hM hW hI; grind [gI, gC], by clear hD hC hM hW hI; grind [gI, gC]⟩
  have hcj : (nI j).toNatClampNeg = j := nI_clamp (by omega)
  rw [if_pos (show inb (nI j) 60 = true by clear hD hC hM hW hI; grind [gI, gB, gC]), hcj, (hC.2.2.2.2.2.2.2.2.2 j hj).1]
  have hk39 := (hM.2.2.1 j hj).1
  simp only [Nat.mul_zero, Nat.zero_add] at hk39
  by_cases h4 : dA D 4 j = 4
  · refine ⟨-1, σ, σ, by rw [if_pos h4], ?_, hI⟩
    rw [if_neg (by clear hD hC hM hW hI; grind [gI, gC]), if_pos (by clear hD hC hM hW hI; grind [gI, gB, gC]), hk39, if_pos h4]
  rw [if_neg h4]
  by_cases h60 : dN D 1 = 60
  · rw [s_noteN (full_C hC h60)]
    refine ⟨-1, σ, σ, rfl, ?_, hI⟩
    rw [if_neg (by clear hD hC hM hW hI; grind [gI, gC]), if_pos (by clear hD hC hM hW hI; grind [gI, gB, gC]), hk39, if_neg h4, s_factN (full_M hM h60)]
    rfl
  · rw [s_note hF (by omega)]
    have ab := add_both hI hD (κ := 4) (ab := nI j) (e := 0) (n := 0) (y := 0) (a := -1) (b := nI j) (c := 0) (by omega) (by decide) ?_ ⟨fun z => absurd rfl z, fun _ => ⟨rfl, rfl⟩, fun z => absurd z (by decide), fun z => absurd z (by decide)⟩
    · refine ⟨nI (dN D 1), _, _, rfl, ?_, ab.1⟩
      rw [n38_note, n39_note, hF2, if_neg (by clear ab hD hC hM hW hI; grind [gI, gC]), if_pos (by clear ab hD hC hM hW hI; grind [gI, gB, gC]), hk39, if_neg h4, s_fact (n38_note.trans hF2) (by omega)]
      rfl
    · refine Or.inr (Or.inr (Or.inr (Or.inr ⟨addF_4, ?_, ?_, ?_⟩)))
      · rw [addF_5]; exact nI_pos' (by omega)
      · rw [addF_5]; exact nI_lt hj (by omega)
      · rw [addF_5, hcj, addF_old hj]; exact h4
