/-! the surveys -/
def addF (D : DD) (κ ab e n y : Int32) : DD :=
  (fun j => if j = 1 then dN D 1 + 1 else dN D j,
   fun k j => if j = dN D 1 then (if k = 4 then κ else if k = 5 then ab else if k = 6 then e else if k = 7 then n else if k = 8 then y else dA D k j) else dA D k j,
   D.2.2.1, D.2.2.2.1, D.2.2.2.2)
theorem addF_cnt {D : DD} {κ ab e n y : Int32} {k : Nat} (h : k ≤ dN D 1) : cntF ((addF D κ ab e n y).2.1 4) k = cntF (D.2.1 4) k :=
  cntF_cong fun j hj => by
    show (if j = dN D 1 then _ else _) = _
    rw [if_neg (by omega)]
theorem addF_cnt1 {D : DD} {κ ab e n y : Int32} : cntF ((addF D κ ab e n y).2.1 4) (dN D 1 + 1) = cntF (D.2.1 4) (dN D 1) + (if κ = 0 then 1 else 0) := by
  show cntF _ _ + _ = _
  rw [addF_cnt (Nat.le_refl _)]
  show _ + (if (if dN D 1 = dN D 1 then _ else _) = (0 : Int32) then 1 else 0) = _
  rw [if_pos rfl]
  rfl
theorem addF_old {D : DD} {κ ab e n y : Int32} {k j : Nat} (h : j < dN D 1) : dA (addF D κ ab e n y) k j = dA D k j := by
  show (if j = dN D 1 then _ else _) = _
  rw [if_neg (by omega)]
theorem addF_oth {D : DD} {κ ab e n y : Int32} {k j : Nat} (h : k ≤ 3 ∨ 9 ≤ k) : dA (addF D κ ab e n y) k j = dA D k j := by
  show (if j = dN D 1 then _ else _) = _
  split
  · rw [if_neg (by omega), if_neg (by omega), if_neg (by omega), if_neg (by omega), if_neg (by omega)]
  · rfl
theorem addF_F {D : DD} {κ ab e n y : Int32} : dN (addF D κ ab e n y) 1 = dN D 1 + 1 := rfl
theorem addF_N {D : DD} {κ ab e n y : Int32} {j : Nat} (h : j ≠ 1) : dN (addF D κ ab e n y) j = dN D j := if_neg h
theorem addF_4 {D : DD} {κ ab e n y : Int32} : dA (addF D κ ab e n y) 4 (dN D 1) = κ := if_pos rfl
theorem addF_5 {D : DD} {κ ab e n y : Int32} : dA (addF D κ ab e n y) 5 (dN D 1) = ab := if_pos rfl
theorem addF_6 {D : DD} {κ ab e n y : Int32} : dA (addF D κ ab e n y) 6 (dN D 1) = e := if_pos rfl
theorem addF_7 {D : DD} {κ ab e n y : Int32} : dA (addF D κ ab e n y) 7 (dN D 1) = n := if_pos rfl
theorem addF_8 {D : DD} {κ ab e n y : Int32} : dA (addF D κ ab e n y) 8 (dN D 1) = y := if_pos rfl
theorem addF_WF {D : DD} {κ ab e n y : Int32} (hW : WF D) (hF : dN D 1 < 60) (ht : κ = 0 → nT D < 14) (hf : wfF (addF D κ ab e n y) (dN D 1)) : WF (addF D κ ab e n y) := by
  obtain ⟨w1, w2, w3, w4, w5, w6, w7, w8, w9, w10, w11⟩ := hW
  refine ⟨?_, by rw [addF_F]; omega, w3, w4, w5, w6, w7, fun t h => ?_, fun k hk => ?_, fun p hp => ?_, w11⟩
  · unfold nT at w1 ht ⊢
    rw [addF_F, addF_cnt1]
    show dN D 0 + _ ≤ 14
    split
    · rename_i hκ; have := ht hκ; omega
    · omega
  · rw [addF_oth (Or.inl (by omega)), addF_oth (Or.inl (by omega)), addF_oth (Or.inl (by omega)), addF_oth (Or.inl (by omega))]
    exact w8 t h
  · by_cases hk2 : k = dN D 1
    · subst hk2; exact hf
    · have hk3 : k < dN D 1 := by rw [addF_F] at hk; omega
      have hw := w9 k hk3
      unfold wfF at hw ⊢
      rw [addF_cnt (by omega)]
      simp only [addF_old hk3]
      rw [addF_N (j := 0) (by omega)]
      rcases hw with hw | hw | hw | hw | hw
      · exact Or.inl hw
      · exact Or.inr (Or.inl hw)
      · exact Or.inr (Or.inr (Or.inl hw))
      · exact Or.inr (Or.inr (Or.inr (Or.inl hw)))
      · refine Or.inr (Or.inr (Or.inr (Or.inr ⟨hw.1, hw.2.1, hw.2.2.1, ?_⟩)))
        have h1 : (dA D 5 k).toNatClampNeg < dN D 1 := by
          have a := hw.2.1; have b := hw.2.2.1
          have : k < 60 := by omega
          clear w9 w8 w10 w11 hf
          grind [gI, gC]
        rw [addF_old h1]
        exact hw.2.2.2
  · rw [addF_oth (Or.inr (by omega))]
    exact w10 p hp
def noteS (σ : Mm) (F : Nat) (κ ab e n y : Int32) : Mm := (u3 (u3 (u3 (u3 (u3 (u3 (mA σ) 2 0 1 (upd (mA σ 2 0 1) F κ)) 2 0 2 (upd (mA σ 2 0 2) F ab)) 2 0 3 (upd (mA σ 2 0 3) F e)) 2 0 4 (upd (mA σ 2 0 4) F n)) 2 0 5 (upd (mA σ 2 0 5) F y)) 2 0 0 (upd (mA σ 2 0 0) 0 (nI (F + 1))), mL σ, mP σ)
def factS (σ : Mm) (F : Nat) (κ a b c : Int32) : Mm := (u3 (u3 (u3 (u3 (u3 (mA σ) 3 0 39 (upd (mA σ 3 0 39) F κ)) 3 0 40 (upd (mA σ 3 0 40) F a)) 3 0 41 (upd (mA σ 3 0 41) F b)) 3 0 42 (upd (mA σ 3 0 42) F c)) 3 0 38 (upd (mA σ 3 0 38) 0 (nI (F + 1))), mL σ, mP σ)
/-- the class notes a fact -/
theorem s_note {σ : Mm} {F : Nat} {κ ab e n y : Int32} (hF : mA σ 2 0 0 0 = nI F) (h : F < 60) : F_X7_note 0 κ ab e n y σ = some (nI F, noteS σ F κ ab e n y) := by
  have hc : (mA σ 2 0 0 0).toNatClampNeg = F := by rw [hF]; exact nI_clamp (by omega)
  have hin : inb (nI F) 60 = true := by grind [gI, gB, gC]
  suffices k : Ok (F_X7_note 0 κ ab e n y σ) (fun r => r = (nI F, noteS σ F κ ab e n y)) by
    obtain ⟨r, h1, h2⟩ := k
    rw [h1, h2]
  unfold F_X7_note
  refine Ok_t (by grind [gI, gC]) (Ok_t (by rw [hF]; exact hin) ?_)
  rw [hc]
  unfold F_X7_note_21
  refine Ok_t (by simp only [mA_A, mL_A, mP_A, mA_L, mL_L, mP_L, upd_at]; simp; rw [hF]; exact hin) ?_
  unfold F_X7_note_31
  refine Ok_t (by simp only [mA_A, mL_A, mP_A, mA_L, mL_L, mP_L, upd_at]; simp; rw [hF]; exact hin) ?_
  unfold F_X7_note_41
  refine Ok_t (by simp only [mA_A, mL_A, mP_A, mA_L, mL_L, mP_L, upd_at]; simp; rw [hF]; exact hin) ?_
  unfold F_X7_note_52
  refine Ok_t (by simp only [mA_A, mL_A, mP_A, mA_L, mL_L, mP_L, upd_at]; simp; rw [hF]; exact hin) ?_
  unfold F_X7_note_63 F_X7_note_73
  refine Ok_r (Prod.ext ?_ ?_)
  · simp only [mA_A, mL_A, mP_A, mA_L, mL_L, mP_L, upd_at]; simp; rw [hF]
  · unfold noteS
    simp [setA, mA, mL, mP, u3_at, hF, hc, nI_1, nI_clamp (show F < 2 ^ 31 by omega)]
theorem s_noteN {σ : Mm} {κ ab e n y : Int32} (h : ¬ mA σ 2 0 0 0 < 60) : F_X7_note 0 κ ab e n y σ = some (-1, σ) := by
  unfold F_X7_note
  rw [if_neg h]
theorem s_fact {σ : Mm} {F : Nat} {κ a b c : Int32} (hF : mA σ 3 0 38 0 = nI F) (h : F < 60) : F_X12_fact κ a b c σ = some (nI F, factS σ F κ a b c) := by
  have hc : (nI F).toNatClampNeg = F := nI_clamp (by omega)
  have hin : inb (nI F) 300 = true := by grind [gI, gB, gC]
  suffices k : Ok (F_X12_fact κ a b c σ) (fun r => r = (nI F, factS σ F κ a b c)) by
    obtain ⟨r, h1, h2⟩ := k
    rw [h1, h2]
  unfold F_X12_fact
  rw [c0, hF]
  refine Ok_t (by decide) (Ok_f (by grind [gI, gC]) (Ok_t (by decide) ?_))
  unfold F_X12_fact_21
  refine Ok_t hin ?_
  unfold F_X12_fact_29
  refine Ok_t hin ?_
  unfold F_X12_fact_37
  refine Ok_t hin ?_
  unfold F_X12_fact_45
  refine Ok_t hin ?_
  unfold F_X12_fact_54 F_X12_fact_64
  refine Ok_t (by decide) (Ok_t (by decide) ?_)
  refine Ok_r (Prod.ext rfl ?_)
  unfold factS
  simp [setA, mA, mL, mP, u3_at, hF, hc, nI_1]
theorem s_factN {σ : Mm} {κ a b c : Int32} (h : mA σ 3 0 38 0 = 60) : F_X12_fact κ a b c σ = some (-1, σ) := by
  unfold F_X12_fact
  rw [if_pos (show inb 0 5 = true by decide), c0, if_pos h]
/-- told and surveyed have changed, what is held has not -/
theorem Iv.upd {h : Nat → Bool} {σ τ : Mm} (hI : Iv h σ) (h9 : ∀ n, mP τ n = mP σ n) (h0 : ∀ k, mA τ 0 0 k = mA σ 0 0 k) (h1 : ∀ i k, 2 ≤ i → mA τ 1 i k = mA σ 1 i k) (h2 : ∀ i k, 1 ≤ i → mA τ 2 i k = mA σ 2 i k)
    (h3 : ∀ k f, k ≠ 28 → k ≠ 31 → sz k ≤ f → mA τ 3 0 k f = mA σ 3 0 k f) {D : DD} (hD : IvD τ (mP σ 0) 0 0 D) : Iv h τ := by
  obtain ⟨hP, hF, hT, hS, hH, -⟩ := hI
  have r3 : ∀ k, sz k = 0 → k ≠ 28 → k ≠ 31 → mA τ 3 0 k = mA σ 3 0 k := fun k hk k1 k2 => funext fun f => h3 k f k1 k2 (by omega)
  refine ⟨?_, ?_, ?_, ?_, ?_, D, ?_⟩
  · unfold IvP; rw [h9, h9, h9, h0 28]; exact hP
  · rw [h0, r3 0 rfl (by decide) (by decide)]; exact hF
  · exact hT.fr (by rw [h0]) (by rw [r3 0 rfl (by decide) (by decide)]) (h0 7) (r3 1 rfl (by decide) (by decide))
  · exact hS.fr (by rw [h0]) (by rw [r3 0 rfl (by decide) (by decide)]) (h0 3) (h0 4) (r3 45 rfl (by decide) (by decide)) (r3 46 rfl (by decide) (by decide))
  · intro j hj
    rw [r3 6 rfl (by decide) (by decide)]
    refine ⟨(hH j hj).1, fun e => ?_⟩
    obtain ⟨E, c, m, w⟩ := (hH j hj).2 e
    refine ⟨E, c.cong w ?_ (fun k x _ => by rw [h1 _ _ (by omega)]) ?_, m.cong w (fun k x hx => h3 k _ (fun z => by subst z; exact Nat.not_lt_zero _ hx) (fun z => by subst z; exact Nat.not_lt_zero _ hx) ?_), w⟩
    · simp only [h1 (2 + j) _ (by omega), and_self]
    · simp only [h2 (1 + j) _ (by omega)]; exact ⟨trivial, trivial, fun _ _ _ _ _ => trivial⟩
    · have : sz k * 1 ≤ sz k * (2 + j) := Nat.mul_le_mul_left _ (by omega)
      omega
  · rw [h9]; exact hD
/-- the class's side of a new fact -/
theorem RC_add {σ τ : Mm} {i : Nat} {D : DD} {κ ab e n y : Int32} (hC : RC σ i 0 D) (h1 : ∀ k, mA τ 1 i k = mA σ 1 i k) (h20 : mA τ 2 0 0 0 = nI (dN D 1 + 1)) (h21 : mA τ 2 0 0 1 = nI (cntF (D.2.1 4) (dN D 1) + (if κ = 0 then 1 else 0)))
    (r1 : mA τ 2 0 1 = upd (mA σ 2 0 1) (dN D 1) κ) (r2 : mA τ 2 0 2 = upd (mA σ 2 0 2) (dN D 1) ab) (r3 : mA τ 2 0 3 = upd (mA σ 2 0 3) (dN D 1) e) (r4 : mA τ 2 0 4 = upd (mA σ 2 0 4) (dN D 1) n) (r5 : mA τ 2 0 5 = upd (mA σ 2 0 5) (dN D 1) y) : RC τ i 0 (addF D κ ab e n y) := by
  obtain ⟨q1, q2, q3, q4, q5, q6, q7, q8⟩ := hC
  refine ⟨?_, ?_, ?_, ?_, ?_, ?_, ?_, ?_⟩
  · unfold RCn; rw [h1]; exact q1
  · intro t ht
    rw [h1, h1, h1, h1, addF_oth (Or.inl (by omega)), addF_oth (Or.inl (by omega)), addF_oth (Or.inl (by omega)), addF_oth (Or.inl (by omega))]
    exact q2 t ht
  · unfold RCd; rw [h1]; exact q3
  · intro k hk
    rw [h1, h1, h1, addF_oth (Or.inr (by omega)), addF_oth (Or.inr (by omega)), addF_oth (Or.inr (by omega))]
    exact q4 k hk
  · intro k hk
    rw [h1, addF_oth (Or.inr (by omega))]
    exact q5 k hk
  · unfold RCe segC; rw [h1, h1, h1, h1]; exact q6
  · unfold RCc segC; rw [h1, h1, h1, h1]; exact q7
  · refine ⟨h20, ?_, fun k hk => ?_⟩
    · rw [addF_F, addF_cnt1]; exact h21
    · rw [r1, r2, r3, r4, r5]
      simp only [upd_at]
      by_cases hk2 : k = dN D 1
      · subst hk2
        simp only [if_true]
        exact ⟨addF_4.symm, addF_5.symm, addF_6.symm, addF_7.symm, addF_8.symm⟩
      · have hk3 : k < dN D 1 := by rw [addF_F] at hk; omega
        simp only [if_neg hk2, addF_old hk3]
        exact q8.2.2 k hk3
/-- the model's side of a new fact; the rows of things as they are, or with a new thing -/
theorem RM_add {σ τ : Mm} {D : DD} {κ ab e n y a b c : Int32} (hM : RM σ 0 D) (hW : WF D)
    (hs : ∀ k, k ≠ 8 → ¬ (9 ≤ k ∧ k ≤ 13) → ¬ (38 ≤ k ∧ k ≤ 42) → mA τ 3 0 k = mA σ 3 0 k) (h8 : mA τ 3 0 8 0 = nI (nT D + (if κ = 0 then 1 else 0))) (h38 : mA τ 3 0 38 0 = nI (dN D 1 + 1))
    (ht : ∀ k x, 9 ≤ k → k ≤ 13 → x < nT D → mA τ 3 0 k x = mA σ 3 0 k x)
    (hn : κ = 0 → mA τ 3 0 10 (nT D) = e ∧ mA τ 3 0 11 (nT D) = n ∧ mA τ 3 0 12 (nT D) = y ∧ mA τ 3 0 9 (nT D) = 0 ∧ mA τ 3 0 13 (nT D) = nI (dN D 1))
    (r1 : mA τ 3 0 39 = upd (mA σ 3 0 39) (dN D 1) κ) (r2 : mA τ 3 0 40 = upd (mA σ 3 0 40) (dN D 1) a) (r3 : mA τ 3 0 41 = upd (mA σ 3 0 41) (dN D 1) b) (r4 : mA τ 3 0 42 = upd (mA σ 3 0 42) (dN D 1) c)
    (hv : (κ ≠ 4 → a = ab) ∧ (κ = 4 → a = -1 ∧ b = ab) ∧ ((κ = 0 ∨ κ = 1) → b = e ∧ c = n) ∧ (κ = 3 → b = y)) : RM τ 0 (addF D κ ab e n y) := by
  obtain ⟨q1, q2, q3, q4, q5, q6, q7, q8⟩ := hM
  have hs' : ∀ k, (k = 7 ∨ (14 ≤ k ∧ k ≤ 37)) → mA τ 3 0 k = mA σ 3 0 k := fun k hk => hs k (by omega) (by omega) (by omega)
  have nTe : nT (addF D κ ab e n y) = nT D + (if κ = 0 then 1 else 0) := by
    unfold nT
    rw [addF_F, addF_cnt1]
    show dN D 0 + (_ + _) = _
    omega
  refine ⟨?_, ?_, ?_, ?_, ?_, ?_, ?_, ?_⟩
  · unfold RMn
    rw [hs' 7 (by omega), hs' 14 (by omega), hs' 17 (by omega), hs' 21 (by omega), hs' 25 (by omega), nTe]
    exact ⟨q1.1, h8, q1.2.2.1, q1.2.2.2.1, q1.2.2.2.2.1, q1.2.2.2.2.2.1, h38⟩
  · refine ⟨fun t h => ?_, fun k hk h0 => ?_⟩
    · have hz : 14 * 0 + t < nT D := by unfold nT; show _ < dN D 0 + _; have : t < dN D 0 := h; omega
      rw [ht 9 _ (by omega) (by omega) hz, ht 10 _ (by omega) (by omega) hz, ht 11 _ (by omega) (by omega) hz, ht 12 _ (by omega) (by omega) hz, ht 13 _ (by omega) (by omega) hz, addF_oth (Or.inl (by omega)), addF_oth (Or.inl (by omega)), addF_oth (Or.inl (by omega)), addF_oth (Or.inl (by omega))]
      exact q2.1 t h
    · by_cases hk2 : k = dN D 1
      · subst hk2
        rw [addF_cnt (Nat.le_refl _), addF_6, addF_7, addF_8]
        rw [addF_4] at h0
        have := hn h0
        rw [show 14 * 0 + (dN (addF D κ ab e n y) 0 + cntF (D.2.1 4) (dN D 1)) = nT D by unfold nT; show 14 * 0 + (dN D 0 + _) = dN D 0 + _; omega]
        exact this
      · have hk3 : k < dN D 1 := by rw [addF_F] at hk; omega
        rw [addF_old hk3] at h0
        have hz : 14 * 0 + (dN D 0 + cntF (D.2.1 4) k) < nT D := by
          unfold nT
          have := cntF_lt (f := D.2.1 4) hk3 h0
          omega
        rw [addF_cnt (by omega), addF_old hk3, addF_old hk3, addF_old hk3]
        show mA τ 3 0 10 (14 * 0 + (dN D 0 + _)) = _ ∧ mA τ 3 0 11 (14 * 0 + (dN D 0 + _)) = _ ∧ mA τ 3 0 12 (14 * 0 + (dN D 0 + _)) = _ ∧ mA τ 3 0 9 (14 * 0 + (dN D 0 + _)) = _ ∧ mA τ 3 0 13 (14 * 0 + (dN D 0 + _)) = _
        rw [ht 9 _ (by omega) (by omega) hz, ht 10 _ (by omega) (by omega) hz, ht 11 _ (by omega) (by omega) hz, ht 12 _ (by omega) (by omega) hz, ht 13 _ (by omega) (by omega) hz]
        exact q2.2 k hk3 h0
  · intro k hk
    rw [r1, r2, r3, r4]
    simp only [upd_at, Nat.mul_zero, Nat.zero_add]
    by_cases hk2 : k = dN D 1
    · subst hk2
      simp only [if_true]
      rw [addF_4, addF_5, addF_6, addF_7, addF_8]
      exact ⟨rfl, hv⟩
    · have hk3 : k < dN D 1 := by rw [addF_F] at hk; omega
      simp only [if_neg hk2, addF_old hk3]
      have := q3 k hk3
      simp only [Nat.mul_zero, Nat.zero_add] at this
      exact this
  · unfold RMd
    rw [hs' 15 (by omega), hs' 16 (by omega)]
    exact q4
  · intro k hk
    rw [hs' 18 (by omega), hs' 19 (by omega), hs' 20 (by omega), addF_oth (Or.inr (by omega)), addF_oth (Or.inr (by omega)), addF_oth (Or.inr (by omega))]
    exact q5 k hk
  · intro p hp
    rw [hs' 22 (by omega), addF_oth (Or.inr (by omega))]
    exact q6 p hp
  · unfold RMe segM
    rw [hs' 23 (by omega), hs' 24 (by omega), hs' 29 (by omega), hs' 30 (by omega)]
    exact q7
  · unfold RMc segM
    rw [hs' 26 (by omega), hs' 27 (by omega), hs' 29 (by omega), hs' 30 (by omega), hs' 32 (by omega), hs' 33 (by omega), hs' 34 (by omega), hs' 35 (by omega), hs' 36 (by omega), hs' 37 (by omega)]
    exact q8
/-- a fact that is no new thing: both sides -/
theorem add_both {h : Nat → Bool} {σ : Mm} (hI : Iv h σ) {D : DD} (hD : IvD σ (mP σ 0) 0 0 D) {κ ab e n y a b c : Int32} (hF : dN D 1 < 60) (hκ : κ ≠ 0) (hf : wfF (addF D κ ab e n y) (dN D 1))
    (hv : (κ ≠ 4 → a = ab) ∧ (κ = 4 → a = -1 ∧ b = ab) ∧ ((κ = 0 ∨ κ = 1) → b = e ∧ c = n) ∧ (κ = 3 → b = y)) :
    Iv h (factS (noteS σ (dN D 1) κ ab e n y) (dN D 1) κ a b c) ∧ (∀ τ, τ = noteS σ (dN D 1) κ ab e n y → mA τ 3 0 38 0 = nI (dN D 1)) := by
  obtain ⟨hC, hM, hW⟩ := hD
  refine ⟨hI.upd (D := addF D κ ab e n y) (fun _ => rfl) (fun _ => rfl) (fun i k hi => ?_) (fun i k hi => ?_) (fun k f _ _ hk => ?_) ⟨?_, ?_, ?_⟩, fun τ hτ => ?_⟩
  · simp [factS, noteS, mA, u3_at]
  · simp [factS, noteS, mA, u3_at, show ¬ i = 0 by omega]
  · by_cases k38 : k = 38
    · subst k38; have : 1 ≤ f := hk; simp [factS, noteS, mA, u3_at, upd_at, show ¬ f = 0 by omega]
    by_cases k39 : k = 39
    · subst k39; have : 60 ≤ f := hk; simp [factS, noteS, mA, u3_at, upd_at, show ¬ f = dN D 1 by omega]
    by_cases k40 : k = 40
    · subst k40; have : 60 ≤ f := hk; simp [factS, noteS, mA, u3_at, upd_at, show ¬ f = dN D 1 by omega]
    by_cases k41 : k = 41
    · subst k41; have : 60 ≤ f := hk; simp [factS, noteS, mA, u3_at, upd_at, show ¬ f = dN D 1 by omega]
    by_cases k42 : k = 42
    · subst k42; have : 60 ≤ f := hk; simp [factS, noteS, mA, u3_at, upd_at, show ¬ f = dN D 1 by omega]
    simp [factS, noteS, mA, u3_at, k38, k39, k40, k41, k42]
  · refine RC_add hC (fun k => ?_) ?_ ?_ ?_ ?_ ?_ ?_ ?_
    · simp [factS, noteS, mA, u3_at]
    · simp [factS, noteS, mA, u3_at, upd_at]
    · simp [factS, noteS, mA, u3_at, upd_at, hκ]; exact hC.2.2.2.2.2.2.2.2.1
    all_goals simp [factS, noteS, mA, u3_at]
  · refine RM_add hM hW (a := a) (b := b) (c := c) (fun k k1 k2 k3 => ?_) ?_ ?_ (fun k x k1 k2 _ => ?_) (fun z => absurd z hκ) ?_ ?_ ?_ ?_ hv
    · funext f
      simp only [factS, noteS, mA, u3_at, upd_at]
      simp [show ¬ k = 38 by omega, show ¬ k = 39 by omega, show ¬ k = 40 by omega, show ¬ k = 41 by omega, show ¬ k = 42 by omega]
    · simp [factS, noteS, mA, u3_at, hκ]; exact hM.1.2.1
    · simp [factS, noteS, mA, u3_at, upd_at]
    · simp [factS, noteS, mA, u3_at, show ¬ k = 38 by omega, show ¬ k = 39 by omega, show ¬ k = 40 by omega, show ¬ k = 41 by omega, show ¬ k = 42 by omega]
    all_goals simp [factS, noteS, mA, u3_at]
  · exact addF_WF hW hF (fun z => absurd z hκ) hf
  · subst hτ
    simp [noteS, mA, u3_at]
    exact hM.1.2.2.2.2.2.2
