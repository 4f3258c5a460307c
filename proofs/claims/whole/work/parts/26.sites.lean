theorem IvS.fr {σ τ : Mm} (h : IvS σ) (a : mA τ 0 0 0 12 = mA σ 0 0 0 12) (b : mA τ 3 0 0 52 = mA σ 3 0 0 52) (c : mA τ 0 0 3 = mA σ 0 0 3) (d : mA τ 0 0 4 = mA σ 0 0 4) (e : mA τ 3 0 45 = mA σ 3 0 45) (f : mA τ 3 0 46 = mA σ 3 0 46) : IvS τ := by
  unfold IvS; rw [a, b, c, d, e, f]; exact h
theorem IvT.fr {σ τ : Mm} (h : IvT σ) (a : mA τ 0 0 6 0 = mA σ 0 0 6 0) (b : mA τ 3 0 0 0 = mA σ 3 0 0 0) (c : mA τ 0 0 7 = mA σ 0 0 7) (d : mA τ 3 0 1 = mA σ 3 0 1) : IvT τ := by
  unfold IvT; rw [a, b, c, d]; exact h
theorem p_back {h : Nat → Bool} {σ : Mm} (hI : Iv h σ) (x : Int32) : ∃ (r : Int32) (σ1 : Mm) (σ2 : Mm), F_X11_back x σ = some (r, σ1) ∧ F_X12_back x σ1 = some (r, σ2) ∧ Iv h σ2 := by
  obtain ⟨b, hb, hc, hm, hk⟩ := hI.2.2.1
  by_cases hr : 0 ≤ x ∧ x ≤ nI b
  · obtain ⟨n, hn, rfl⟩ : ∃ n : Nat, n ≤ b ∧ x = nI n := ⟨x.toNatClampNeg, by grind [gI, gC], by grind [gI, gC]⟩
    have k1 : Ok (F_X11_back (nI n) σ) (fun r => r.1 = nI (b - n) ∧ mA r.2 0 0 6 0 = nI (b - n)) := by
      unfold F_X11_back
      refine Ok_f (by grind [gI, gC]) (Ok_t (by grind [gI, gC]) ?_)
      unfold F_X11_back_30
      refine Ok_r ?_
      simp only [mA_A, mL_A, mP_A, mA_L, mL_L, mP_L, upd_at]
      simp [hc, pk_sub hn]
    obtain ⟨⟨r, σ1⟩, e1, q1, t1⟩ := k1
    have f1 := fr_X11_back _ e1
    have hm1 : mA σ1 3 0 0 0 = nI b := (f1.fld 0 rfl).trans hm
    have k2 : Ok (F_X12_back (nI n) σ1) (fun r => r.1 = nI (b - n) ∧ mA r.2 3 0 0 0 = nI (b - n)) := by
      unfold F_X12_back
      refine Ok_f (by grind [gI, gC]) (Ok_t (by grind [gI, gC]) ?_)
      unfold F_X12_back_24
      refine Ok_r ?_
      simp only [mA_A, mL_A, mP_A, mA_L, mL_L, mP_L, upd_at]
      simp [hm1, pk_sub hn]
    obtain ⟨⟨r2, σ2⟩, e2, q2, t2⟩ := k2
    have f2 := fr_X12_back _ e2
    simp only at q1 q2 t1 t2
    subst q1 q2
    have f : Fr WT σ σ2 := (f1.sub rfl).trans (f2.sub rfl)
    have g7 : mA σ2 0 0 7 = mA σ 0 0 7 := (f2.row 0 rfl).trans (f1.row 0 rfl)
    have g1 : mA σ2 3 0 1 = mA σ 3 0 1 := (f2.row 0 rfl).trans (f1.row 0 rfl)
    refine ⟨_, σ1, σ2, e1, e2, hI.frT f rfl rfl rfl rfl (fun _ => rfl) ?_ ?_ ?_⟩
    · rw [f.fld 0 rfl, f.fld 0 rfl]; exact hI.2.1
    · refine ⟨b - n, by omega, ?_, t2, fun k hk2 => ?_⟩
      · rw [f2.fld 0 rfl]; exact t1
      · rw [g7, g1]; exact hk k (by omega)
    · exact hI.2.2.2.1.fr (f.fld 0 rfl) (f.fld 0 rfl) (f.row 0 rfl) (f.row 0 rfl) (f.row 0 rfl) (f.row 0 rfl)
  · refine ⟨-1, σ, σ, ?_, ?_, hI⟩
    · unfold F_X11_back; rw [hc]
      by_cases h0 : x < 0
      · rw [if_pos h0]
      · rw [if_neg h0, if_neg (by grind [gI, gC])]
    · unfold F_X12_back; rw [hm]
      by_cases h0 : x < 0
      · rw [if_pos h0]
      · rw [if_neg h0, if_neg (by grind [gI, gC])]
def WS : List (Nat × Nat × Nat) := [(0, 0, 12), (0, 3, 999), (0, 4, 999), (3, 0, 52), (3, 45, 999), (3, 46, 999)]
theorem p_clear {h : Nat → Bool} {σ : Mm} (hI : Iv h σ) : ∃ (r : Int32) (σ1 : Mm) (σ2 : Mm), F_X11_clear σ = some (r, σ1) ∧ F_X12_clear σ1 = some (r, σ2) ∧ Iv h σ2 := by
  obtain ⟨n, hn, hc, hm, hk⟩ := hI.2.2.2.1
  have k1 : Ok (F_X11_clear σ) (fun r => r.1 = nI n ∧ mA r.2 0 0 0 12 = nI 0) := by
    unfold F_X11_clear F_X11_clear_10
    refine Ok_r ?_
    simp only [mA_A, mL_A, mP_A, mA_L, mL_L, mP_L, upd_at]
    simp [hc, nI_0]
  obtain ⟨⟨r, σ1⟩, e1, q1, t1⟩ := k1
  have f1 := fr_X11_clear _ e1
  have hm1 : mA σ1 3 0 0 52 = nI n := (f1.fld 0 rfl).trans hm
  have k2 : Ok (F_X12_clear σ1) (fun r => r.1 = nI n ∧ mA r.2 3 0 0 52 = nI 0) := by
    unfold F_X12_clear F_X12_clear_10
    refine Ok_r ?_
    simp only [mA_A, mL_A, mP_A, mA_L, mL_L, mP_L, upd_at]
    simp [hm1, nI_0]
  obtain ⟨⟨r2, σ2⟩, e2, q2, t2⟩ := k2
  have f2 := fr_X12_clear _ e2
  simp only at q1 q2 t1 t2
  subst q1 q2
  have f : Fr WS σ σ2 := (f1.sub rfl).trans (f2.sub rfl)
  refine ⟨_, σ1, σ2, e1, e2, hI.frT f rfl rfl rfl rfl (fun _ => rfl) ?_ ?_ ?_⟩
  · rw [f.fld 0 rfl, f.fld 0 rfl]; exact hI.2.1
  · exact hI.2.2.1.fr (f.fld 0 rfl) (f.fld 0 rfl) (f.row 0 rfl) (f.row 0 rfl)
  · exact ⟨0, by omega, (f2.fld 0 rfl).trans t1, t2, fun k hk => absurd hk (by omega)⟩
theorem p_site {h : Nat → Bool} {σ : Mm} (hI : Iv h σ) (x y : Int32) : ∃ (r : Int32) (σ1 : Mm) (σ2 : Mm), F_X11_site x y σ = some (r, σ1) ∧ F_X12_site x y σ1 = some (r, σ2) ∧ Iv h σ2 := by
  obtain ⟨n, hn, hc, hm, hk⟩ := hI.2.2.2.1
  by_cases hr : n < 6 ∧ rIn x 359 ∧ rIn y 359
  · obtain ⟨h6, ⟨hx0, hx1⟩, hy0, hy1⟩ := hr
    have k1 : Ok (F_X11_site x y σ) (fun r => r.1 = nI n ∧ mA r.2 0 0 0 12 = nI (n + 1) ∧ mA r.2 0 0 3 = upd (mA σ 0 0 3) n x ∧ mA r.2 0 0 4 = upd (mA σ 0 0 4) n y) := by
      unfold F_X11_site
      refine Ok_f (by grind [gI, gC]) (Ok_f (by grind [f_X11_isDegree]) (Ok_f (by grind [f_X11_isDegree]) (Ok_t (by grind [gI, gB, gC]) ?_)))
      unfold F_X11_site_35
      refine Ok_t ?_ ?_
      · simp only [mA_A, mL_A, mP_A, mA_L, mL_L, mP_L, upd_at]; simp; grind [gI, gB, gC]
      unfold F_X11_site_45 F_X11_site_55
      refine Ok_r ⟨?_, ?_, ?_, ?_⟩
      · simp only [mA_A, mL_A, mP_A, mA_L, mL_L, mP_L, upd_at]; simp [hc]
      · simp only [mA_A, mL_A, mP_A, mA_L, mL_L, mP_L, upd_at]; simp [hc]; exact nI_1 n
      · funext k; simp only [mA_A, mL_A, mP_A, mA_L, mL_L, mP_L, upd_at]; simp [hc, nI_clamp (show n < 2 ^ 31 by omega)]
      · funext k; simp only [mA_A, mL_A, mP_A, mA_L, mL_L, mP_L, upd_at]; simp [hc, nI_clamp (show n < 2 ^ 31 by omega)]
    obtain ⟨⟨r, σ1⟩, e1, q1, t1, t3, t4⟩ := k1
    have f1 := fr_X11_site _ e1
    have hm1 : mA σ1 3 0 0 52 = nI n := (f1.fld 0 rfl).trans hm
    have k2 : Ok (F_X12_site x y σ1) (fun r => r.1 = nI n ∧ mA r.2 3 0 0 52 = nI (n + 1) ∧ mA r.2 3 0 45 = upd (mA σ1 3 0 45) n x ∧ mA r.2 3 0 46 = upd (mA σ1 3 0 46) n y) := by
      unfold F_X12_site
      refine Ok_f (by grind [gI, gC]) (Ok_f (by grind [f_X12_isIn]) (Ok_f (by grind [f_X12_isIn]) (Ok_t (by grind [gI, gB, gC]) ?_)))
      unfold F_X12_site_43
      refine Ok_t ?_ ?_
      · simp only [mA_A, mL_A, mP_A, mA_L, mL_L, mP_L, upd_at]; simp; grind [gI, gB, gC]
      unfold F_X12_site_53 F_X12_site_63
      refine Ok_r ⟨?_, ?_, ?_, ?_⟩
      · simp only [mA_A, mL_A, mP_A, mA_L, mL_L, mP_L, upd_at]; simp [hm1]
      · simp only [mA_A, mL_A, mP_A, mA_L, mL_L, mP_L, upd_at]; simp [hm1]; exact nI_1 n
      · funext k; simp only [mA_A, mL_A, mP_A, mA_L, mL_L, mP_L, upd_at]; simp [hm1, nI_clamp (show n < 2 ^ 31 by omega)]
      · funext k; simp only [mA_A, mL_A, mP_A, mA_L, mL_L, mP_L, upd_at]; simp [hm1, nI_clamp (show n < 2 ^ 31 by omega)]
    obtain ⟨⟨r2, σ2⟩, e2, q2, u1, u3', u4'⟩ := k2
    have f2 := fr_X12_site _ e2
    simp only at q1 q2 t1 t3 t4 u1 u3' u4'
    subst q1 q2
    have f : Fr WS σ σ2 := (f1.sub rfl).trans (f2.sub rfl)
    refine ⟨_, σ1, σ2, e1, e2, hI.frT f rfl rfl rfl rfl (fun _ => rfl) ?_ ?_ ?_⟩
    · rw [f.fld 0 rfl, f.fld 0 rfl]; exact hI.2.1
    · exact hI.2.2.1.fr (f.fld 0 rfl) (f.fld 0 rfl) (f.row 0 rfl) (f.row 0 rfl)
    · refine ⟨n + 1, by omega, (f2.fld 0 rfl).trans t1, u1, fun k hk2 => ?_⟩
      rw [f2.row (t := 0) (k := 3) 0 rfl, f2.row (t := 0) (k := 4) 0 rfl, t3, t4, u3', u4', f1.row (t := 3) (k := 45) 0 rfl, f1.row (t := 3) (k := 46) 0 rfl]
      simp only [upd_at]
      by_cases hkn : k = n
      · subst hkn; simp only [if_true]; exact ⟨trivial, trivial, ⟨hx0, hx1⟩, hy0, hy1⟩
      · simp only [if_neg hkn]; exact hk k (by omega)
  · refine ⟨-1, σ, σ, ?_, ?_, hI⟩
    · unfold F_X11_site; rw [hc]
      simp only [rIn] at hr
      by_cases h0 : (6 : Int32) ≤ nI n
      · rw [if_pos h0]
      · rw [if_neg h0]
        by_cases h1 : f_X11_isDegree x = 0
        · rw [if_pos h1]
        · rw [if_neg h1, if_pos (by grind [gI, f_X11_isDegree])]
    · unfold F_X12_site; rw [hm]
      simp only [rIn] at hr
      by_cases h0 : nI n = 6
      · rw [if_pos h0]
      · rw [if_neg h0]
        by_cases h1 : f_X12_isIn x 0 359 = 0
        · rw [if_pos h1]
        · rw [if_neg h1, if_pos (by grind [gI, f_X12_isIn])]
theorem thingsInAll_eq {σ : Mm} {D : DD} (hD : RC σ (mP σ 0) 0 D) : f_X11_thingsInAll σ = nI (nT D) := by
  unfold f_X11_thingsInAll nT
  rw [hD.1.2.1, hD.2.2.2.2.2.2.2.2.1, nI_add]
theorem l_slotsHeld (h : Nat → Bool) (σ : Mm) : F_X11_slotsHeld h σ = some (((if h 0 then 1 else 0) + if h 1 then 1 else 0) + if h 2 then 1 else 0, σ) := by
  unfold F_X11_slotsHeld
  rw [show FU = 999996 + 1 + 1 + 1 + 1 from rfl]
  have e : ∀ n, F_X11_slotsHeld_4 h (n + 1) = B_X11_slotsHeld_4 h (F_X11_slotsHeld_4 h n) := fun _ => rfl
  have i0 : inb 0 3 = true := by decide
  have i1 : inb 1 3 = true := by decide
  have i2 : inb 2 3 = true := by decide
  rw [e]; unfold B_X11_slotsHeld_4 F_X11_slotsHeld_21
  rw [e]; unfold B_X11_slotsHeld_4 F_X11_slotsHeld_21
  rw [e]; unfold B_X11_slotsHeld_4 F_X11_slotsHeld_21
  rw [e]; unfold B_X11_slotsHeld_4
  have z0 : (0 : Int32).toNatClampNeg = 0 := rfl
  have z1 : ((0 : Int32) + 1).toNatClampNeg = 1 := rfl
  have z2 : ((0 : Int32) + 1 + 1).toNatClampNeg = 2 := rfl
  have j1 : inb ((0 : Int32) + 1) 3 = true := by decide
  have j2 : inb ((0 : Int32) + 1 + 1) 3 = true := by decide
  have k0 : ¬ (3 : Int32) ≤ 0 := by decide
  have k1 : ¬ (3 : Int32) ≤ 0 + 1 := by decide
  have k2 : ¬ (3 : Int32) ≤ 0 + 1 + 1 := by decide
  have k3 : (3 : Int32) ≤ 0 + 1 + 1 + 1 := by decide
  simp only [z0, z1, z2, i0, j1, j2, k0, k1, k2, k3, if_true, if_false]
  cases h 0 <;> cases h 1 <;> cases h 2 <;> rfl
theorem p_count {h : Nat → Bool} {σ : Mm} (hI : Iv h σ) (x : Int32) : ∃ (r : Int32) (σ1 : Mm) (σ2 : Mm), F_X11_count h x σ = some (r, σ1) ∧ F_X12_count x σ1 = some (r, σ2) ∧ Iv h σ2 := by
  obtain ⟨b, hb, hc, hm, -⟩ := id hI.2.2.1
  obtain ⟨n, hn, hc2, hm2, -⟩ := id hI.2.2.2.1
  obtain ⟨D, hC, hM, hW⟩ := id hI.2.2.2.2.2
  have oP := okP_of hI.1
  obtain ⟨c1, c2, c3, c4, c5, c6⟩ := hC.1
  obtain ⟨m1, m2, m3, m4, m5, m6, m7⟩ := hM.1
  have g0 := (hI.2.2.2.2.1 0 (by omega)).1
  have g1 := (hI.2.2.2.2.1 1 (by omega)).1
  have g2 := (hI.2.2.2.2.1 2 (by omega)).1
  have f1 := hC.2.2.2.2.2.2.2.1
  have t0 := thingsInAll_eq hC
  have z0 : (0 : Int32).toNatClampNeg = 0 := rfl
  have z2 : (2 : Int32).toNatClampNeg = 2 := rfl
  have z3 : (3 : Int32).toNatClampNeg = 3 := rfl
  have z4 : (4 : Int32).toNatClampNeg = 4 := rfl
  have i0 : inb 0 5 = true := by decide
  have i2 : inb 2 5 = true := by decide
  have i3 : inb 3 5 = true := by decide
  have i4 : inb 4 5 = true := by decide
  have key : ∃ r, F_X11_count h x σ = some (r, σ) ∧ F_X12_count x σ = some (r, σ) := by
    unfold F_X11_count F_X11_count_126 F_X12_count F_X12_count_129 F_X12_count_143
    simp only [l_slotsHeld, z0, z2, z3, z4, i0, i2, i3, i4, oP, if_true, c1, c2, c3, c4, c5, c6, m1, m2, m3, m4, m5, m6, m7, hc, hm, hc2, hm2, f1, t0, g0, g1, g2]
    by_cases x9 : x = 9
    · subst x9
      have n0 : ¬ (9 : Int32) = 0 := by decide
      have n1 : ¬ (9 : Int32) = 1 := by decide
      have n2 : ¬ (9 : Int32) = 2 := by decide
      have n3 : ¬ (9 : Int32) = 3 := by decide
      have n4 : ¬ (9 : Int32) = 4 := by decide
      have n5 : ¬ (9 : Int32) = 5 := by decide
      have n6 : ¬ (9 : Int32) = 6 := by decide
      have n7 : ¬ (9 : Int32) = 7 := by decide
      have n8 : ¬ (9 : Int32) = 8 := by decide
      simp only [n0, n1, n2, n3, n4, n5, n6, n7, n8, if_true, if_false]
      refine ⟨_, rfl, ?_⟩
      cases h 0 <;> cases h 1 <;> cases h 2 <;> rfl
    · simp only [x9, if_false]
      repeat' split
      all_goals exact ⟨_, rfl, rfl⟩
  obtain ⟨r, e1, e2⟩ := key
  exact ⟨r, σ, σ, e1, e2, hI⟩
