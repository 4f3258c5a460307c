/-! hold and again -/
/-- instance i0 of t has become what instance i1 was, as far as fields dF and rows dR -/
def CQ (n : Nat → Nat) (σ0 : Mm) (t i0 i1 : Nat) (dF dR : List Nat) (σ : Mm) : Prop :=
  (∀ t' i k f, ¬ (t' = t ∧ i = i0) → mA σ t' i k f = mA σ0 t' i k f) ∧ (∀ f, f ∈ dF → mA σ t i0 0 f = mA σ0 t i1 0 f) ∧ (∀ k, k ∈ dR → ∀ x, x < n k → mA σ t i0 k x = mA σ0 t i1 k x)
section CQ
variable {n : Nat → Nat} {σ0 σ : Mm} {t i0 i1 : Nat} {dF dR : List Nat}
theorem CQ.fld (h : CQ n σ0 t i0 i1 dF dR σ) (hne : i1 ≠ i0) (h0 : ∀ k, k ∈ dR → k ≠ 0) (j : Nat) : CQ n σ0 t i0 i1 (j :: dF) dR (setA σ t i0 0 (upd (mA σ t i0 0) j (mA σ t i1 0 j))) := by
  refine ⟨fun t' i k f hn => ?_, fun f hf => ?_, fun k hk x hx => ?_⟩
  · simp only [mA_A, mL_A, mP_A, mA_L, mL_L, mP_L, upd_at]
    rw [if_neg (fun z => hn ⟨z.1, z.2.1⟩)]; exact h.1 t' i k f hn
  · simp only [mA_A, mL_A, mP_A, mA_L, mL_L, mP_L, upd_at]
    simp only [and_self, if_true]
    by_cases e : f = j
    · rw [if_pos e, e]; exact h.1 _ _ _ _ (fun z => hne z.2)
    · rw [if_neg e]
      exact h.2.1 f ((List.mem_cons.mp hf).resolve_left e)
  · simp only [mA_A, mL_A, mP_A, mA_L, mL_L, mP_L, upd_at]
    rw [if_neg (fun z => h0 k hk z.2.2)]; exact h.2.2 k hk x hx
theorem CQ.row (h : CQ n σ0 t i0 i1 dF dR σ) (hne : i1 ≠ i0) (k m : Nat) (hk0 : k ≠ 0) (hm : n k = m) : CQ n σ0 t i0 i1 dF (k :: dR) (setA σ t i0 k (va_cpy (mA σ t i1 k) (mA σ t i0 k) 0 0 m)) := by
  refine ⟨fun t' i k' f hn => ?_, fun f hf => ?_, fun k' hk x hx => ?_⟩
  · simp only [mA_A, mL_A, mP_A, mA_L, mL_L, mP_L, upd_at]
    rw [if_neg (fun z => hn ⟨z.1, z.2.1⟩)]; exact h.1 t' i k' f hn
  · simp only [mA_A, mL_A, mP_A, mA_L, mL_L, mP_L, upd_at]
    rw [if_neg (fun z => hk0 z.2.2.symm)]; exact h.2.1 f hf
  · simp only [mA_A, mL_A, mP_A, mA_L, mL_L, mP_L, upd_at]
    by_cases e : k' = k
    · subst e
      simp only [and_self, if_true]
      rw [sb_cpy0 (by omega)]; exact h.1 _ _ _ _ (fun z => hne z.2)
    · rw [if_neg (fun z => e z.2.2)]
      exact h.2.2 k' ((List.mem_cons.mp hk).resolve_left e) x hx
theorem CQ.oth (h : CQ n σ0 t i0 i1 dF dR σ) (k : Nat) (hk0 : k ≠ 0) (hk : k ∉ dR) (g : Nat → Int32) : CQ n σ0 t i0 i1 dF dR (setA σ t i0 k g) := by
  refine ⟨fun t' i k' f hn => ?_, fun f hf => ?_, fun k' hk' x hx => ?_⟩
  · simp only [mA_A, mL_A, mP_A, mA_L, mL_L, mP_L, upd_at]
    rw [if_neg (fun z => hn ⟨z.1, z.2.1⟩)]; exact h.1 t' i k' f hn
  · simp only [mA_A, mL_A, mP_A, mA_L, mL_L, mP_L, upd_at]
    rw [if_neg (fun z => hk0 z.2.2.symm)]; exact h.2.1 f hf
  · simp only [mA_A, mL_A, mP_A, mA_L, mL_L, mP_L, upd_at]
    rw [if_neg (fun (z : True ∧ True ∧ k' = k) => hk (z.2.2 ▸ hk'))]; exact h.2.2 k' hk' x hx
end CQ
theorem s_copyT {σ0 : Mm} {i0 i1 : Nat} (hne : i1 ≠ i0) : Ok (F_X9_copy i0 i1 σ0) (CQ szC σ0 1 i0 i1 [14, 12, 8, 6, 1, 0] [14, 13, 12, 11, 9, 8, 7, 6, 5, 4, 3, 2, 1]) := by
  have e14 : (14 : Int32).toNatClampNeg = 14 := rfl
  have e12 : (12 : Int32).toNatClampNeg = 12 := rfl
  have e5 : (5 : Int32).toNatClampNeg = 5 := rfl
  have e400 : (400 : Int32).toNatClampNeg = 400 := rfl
  have e11 : (11 : Int32).toNatClampNeg = 11 := rfl
  unfold F_X9_copy F_X9_copy_13 F_X9_copy_21 F_X9_copy_29 F_X9_copy_37 F_X9_copy_45 F_X9_copy_53 F_X9_copy_68 F_X9_copy_83 F_X9_copy_98 F_X9_copy_113 F_X9_copy_128 F_X9_copy_143 F_X9_copy_158 F_X9_copy_173 F_X9_copy_187
  unfold F_X0_copy F_X0_copy_8 F_X0_copy_24 F_X0_copy_40 F_X0_copy_55
  simp only [c0, e14, e12, e5, e400, e11, bnv_s]
  refine Ok_r ?_
  have h0 : CQ szC σ0 1 i0 i1 [] [] σ0 := ⟨fun _ _ _ _ _ => rfl, fun _ z => absurd z (List.not_mem_nil), fun _ z => absurd z (List.not_mem_nil)⟩
  have z0 : ∀ k, k ∈ ([] : List Nat) → k ≠ 0 := fun _ z => absurd z (List.not_mem_nil)
  have h1 := (((((h0.fld hne z0 0).fld hne z0 1).fld hne z0 6).fld hne z0 8).fld hne z0 12).fld hne z0 14
  have h2 := ((((((((h1.row hne 1 14 (by decide) rfl).row hne 2 14 (by decide) rfl).row hne 3 14 (by decide) rfl).row hne 4 14 (by decide) rfl).row hne 5 14 (by decide) rfl).row hne 6 12 (by decide) rfl).row hne 7 12 (by decide) rfl).row hne 8 12 (by decide) rfl).row hne 9 5 (by decide) rfl
  exact ((((h2.oth 10 (by decide) (by decide) _).row hne 11 400 (by decide) rfl).row hne 12 400 (by decide) rfl).row hne 13 11 (by decide) rfl).row hne 14 11 (by decide) rfl
theorem s_copyS {σ0 : Mm} {i0 i1 : Nat} (hne : i1 ≠ i0) : Ok (F_X7_copy i0 i1 σ0) (CQ (fun _ => 60) σ0 2 i0 i1 [1, 0] [5, 4, 3, 2, 1]) := by
  have e60 : (60 : Int32).toNatClampNeg = 60 := rfl
  unfold F_X7_copy F_X7_copy_13 F_X7_copy_21 F_X7_copy_36 F_X7_copy_51 F_X7_copy_66 F_X7_copy_81
  simp only [c0, e60]
  refine Ok_r ?_
  have h0 : CQ (fun _ => 60) σ0 2 i0 i1 [] [] σ0 := ⟨fun _ _ _ _ _ => rfl, fun _ z => absurd z (List.not_mem_nil), fun _ z => absurd z (List.not_mem_nil)⟩
  have z0 : ∀ k, k ∈ ([] : List Nat) → k ≠ 0 := fun _ z => absurd z (List.not_mem_nil)
  have h1 := (h0.fld hne z0 0).fld hne z0 1
  exact ((((h1.row hne 1 60 (by decide) rfl).row hne 2 60 (by decide) rfl).row hne 3 60 (by decide) rfl).row hne 4 60 (by decide) rfl).row hne 5 60 (by decide) rfl
theorem szC_mem {k x : Nat} (h : x < szC k) : k ∈ [14, 13, 12, 11, 9, 8, 7, 6, 5, 4, 3, 2, 1] := by
  unfold szC at h
  simp only [List.mem_cons, List.not_mem_nil, or_false]
  repeat' split at h
  all_goals omega
/-- both copies carry what is told and surveyed -/
theorem RC.copied {σ0 σ1 σ2 : Mm} {i0 i1 s0 s1 : Nat} {D : DD} (hW : WF D) (hC : RC σ0 i1 s1 D) (h1 : CQ szC σ0 1 i0 i1 [14, 12, 8, 6, 1, 0] [14, 13, 12, 11, 9, 8, 7, 6, 5, 4, 3, 2, 1] σ1) (h2 : CQ (fun _ => 60) σ1 2 s0 s1 [1, 0] [5, 4, 3, 2, 1] σ2) : RC σ2 i0 s0 D := by
  have a : ∀ k f, mA σ2 1 i0 k f = mA σ1 1 i0 k f := fun k f => h2.1 1 i0 k f (by omega)
  have b : ∀ k f, mA σ1 2 s1 k f = mA σ0 2 s1 k f := fun k f => h1.1 2 s1 k f (by omega)
  refine hC.cong hW ⟨?_, ?_, ?_, ?_, ?_, ?_⟩ (fun k x hx => ?_) ⟨?_, ?_, fun k x k1 k5 hx => ?_⟩
  · rw [a]; exact h1.2.1 0 (by decide)
  · rw [a]; exact h1.2.1 1 (by decide)
  · rw [a]; exact h1.2.1 6 (by decide)
  · rw [a]; exact h1.2.1 8 (by decide)
  · rw [a]; exact h1.2.1 12 (by decide)
  · rw [a]; exact h1.2.1 14 (by decide)
  · rw [a]; exact h1.2.2 k (szC_mem hx) x hx
  · rw [h2.2.1 0 (by decide), b]
  · rw [h2.2.1 1 (by decide), b]
  · rw [h2.2.2 k (by simp; omega) x hx, b]
theorem RM.copied {σ0 σ : Mm} {a b : Nat} {D : DD} (hW : WF D) (hM : RM σ0 a D) (h : CP σ0 a b cz σ) : RM σ b D := by
  refine hM.congG hW fun k x hx => ?_
  have hz : cz k = sz k := by
    unfold cz
    rw [if_neg]
    rintro (rfl | rfl) <;> exact Nat.not_lt_zero _ hx
  have := h.1 k (sz k * b + x)
  rw [hz, if_pos (by omega), show sz k * b + x - sz k * b + sz k * a = sz k * a + x by omega] at this
  unfold nb at this
  by_cases h9 : k = 9 ∨ k = 32
  · rw [if_pos h9] at this; exact Or.inr ⟨h9, this⟩
  · rw [if_neg h9] at this; exact Or.inl this
theorem p_again {h : Nat → Bool} {σ : Mm} (hI : Iv h σ) (x : Int32) : ∃ (r : Int32) (σ1 : Mm) (σ2 : Mm), F_X11_again h x σ = some (r, σ1) ∧ F_X12_again x σ1 = some (r, σ2) ∧ Iv h σ2 := by
  by_cases hx : x < 0 ∨ (3 : Int32) ≤ x
  · refine ⟨0, σ, σ, ?_, ?_, hI⟩
    · unfold F_X11_again
      by_cases h0 : x < 0
      · rw [if_pos h0]
      · rw [if_neg h0, if_pos (hx.resolve_left h0)]
    · unfold F_X12_again
      by_cases h0 : x < 0
      · rw [if_pos h0]
      · rw [if_neg h0, if_pos (by clear hI; grind)]
  obtain ⟨j, hj, rfl⟩ : ∃ j : Nat, j < 3 ∧ x = nI j := ⟨x.toNatClampNeg, by clear hI; grind [gI, gC], by clear hI; grind [gI, gC]⟩
  have hcj : (nI j).toNatClampNeg = j := nI_clamp (by omega)
  have i3 : inb (nI j) 3 = true := by clear hI; grind [gI, gB, gC]
  have e2 : (2 : Int32) + nI j = nI (2 + j) := nI_add 2 j
  have i5 : inb (nI (2 + j)) 5 = true := by clear hI; grind [gI, gB, gC]
  have hc2 : (nI (2 + j)).toNatClampNeg = 2 + j := nI_clamp (by omega)
  have n0 : ¬ nI j < 0 := by clear hI; grind [gI, gC]
  have n3 : ¬ (3 : Int32) ≤ nI j := by clear hI; grind [gI, gC]
  have n2 : ¬ (2 : Int32) < nI j := by clear hI; grind [gI, gC]
  have oP := okP_of hI.1
  obtain ⟨g1, g2⟩ := hI.2.2.2.2.1 j hj
  by_cases hh : h j = true
  · obtain ⟨E, hC, hM, hW⟩ := g2 hh
    have p0 : mP σ 0 < 2 := hI.1.1
    obtain ⟨σa, ea, ka⟩ := s_copyT (σ0 := σ) (i0 := mP σ 0) (i1 := 2 + j) (by omega)
    obtain ⟨σb, eb, kb⟩ := s_copyS (σ0 := σa) (i0 := 0) (i1 := 1 + j) (by omega)
    have e1 : F_X11_again h (nI j) σ = some (1, σb) := by
      unfold F_X11_again F_X11_again_42 F_X11_again_55
      rw [if_neg n0, if_neg n3, if_pos i3, hcj, if_pos hh, if_pos i3, if_pos hh, if_pos oP, if_pos i3, if_pos hh, ea, bnv_s, if_pos i3, if_pos hh, eb, bnv_s]
    have f1 := fr_X11_again _ e1
    obtain ⟨σc, ec, kc⟩ := cp_all (σ0 := σb) (a := 2 + j) (b := 0) (by omega) (by omega) (by omega)
    have g1' : mA σb 3 0 6 (2 + j) = 1 := by rw [f1.row (t := 3) (k := 6) 0 rfl, g1, if_pos hh]
    have e2' : F_X12_again (nI j) σb = some (1, σc) := by
      unfold F_X12_again F_X12_again_30
      rw [if_neg n0, if_neg n2, e2, if_pos i5, hc2, g1', if_neg ne10]
      have : (0 : Int32) = nI 0 := rfl
      rw [this, ec, bnv_s]
    have f2 := fr_X12_again _ e2'
    have hM1 : RM σb (2 + j) E := hM.frT hW f1 rfl
    refine ⟨1, σb, σc, e1, e2', ?_⟩
    have q1 : ∀ i k f, 2 ≤ i → mA σc 1 i k f = mA σ 1 i k f := fun i k f hi => by
      rw [f2.row (t := 1) (k := k) i (by rfl), kb.1 _ _ _ _ (by omega), ka.1 _ _ _ _ (by omega)]
    have q2 : ∀ i k f, 1 ≤ i → mA σc 2 i k f = mA σ 2 i k f := fun i k f hi => by
      rw [f2.row (t := 2) (k := k) i (by rfl), kb.1 _ _ _ _ (by omega), ka.1 _ _ _ _ (by omega)]
    refine hI.upd (D := E) (fun n => ?_) (fun k => ?_) (fun i k hi => funext fun f => q1 i k f hi) (fun i k hi => funext fun f => q2 i k f hi) (fun k f k1 k2 hk => ?_) ⟨?_, RM.copied hW hM1 kc, hW⟩
    · rw [f2.p (by rfl), f1.p (by rfl)]
    · funext f
      rw [f2.row (t := 0) (k := k) 0 (by rfl), kb.1 _ _ _ _ (by omega), ka.1 _ _ _ _ (by omega)]
    · have hz : cz k = sz k := by unfold cz; rw [if_neg (by omega)]
      rw [kc.1 k f, hz, if_neg (by omega), kb.1 _ _ _ _ (by omega), ka.1 _ _ _ _ (by omega)]
    · have hb : RC σb (mP σ 0) 0 E := RC.copied hW hC ka kb
      exact hb.frT f2 rfl
  · refine ⟨0, σ, σ, ?_, ?_, hI⟩
    · unfold F_X11_again
      rw [if_neg n0, if_neg n3, if_pos i3, hcj, if_neg hh]
    · unfold F_X12_again
      rw [if_neg n0, if_neg n2, e2, if_pos i5, hc2, g1, if_neg hh, if_pos rfl]
theorem p_hold {h : Nat → Bool} {σ : Mm} (hI : Iv h σ) (x : Int32) : ∃ (r : Int32) (h1 : Nat → Bool) (σ1 σ2 : Mm), F_hold h x σ = some (r, h1, σ1) ∧ F_X12_hold x σ1 = some (r, σ2) ∧ Iv h1 σ2 := by
  by_cases hx : x < 0 ∨ (3 : Int32) ≤ x
  · refine ⟨0, h, σ, σ, ?_, ?_, hI⟩
    · unfold F_hold
      by_cases h0 : x < 0
      · rw [if_pos h0]
      · rw [if_neg h0, if_pos (hx.resolve_left h0)]
    · unfold F_X12_hold
      by_cases h0 : x < 0
      · rw [if_pos h0]
      · rw [if_neg h0, if_neg (by clear hI; grind)]
  obtain ⟨j, hj, rfl⟩ : ∃ j : Nat, j < 3 ∧ x = nI j := ⟨x.toNatClampNeg, by clear hI; grind [gI, gC], by clear hI; grind [gI, gC]⟩
  have hcj : (nI j).toNatClampNeg = j := nI_clamp (by omega)
  have e2 : (2 : Int32) + nI j = nI (2 + j) := nI_add 2 j
  have i5 : inb (nI (2 + j)) 5 = true := by clear hI; grind [gI, gB, gC]
  have hc2 : (nI (2 + j)).toNatClampNeg = 2 + j := nI_clamp (by omega)
  have n0 : ¬ nI j < 0 := by clear hI; grind [gI, gC]
  have n3 : ¬ (3 : Int32) ≤ nI j := by clear hI; grind [gI, gC]
  have n2 : nI j ≤ (2 : Int32) := by clear hI; grind [gI, gC]
  obtain ⟨hP, hF, hT, hS, hH, D, hC, hM, hW⟩ := id hI
  have p0 : mP σ 0 < 2 := hP.1
  obtain ⟨σ0, hσ0⟩ : ∃ σ0 : Mm, σ0 = if h j = true then σ else iniS (iniT σ (2 + j)) (1 + j) := ⟨_, rfl⟩
  have a0 : ∀ t i k, ¬ (t = 1 ∧ i = 2 + j) → ¬ (t = 2 ∧ i = 1 + j) → mA σ0 t i k = mA σ t i k := by
    intro t i k h1 h2
    rw [hσ0]
    split
    · rfl
    · show (if _ then _ else if _ then _ else _) = _
      rw [if_neg h2, if_neg h1]
  have a9 : mP σ0 = mP σ := by rw [hσ0]; split <;> rfl
  have oP : okP σ0 = true := by
    have := okP_of hP
    unfold okP at this ⊢
    rw [a9]; exact this
  obtain ⟨σa, ea, ka⟩ := s_copyT (σ0 := σ0) (i0 := 2 + j) (i1 := mP σ0 0) (by rw [a9]; omega)
  obtain ⟨σb, eb, kb⟩ := s_copyS (σ0 := σa) (i0 := 1 + j) (i1 := 0) (by omega)
  have e1 : F_hold h (nI j) σ = some (1, (fun a => if a = j then true else h a), σb) := by
    unfold F_hold
    rw [if_neg n0, if_neg n3, hcj]
    simp only
    rw [← hσ0, if_pos oP, ea, bnv_s, eb, bnv_s]
  have f1 : ∀ t i k f, ¬ (t = 1 ∧ i = 2 + j) → ¬ (t = 2 ∧ i = 1 + j) → mA σb t i k f = mA σ t i k f := fun t i k f h1 h2 => by
    rw [kb.1 _ _ _ _ h2, ka.1 _ _ _ _ h1, a0 _ _ _ h1 h2]
  have f9 : mP σb = mP σ := by
    have g1 := fr_X9_copy _ ea
    have g2 := fr_X7_copy _ eb
    funext n
    rw [g2.p (by rfl), g1.p (by rfl), a9]
  obtain ⟨σc, ec, kc⟩ := cp_all (σ0 := σb) (a := 0) (b := 2 + j) (by omega) (by omega) (by omega)
  have fc := fr_X12_copy _ ec
  have e2' : F_X12_hold (nI j) σb = some (1, setA σc 3 0 6 (upd (mA σc 3 0 6) (2 + j) 1)) := by
    unfold F_X12_hold F_X12_hold_19 F_X12_hold_28
    have z1 : vp_nar .boolean 1 = 1 := by decide
    rw [if_neg n0, if_pos n2, e2]
    have : (0 : Int32) = nI 0 := rfl
    rw [this, ec, bnv_s, if_pos i5, hc2, z1]
  refine ⟨1, _, σb, _, e1, e2', ?_⟩
  have g : ∀ t i k f, t ≠ 3 → ¬ (t = 1 ∧ i = 2 + j) → ¬ (t = 2 ∧ i = 1 + j) → mA (setA σc 3 0 6 (upd (mA σc 3 0 6) (2 + j) 1)) t i k f = mA σ t i k f := fun t i k f h3 h1 h2 => by
    simp only [mA_A, mL_A, mP_A, mA_L, mL_L, mP_L, upd_at]
    rw [if_neg (fun z => h3 z.1), fc.fld (t := t) (k := k) (f := f) i, f1 _ _ _ _ h1 h2]
    unfold inW W_X12_copy
    have : ∀ q ∈ ([(3, 7, 999), (3, 8, 999)] : List (Nat × Nat × Nat)), q.1 = 3 := by decide
    cases hb : Nat.beq 3 t with
    | true => exact absurd (Nat.eq_of_beq_eq_true hb).symm h3
    | false => simp [hb]
  have r : ∀ k f, k ≠ 6 → sz k ≤ f ∨ (∃ b, b ≠ 2 + j ∧ ∃ x, x < sz k ∧ f = sz k * b + x) → k ≠ 28 → k ≠ 31 → mA (setA σc 3 0 6 (upd (mA σc 3 0 6) (2 + j) 1)) 3 0 k f = mA σ 3 0 k f ∨ True := fun _ _ _ _ _ _ => Or.inr trivial
  have m0 : ∀ k, k ≠ 6 → cz k = 0 → mA (setA σc 3 0 6 (upd (mA σc 3 0 6) (2 + j) 1)) 3 0 k = mA σ 3 0 k := fun k k6 hz => funext fun f => by
    simp only [mA_A, mL_A, mP_A, mA_L, mL_L, mP_L, upd_at]
    rw [if_neg (fun z => k6 z.2.2), kc.1 k f, hz, if_neg (by omega), f1 _ _ _ _ (by omega) (by omega)]
  have mb : ∀ b, b ≠ 2 + j → ∀ k x, x < sz k → mA (setA σc 3 0 6 (upd (mA σc 3 0 6) (2 + j) 1)) 3 0 k (sz k * b + x) = mA σ 3 0 k (sz k * b + x) := fun b hb k x hx => by
    have k6 : k ≠ 6 := fun z => by subst z; exact Nat.not_lt_zero _ hx
    have hz : cz k = sz k := by
      unfold cz
      rw [if_neg]
      rintro (rfl | rfl) <;> exact Nat.not_lt_zero _ hx
    simp only [mA_A, mL_A, mP_A, mA_L, mL_L, mP_L, upd_at]
    rw [if_neg (fun z => k6 z.2.2), kc.1 k _, hz, if_neg, f1 _ _ _ _ (by omega) (by omega)]
    rintro ⟨q1, q2⟩
    exact blk_ne hb hx (j := sz k * b + x - sz k * (2 + j)) (by omega) (by omega)
  have hCa : RC σ0 (mP σ0 0) 0 D := by
    rw [a9]
    refine hC.cong hW ?_ (fun k x _ => by rw [a0 _ _ _ (by omega) (by omega)]) ?_
    · simp only [a0 1 (mP σ 0) _ (by omega) (by omega), and_self]
    · simp only [a0 2 0 _ (by omega) (by omega)]; exact ⟨trivial, trivial, fun _ _ _ _ _ => trivial⟩
  have hCb : RC σb (2 + j) (1 + j) D := RC.copied hW hCa ka kb
  have hMb : RM σb 0 D := hM.cong hW fun k x _ => f1 _ _ _ _ (by omega) (by omega)
  have hMc : RM σc (2 + j) D := RM.copied hW hMb kc
  refine ⟨?_, ?_, ?_, ?_, ?_, D, ?_⟩
  · have : ∀ n, mP σc n = mP σ n := fun n => by rw [fc.p (by rfl), f9]
    unfold IvP
    show mP σc 0 < 2 ∧ mP σc 1 < 2 ∧ mP σc 0 ≠ mP σc 1 ∧ mP σc 2 < 2 ∧ _
    rw [this, this, this]
    exact ⟨hP.1, hP.2.1, hP.2.2.1, hP.2.2.2.1, fun k k2 k9 => by rw [g 0 0 28 k (by decide) (by omega) (by omega)]; exact hP.2.2.2.2 k k2 k9⟩
  · rw [g 0 0 12 1 (by decide) (by omega) (by omega), m0 0 (by decide) rfl]; exact hF
  · exact hT.fr (g 0 0 6 0 (by decide) (by omega) (by omega)) (by rw [m0 0 (by decide) rfl]) (funext fun f => g 0 0 7 f (by decide) (by omega) (by omega)) (m0 1 (by decide) rfl)
  · exact hS.fr (g 0 0 0 12 (by decide) (by omega) (by omega)) (by rw [m0 0 (by decide) rfl]) (funext fun f => g 0 0 3 f (by decide) (by omega) (by omega)) (funext fun f => g 0 0 4 f (by decide) (by omega) (by omega)) (m0 45 (by decide) rfl) (m0 46 (by decide) rfl)
  · intro j2 hj2
    by_cases e : j2 = j
    · subst e
      refine ⟨?_, fun _ => ⟨D, ?_, ?_, hW⟩⟩
      · simp only [mA_A, mL_A, mP_A, mA_L, mL_L, mP_L, upd_at]
        simp
      · refine hCb.cong hW ?_ (fun k x _ => ?_) ?_
        · have q : ∀ f, mA (setA σc 3 0 6 (upd (mA σc 3 0 6) (2 + j2) 1)) 1 (2 + j2) 0 f = mA σb 1 (2 + j2) 0 f := fun f => by
            simp only [mA_A, mL_A, mP_A, mA_L, mL_L, mP_L, upd_at]
            rw [if_neg (by omega), fc.row (t := 1) (k := 0) (2 + j2) rfl]
          exact ⟨q 0, q 1, q 6, q 8, q 12, q 14⟩
        · simp only [mA_A, mL_A, mP_A, mA_L, mL_L, mP_L, upd_at]
          rw [if_neg (by omega), fc.row (t := 1) (k := k) (2 + j2) (by rfl)]
        · have q : ∀ k f, mA (setA σc 3 0 6 (upd (mA σc 3 0 6) (2 + j2) 1)) 2 (1 + j2) k f = mA σb 2 (1 + j2) k f := fun k f => by
            simp only [mA_A, mL_A, mP_A, mA_L, mL_L, mP_L, upd_at]
            rw [if_neg (by omega), fc.row (t := 2) (k := k) (1 + j2) (by rfl)]
          exact ⟨q 0 0, q 0 1, fun k x _ _ _ => q k x⟩
      · refine hMc.cong hW fun k x hx => ?_
        simp only [mA_A, mL_A, mP_A, mA_L, mL_L, mP_L, upd_at]
        rw [if_neg]
        rintro ⟨-, -, rfl⟩
        exact Nat.not_lt_zero _ hx
    · have hg := hH j2 hj2
      refine ⟨?_, fun hh => ?_⟩
      · simp only [if_neg e]
        simp only [mA_A, mL_A, mP_A, mA_L, mL_L, mP_L, upd_at]
        simp only [and_self, if_true]
        rw [if_neg (by omega), kc.1 6, if_neg (by rintro ⟨q1, q2⟩; have : cz 6 = 0 := rfl; rw [this] at q2; omega), f1 _ _ _ _ (by omega) (by omega)]
        exact hg.1
      · simp only [if_neg e] at hh
        obtain ⟨E, c, m, w⟩ := hg.2 hh
        refine ⟨E, c.cong w ?_ (fun k x _ => g _ _ _ _ (by decide) (by omega) (by omega)) ?_, m.cong w (fun k x hx => mb _ (by omega) k x hx), w⟩
        · simp only [g 1 (2 + j2) _ _ (by decide) (show ¬ ((1 : Nat) = 1 ∧ 2 + j2 = 2 + j) by omega) (show ¬ ((1 : Nat) = 2 ∧ 2 + j2 = 1 + j) by omega), and_self]
        · exact ⟨g _ _ _ _ (by decide) (by omega) (by omega), g _ _ _ _ (by decide) (by omega) (by omega), fun k x _ _ _ => g _ _ _ _ (by decide) (by omega) (by omega)⟩
  · have h9 : mP (setA σc 3 0 6 (upd (mA σc 3 0 6) (2 + j) 1)) 0 = mP σ 0 := by
      show mP σc 0 = _
      rw [fc.p (by rfl), f9]
    rw [h9]
    refine ⟨hC.cong hW ?_ (fun k x _ => g _ _ _ _ (by decide) (by omega) (by omega)) ?_, hM.cong hW (fun k x hx => mb 0 (by omega) k x hx), hW⟩
    · simp only [g 1 (mP σ 0) _ _ (by decide) (show ¬ ((1 : Nat) = 1 ∧ mP σ 0 = 2 + j) by omega) (show ¬ ((1 : Nat) = 2 ∧ mP σ 0 = 1 + j) by omega), and_self]
    · exact ⟨g _ _ _ _ (by decide) (by omega) (by omega), g _ _ _ _ (by decide) (by omega) (by omega), fun k x _ _ _ => g _ _ _ _ (by decide) (by omega) (by omega)⟩
