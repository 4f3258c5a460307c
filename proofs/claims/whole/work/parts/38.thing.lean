/-! thing -/
theorem isKnownC {σ : Mm} {s : Nat} {D : DD} (hf : RCf σ 0 D) (n : Int32) : f_X11_isKnown n σ = if 0 ≤ n ∧ n ≤ nI (dN D 1) then 1 else 0 := by
  unfold f_X11_isKnown
  rw [hf.1]
  grind
theorem isKnownM {σ : Mm} {D : DD} (hM : RM σ 0 D) (n : Int32) : F_X12_isKnown n σ = some (if 0 ≤ n ∧ n ≤ nI (dN D 1) then 1 else 0, σ) := by
  unfold F_X12_isKnown
  rw [c0, hM.1.2.2.2.2.2.2, if_pos (show inb 0 5 = true by decide)]
  generalize nI (dN D 1) = F
  clear hM
  by_cases h0 : n < 0
  · rw [if_pos h0, if_neg (by grind)]
  · rw [if_neg h0]
    by_cases h1 : F < n
    · rw [if_pos h1, if_neg (by grind)]
    · rw [if_neg h1, if_pos (by grind)]
theorem known_nat {x : Int32} {F : Nat} (hF : F < 1000) (h : 0 ≤ x ∧ x ≤ nI F) : ∃ n : Nat, n ≤ F ∧ x = nI n := ⟨x.toNatClampNeg, by grind [gI, gC], by grind [gI, gC]⟩
theorem thing_nat {x : Int32} {F : Nat} (hF : F < 1000) (h : 0 ≤ x ∧ x < nI F) : ∃ n : Nat, n < F ∧ x = nI n := ⟨x.toNatClampNeg, by grind [gI, gC], by grind [gI, gC]⟩
theorem kS_01 {D : DD} (hW : WF D) {t : Nat} (ht : t < nT D) : kS D t = 0 ∨ kS D t = 1 := by
  unfold kS
  cases hfx : fx D t (dN D 1) with
  | some k => exact Or.inl rfl
  | none =>
    have h0 : t < dN D 0 := by
      apply Nat.lt_of_not_le
      intro h
      obtain ⟨k, hk, h0, e⟩ := found_ex (m := dN D 1) h ht
      rw [← e, fx_at hk h0] at hfx
      cases hfx
    have := (hW.2.2.2.2.2.2.2.1 t h0).2.2.2
    show dA D 3 t = 0 ∨ dA D 3 t = 1
    generalize dA D 3 t = z at *
    clear hW hfx
    grind
def qThing (D : DD) (t n : Nat) (w : Int32) : Int32 := if w = 0 then kE D n t else if w = 1 then kN D n t else if w = 2 then kA D n t else if w = 3 then kS D t else if w = 4 then (if kG D n t then 1 else 0) else -1
theorem p_thing {h : Nat → Bool} {σ : Mm} (hI : Iv h σ) (x w y : Int32) : ∃ (r : Int32) (σ1 : Mm) (σ2 : Mm), F_X11_thing x w y σ = some (r, σ1) ∧ F_X12_thing x w y σ1 = some (r, σ2) ∧ Iv h σ2 := by
  obtain ⟨D, hC, hM, hW⟩ := id hI.2.2.2.2.2
  have oP := okP_of hI.1
  have h14 := hW.1
  have h60 := hW.2.1
  by_cases hv : (0 ≤ x ∧ x < nI (nT D)) ∧ (0 ≤ y ∧ y ≤ nI (dN D 1))
  · obtain ⟨v1, v2⟩ := hv
    obtain ⟨t, ht, rfl⟩ := thing_nat (by omega) v1
    obtain ⟨n, hn, rfl⟩ := known_nat (by omega) v2
    have hct : (nI t).toNatClampNeg = t := nI_clamp (by omega)
    have i14 : inb (nI t) 14 = true := by
      have : t < 14 := by omega
      clear hI hC hM hW v1 v2; grind [gI, gB, gC]
    have i70 : inb (nI t) 70 = true := by
      have : t < 14 := by omega
      clear hI hC hM hW v1 v2 i14; grind [gI, gB, gC]
    refine q_call hI fr_X11_thing rfl (qThing D t n w) ?_ (fun _ => fr_X12_thing) rfl (fun σ1 f1 => ?_)
    · unfold F_X11_thing
      rw [if_pos oP, isThingC hC hW, if_pos v1, if_neg ne10, isKnownC (s := 0) hC.2.2.2.2.2.2.2, if_pos v2, if_neg ne10]
      refine Ok_V (s_know hW hn hC) (fun τ g => ?_)
      obtain ⟨a, b, c, d, e⟩ := g.2 t ht
      unfold F_X11_thing_34 qThing
      simp only [i14, if_true, hct, a, b, c, d, e]
      by_cases w0 : w = 0
      · rw [if_pos w0, if_pos w0]; exact Ok_r rfl
      rw [if_neg w0, if_neg w0]
      by_cases w1 : w = 1
      · rw [if_pos w1, if_pos w1]; exact Ok_r rfl
      rw [if_neg w1, if_neg w1]
      by_cases w2 : w = 2
      · rw [if_pos w2, if_pos w2]; exact Ok_r rfl
      rw [if_neg w2, if_neg w2]
      by_cases w3 : w = 3
      · rw [if_pos w3, if_pos w3]; exact Ok_r rfl
      rw [if_neg w3, if_neg w3]
      by_cases w4 : w = 4
      · rw [if_pos w4, if_pos w4]
        cases kG D n t
        · exact Ok_r rfl
        · exact Ok_r rfl
      rw [if_neg w4, if_neg w4]; exact Ok_r rfl
    · have hM1 : RM σ1 0 D := hM.fr (f1.sub rfl)
      unfold F_X12_thing F_X12_thing_5 F_X12_thing_22
      rw [isThingM hM1.1.2.1, bnd_s, if_pos v1, if_neg ne10]
      simp only [isInM, ite10]
      by_cases w4 : 0 ≤ w ∧ w ≤ 4
      · rw [if_neg (not_not_intro w4), isKnownM hM1, bnd_s, if_pos v2, if_neg ne10]
        refine Ok_V ((s_layThings hW hn hM1).frV fr_X12_layThings) (fun τ g => ?_)
        obtain ⟨g, f2⟩ := g
        obtain ⟨a, b, c, d⟩ := g t ht
        have e := (RMt_bas (hM1.fr (f2.sub rfl)).2.1 ht).2.2.2.1
        unfold F_X12_thing_32 qThing
        simp only [i14, i70, if_true, hct, a, b, c, d, e]
        by_cases w0 : w = 0
        · rw [if_pos w0, if_pos w0]; exact Ok_r rfl
        rw [if_neg w0, if_neg w0]
        by_cases w1 : w = 1
        · rw [if_pos w1, if_pos w1]; exact Ok_r rfl
        rw [if_neg w1, if_neg w1]
        by_cases w2 : w = 2
        · rw [if_pos w2, if_pos w2]; exact Ok_r rfl
        rw [if_neg w2, if_neg w2]
        by_cases w3 : w = 3
        · rw [if_pos w3, if_pos w3]
          rcases kS_01 hW ht with z | z
          · rw [z]; exact Ok_r rfl
          · rw [z]; exact Ok_r rfl
        rw [if_neg w3, if_neg w3]
        have w4' : w = 4 := by clear hI hC hM hW v1 v2 hM1 f1 g f2 a b c d e i14 i70; grind
        rw [if_pos w4']
        cases kG D n t
        · exact Ok_r rfl
        · exact Ok_r rfl
      · rw [if_pos w4]
        refine Ok_r ?_
        unfold qThing
        clear hI hC hM hW v1 v2 hM1 f1 i14 i70
        rw [if_neg (by grind), if_neg (by grind), if_neg (by grind), if_neg (by grind), if_neg (by grind)]
  · refine ⟨-1, σ, σ, ?_, ?_, hI⟩
    · unfold F_X11_thing
      rw [if_pos oP, isThingC hC hW, isKnownC (s := 0) hC.2.2.2.2.2.2.2]
      by_cases v1 : 0 ≤ x ∧ x < nI (nT D)
      · rw [if_pos v1, if_neg ne10, if_neg (fun z => hv ⟨v1, z⟩), if_pos rfl]
      · rw [if_neg v1, if_pos rfl]
    · unfold F_X12_thing F_X12_thing_5 F_X12_thing_22
      rw [isThingM hM.1.2.1, bnd_s]
      by_cases v1 : 0 ≤ x ∧ x < nI (nT D)
      · rw [if_pos v1, if_neg ne10]
        by_cases w4 : f_X12_isIn w 0 4 = 0
        · rw [if_pos w4]
        · rw [if_neg w4, isKnownM hM, bnd_s, if_neg (fun z => hv ⟨v1, z⟩), if_pos rfl]
      · rw [if_neg v1, if_pos rfl]
