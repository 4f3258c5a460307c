/-! LINES: what they are, both sides -/
theorem lst_rng {D : DD} (hW : WF D) {n t k : Nat} (hn : n ≤ dN D 1) (h : lst D n 1 t n = some k) : rIn (dA D 6 k) 999 ∧ rIn (dA D 7 k) 999 := by
  obtain ⟨h1, h2, -, -⟩ := lst_some h
  rcases hW.2.2.2.2.2.2.2.2.1 k (by omega) with z | z | z | z | z
  · exact ⟨z.2.2.1, z.2.2.2.1⟩
  · exact ⟨z.2.2.2.1, z.2.2.2.2⟩
  · rw [z.1] at h2; exact absurd h2 (by decide)
  · rw [z.1] at h2; exact absurd h2 (by decide)
  · rw [z.1] at h2; exact absurd h2 (by decide)
theorem lst_rng3 {D : DD} (hW : WF D) {n t k : Nat} (hn : n ≤ dN D 1) (h : lst D n 3 t n = some k) : rIn (dA D 8 k) 9999 := by
  obtain ⟨h1, h2, -, -⟩ := lst_some h
  rcases hW.2.2.2.2.2.2.2.2.1 k (by omega) with z | z | z | z | z
  · exact z.2.2.2.2
  · rw [z.1] at h2; exact absurd h2 (by decide)
  · rw [z.1] at h2; exact absurd h2 (by decide)
  · exact z.2.2.2
  · rw [z.1] at h2; exact absurd h2 (by decide)
theorem bas_rng {D : DD} (hW : WF D) {t : Nat} (ht : t < nT D) : rIn (bas D 0 6 t) 999 ∧ rIn (bas D 1 7 t) 999 ∧ rIn (bas D 2 8 t) 9999 := by
  unfold bas
  cases hfx : fx D t (dN D 1) with
  | some k =>
    obtain ⟨h1, h2, -⟩ := fx_lt hfx
    rcases hW.2.2.2.2.2.2.2.2.1 k h1 with z | z | z | z | z
    · exact ⟨z.2.2.1, z.2.2.2.1, z.2.2.2.2⟩
    · rw [z.1] at h2; exact absurd h2 (by decide)
    · rw [z.1] at h2; exact absurd h2 (by decide)
    · rw [z.1] at h2; exact absurd h2 (by decide)
    · rw [z.1] at h2; exact absurd h2 (by decide)
  | none =>
    have h0 : t < dN D 0 := by
      apply Nat.lt_of_not_le
      intro h
      obtain ⟨k, hk, h0, e⟩ := found_ex (m := dN D 1) h ht
      rw [← e, fx_at hk h0] at hfx
      cases hfx
    obtain ⟨a, b, c, -⟩ := hW.2.2.2.2.2.2.2.1 t h0
    exact ⟨a, b, c⟩
theorem k_rng {D : DD} (hW : WF D) {n t : Nat} (hn : n ≤ dN D 1) (ht : t < nT D) : rIn (kE D n t) 999 ∧ rIn (kN D n t) 999 ∧ rIn (kA D n t) 9999 := by
  obtain ⟨b1, b2, b3⟩ := bas_rng hW ht
  refine ⟨?_, ?_, ?_⟩
  · unfold kE
    cases h : lst D n 1 t n with
    | none => exact b1
    | some k => exact (lst_rng hW hn h).1
  · unfold kN
    cases h : lst D n 1 t n with
    | none => exact b2
    | some k => exact (lst_rng hW hn h).2
  · unfold kA
    cases h : lst D n 3 t n with
    | none => exact b3
    | some k => exact lst_rng3 hW hn h
/-- whether l is a LINE -/
def isL (D : DD) (n l : Nat) : Bool := decide (l / 14 ≠ l % 14 ∧ l / 14 < nT D ∧ l % 14 < nT D ∧ kG D n (l / 14) = false ∧ kG D n (l % 14) = false ∧ (kE D n (l / 14) ≠ kE D n (l % 14) ∨ kN D n (l / 14) ≠ kN D n (l % 14)))
def lE (D : DD) (n l : Nat) : Int32 := kE D n (l % 14) - kE D n (l / 14)
def lH (D : DD) (n l : Nat) : Int32 := kN D n (l % 14) - kN D n (l / 14)
def lDeg (D : DD) (n l : Nat) : Int32 := bear (lE D n l) (lH D n l)
def lFar (D : DD) (n l : Nat) : Int32 := if f_X12_plain (lE D n l) ≤ f_X12_plain (lH D n l) then f_X12_plain (lH D n l) else f_X12_plain (lE D n l)
/-- what may be asked of a LINE -/
def tr (D : DD) (n l k : Nat) : Int32 :=
  if k = 2 then f_X12_plain (kA D n (l / 14) - kA D n (l % 14)) else if k = 3 then lFar D n l else if k = 4 then kS D (l / 14) + kS D (l % 14) else if k = 5 then (if dD D (l / 14) (l % 14) then 1 else 0) else if k = 6 then (if dD D (l % 14) (l / 14) then 1 else 0) else
  if k = 7 then (if kA D n (l % 14) ≤ kA D n (l / 14) then kA D n (l % 14) else kA D n (l / 14)) else if k = 8 then lDeg D n l else 0
theorem tr_0 (D : DD) (n l : Nat) : 0 = tr D n l 0 := by
  unfold tr
  simp only [Nat.reduceEqDiff, if_true, if_false]
theorem tr_1 (D : DD) (n l : Nat) : 0 = tr D n l 1 := by
  unfold tr
  simp only [Nat.reduceEqDiff, if_true, if_false]
theorem tr_2 (D : DD) (n l : Nat) : f_X12_plain (kA D n (l / 14) - kA D n (l % 14)) = tr D n l 2 := by
  unfold tr
  simp only [Nat.reduceEqDiff, if_true, if_false]
theorem tr_3 (D : DD) (n l : Nat) : lFar D n l = tr D n l 3 := by
  unfold tr
  simp only [Nat.reduceEqDiff, if_true, if_false]
theorem tr_4 (D : DD) (n l : Nat) : kS D (l / 14) + kS D (l % 14) = tr D n l 4 := by
  unfold tr
  simp only [Nat.reduceEqDiff, if_true, if_false]
theorem tr_5 (D : DD) (n l : Nat) : (if dD D (l / 14) (l % 14) then 1 else 0) = tr D n l 5 := by
  unfold tr
  simp only [Nat.reduceEqDiff, if_true, if_false]
theorem tr_6 (D : DD) (n l : Nat) : (if dD D (l % 14) (l / 14) then 1 else 0) = tr D n l 6 := by
  unfold tr
  simp only [Nat.reduceEqDiff, if_true, if_false]
theorem tr_7 (D : DD) (n l : Nat) : (if kA D n (l % 14) ≤ kA D n (l / 14) then kA D n (l % 14) else kA D n (l / 14)) = tr D n l 7 := by
  unfold tr
  simp only [Nat.reduceEqDiff, if_true, if_false]
theorem tr_8 (D : DD) (n l : Nat) : lDeg D n l = tr D n l 8 := by
  unfold tr
  simp only [Nat.reduceEqDiff, if_true, if_false]
theorem isL_sp {D : DD} {n l : Nat} (h : isL D n l = true) : l / 14 ≠ l % 14 ∧ l / 14 < nT D ∧ l % 14 < nT D ∧ kG D n (l / 14) = false ∧ kG D n (l % 14) = false ∧ (kE D n (l / 14) ≠ kE D n (l % 14) ∨ kN D n (l / 14) ≠ kN D n (l % 14)) := of_decide_eq_true h
theorem sub_rB {x y : Int32} (hx : rIn x 999) (hy : rIn y 999) : rB (x - y) := by
  obtain ⟨a, b⟩ := hx
  obtain ⟨c, d⟩ := hy
  constructor <;> grind
theorem lEH {D : DD} (hW : WF D) {n l : Nat} (hn : n ≤ dN D 1) (h1 : l / 14 < nT D) (h2 : l % 14 < nT D) : rB (lE D n l) ∧ rB (lH D n l) := by
  obtain ⟨a1, a2, -⟩ := k_rng hW hn h1
  obtain ⟨b1, b2, -⟩ := k_rng hW hn h2
  exact ⟨sub_rB b1 a1, sub_rB b2 a2⟩
theorem sub_ne {x y : Int32} (h : x ≠ y) : ¬ y - x = 0 := by grind
theorem lne {D : DD} {n l : Nat} (h : isL D n l = true) : ¬ (lE D n l = 0 ∧ lH D n l = 0) := by
  obtain ⟨-, -, -, -, -, h6⟩ := isL_sp h
  rintro ⟨a, b⟩
  rcases h6 with z | z
  · exact sub_ne z a
  · exact sub_ne z b
theorem nI14 {l : Nat} (h : l < 196) : nI l / 14 = nI (l / 14) ∧ nI l - nI l / 14 * 14 = nI (l % 14) ∧ (nI (l / 14)).toNatClampNeg = l / 14 ∧ (nI (l % 14)).toNatClampNeg = l % 14 ∧ inb (nI (l / 14)) 14 = true ∧ inb (nI (l % 14)) 14 = true ∧ (nI l).toNatClampNeg = l ∧ inb (nI l) 196 = true ∧ inb (nI (l / 14)) 70 = true ∧ inb (nI (l % 14)) 70 = true := by
  have h1 : l / 14 < 14 := by omega
  have h2 : l % 14 < 14 := by omega
  refine ⟨pk_div (d := 14) (by omega) (by decide) (by decide), pk_rem (d := 14) (by omega) (by decide) (by decide), nI_clamp (by omega), nI_clamp (by omega), ?_, ?_, nI_clamp (by omega), ?_, ?_, ?_⟩
  · generalize l / 14 = a at *; grind [gI, gB, gC]
  · generalize l % 14 = a at *; grind [gI, gB, gC]
  · grind [gI, gB, gC]
  · generalize l / 14 = a at *; grind [gI, gB, gC]
  · generalize l % 14 = a at *; grind [gI, gB, gC]
/-- the class: whether it is a LINE -/
theorem s_joins {D : DD} (hW : WF D) {n l : Nat} {σ : Mm} (hl : l < 196) (hG : GK D n σ) : F_X2_joins (nI l) σ = some (if isL D n l then 1 else 0, σ) := by
  have h14 := hW.1
  obtain ⟨d1, d2, d3, d4, d5, d6, -, -, -, -⟩ := nI14 hl
  unfold F_X2_joins F_X2_joins_23 F_X2_joins_89
  rw [if_neg (nI_pos (by omega)), if_pos (show nI l < 196 from nI_lt hl (by decide)), d1, show nI l - nI (l / 14) * 14 = nI (l % 14) by rw [← d1]; exact d2, hG.1, d3, d4]
  have out : ∀ c : ¬ (l / 14 ≠ l % 14 ∧ l / 14 < nT D ∧ l % 14 < nT D ∧ kG D n (l / 14) = false ∧ kG D n (l % 14) = false ∧ (kE D n (l / 14) ≠ kE D n (l % 14) ∨ kN D n (l / 14) ≠ kN D n (l % 14))), isL D n l = false := fun c => decide_eq_false c
  by_cases c1' : nT D ≤ l / 14
  · rw [if_pos (nI_le (by omega) (by omega)), out (fun z => by omega)]; rfl
  have c1 : l / 14 < nT D := by omega
  by_cases c2' : nT D ≤ l % 14
  · rw [if_neg (nI_ge (by omega) (by omega)), if_pos (nI_le (by omega) (by omega)), out (fun z => by omega)]; rfl
  have c2 : l % 14 < nT D := by omega
  obtain ⟨a1, a2, -, -, a5⟩ := hG.2 _ c1
  obtain ⟨b1, b2, -, -, b5⟩ := hG.2 _ c2
  rw [if_neg (nI_ge (by omega) (by omega)), if_neg (nI_ge (by omega) (by omega))]
  simp only [d5, d6, if_true, a1, a2, a5, b1, b2, b5]
  by_cases c3 : kG D n (l / 14) = true
  · rw [if_pos c3, if_neg ne10, out (fun z => by rw [c3] at z; exact absurd z.2.2.2.1 (by decide))]; rfl
  rw [if_neg c3, if_pos rfl]
  by_cases c4 : kG D n (l % 14) = true
  · rw [if_pos c4, if_neg ne10, out (fun z => by rw [c4] at z; exact absurd z.2.2.2.2.1 (by decide))]; rfl
  rw [if_neg c4, if_pos rfl]
  have q3 : kG D n (l / 14) = false := by cases h : kG D n (l / 14) with
    | true => exact absurd h c3
    | false => rfl
  have q4 : kG D n (l % 14) = false := by cases h : kG D n (l % 14) with
    | true => exact absurd h c4
    | false => rfl
  by_cases c5 : kE D n (l / 14) = kE D n (l % 14)
  · rw [if_pos c5]
    by_cases c6 : kN D n (l / 14) = kN D n (l % 14)
    · rw [if_pos c6, out (fun z => z.2.2.2.2.2.elim (fun w => w c5) (fun w => w c6))]; rfl
    · rw [if_neg c6, show isL D n l = true from decide_eq_true ⟨fun z => c6 (by rw [z]), c1, c2, q3, q4, Or.inr c6⟩]; rfl
  · rw [if_neg c5, show isL D n l = true from decide_eq_true ⟨fun z => c5 (by rw [z]), c1, c2, q3, q4, Or.inl c5⟩]; rfl
theorem s_joinsN {x : Int32} {σ : Mm} (h : ¬ (0 ≤ x ∧ x < 196)) : F_X2_joins x σ = some (0, σ) := by
  unfold F_X2_joins
  by_cases h0 : x < 0
  · rw [if_pos h0]
  · rw [if_neg h0, if_neg (by grind)]
theorem s_bearingOf {D : DD} (hW : WF D) {n l : Nat} {σ : Mm} (hn : n ≤ dN D 1) (hl : l < 196) (hG : GK D n σ) (hL : isL D n l = true) : F_X2_bearingOf (nI l) σ = some (lDeg D n l, σ) := by
  obtain ⟨d1, d2, d3, d4, d5, d6, -, -, -, -⟩ := nI14 hl
  obtain ⟨-, c1, c2, -, -, -⟩ := isL_sp hL
  obtain ⟨a1, a2, -, -, -⟩ := hG.2 _ c1
  obtain ⟨b1, b2, -, -, -⟩ := hG.2 _ c2
  unfold F_X2_bearingOf F_X2_bearingOf_10 F_X2_bearingOf_39
  rw [d1, show nI l - nI (l / 14) * 14 = nI (l % 14) by rw [← d1]; exact d2]
  simp only [d5, d6, if_true, d3, d4, a1, a2, b1, b2]
  obtain ⟨r1, r2⟩ := lEH hW hn c1 c2
  have e1 : kE D n (l % 14) - kE D n (l / 14) = lE D n l := rfl
  have e2 : kN D n (l % 14) - kN D n (l / 14) = lH D n l := rfl
  rw [e1, e2, s_bearing r1 r2, bnd_s, if_neg (lne hL)]
  rfl
theorem plain_neg {x y : Int32} (hx : rIn x 9999) (hy : rIn y 9999) : f_X12_plain (y - x) = f_X12_plain (x - y) := by
  obtain ⟨a, b⟩ := hx
  obtain ⟨c, d⟩ := hy
  unfold f_X12_plain
  by_cases h1 : 0 ≤ y - x
  · rw [if_pos h1]
    by_cases h2 : 0 ≤ x - y
    · rw [if_pos h2]; grind
    · rw [if_neg h2]; grind
  · rw [if_neg h1]
    by_cases h2 : 0 ≤ x - y
    · rw [if_pos h2]; grind
    · rw [if_neg h2]; grind
theorem dstep {D : DD} {n i : Nat} {σ : Mm} {tv : Nat → Int32} {v : Int32} {F : Mm → Option Mm} {Q : Mm → Prop} (j : Nat) (hG : GK D n σ) (hd : RCd σ i D) (hr : ∀ k, k < j → mA σ 0 0 22 k = tv k) (hv : v = tv j) (h : ∀ τ, GK D n τ → RCd τ i D → (∀ k, k < j + 1 → mA τ 0 0 22 k = tv k) → Ok (F τ) Q) : Ok (F (setA σ 0 0 22 (upd (mA σ 0 0 22) j v))) Q := by
  refine h _ ?_ ?_ (fun k hk => ?_)
  · unfold GK; simp only [mA_R]; exact hG
  · unfold RCd; simp only [mA_R]; exact hd
  · simp only [mA_A, mL_A, mP_A, mA_L, mL_L, mP_L, upd_at]
    simp only [and_self, if_true]
    by_cases e : k = j
    · rw [if_pos e, e, hv]
    · rw [if_neg e]; exact hr k (by omega)
/-- the class: a LINE described -/
theorem s_describe {D : DD} (hW : WF D) {n l i : Nat} {σ : Mm} (hn : n ≤ dN D 1) (hl : l < 196) (hG : GK D n σ) (hd : RCd σ i D) (hL : isL D n l = true) : Ok (F_X2_describe i (nI l) σ) (fun τ => ∀ k, k < 9 → mA τ 0 0 22 k = tr D n l k) := by
  obtain ⟨d1, d2, d3, d4, d5, d6, -, -, -, -⟩ := nI14 hl
  obtain ⟨-, c1, c2, -, -, -⟩ := isL_sp hL
  obtain ⟨-, -, ra⟩ := k_rng hW hn c1
  obtain ⟨-, -, rb⟩ := k_rng hW hn c2
  obtain ⟨r1, r2⟩ := lEH hW hn c1 c2
  have h14 := hW.1
  have e1 : mA σ 0 0 16 (l % 14) - mA σ 0 0 16 (l / 14) = lE D n l := by rw [(hG.2 _ c1).1, (hG.2 _ c2).1]; rfl
  have e2 : mA σ 0 0 17 (l % 14) - mA σ 0 0 17 (l / 14) = lH D n l := by rw [(hG.2 _ c1).2.1, (hG.2 _ c2).2.1]; rfl
  have z1 : (1 : Int32).toNatClampNeg = 1 := rfl
  have z2 : (2 : Int32).toNatClampNeg = 2 := rfl
  have z3 : (3 : Int32).toNatClampNeg = 3 := rfl
  have z4 : (4 : Int32).toNatClampNeg = 4 := rfl
  have z5 : (5 : Int32).toNatClampNeg = 5 := rfl
  have z6 : (6 : Int32).toNatClampNeg = 6 := rfl
  have z7 : (7 : Int32).toNatClampNeg = 7 := rfl
  have z8 : (8 : Int32).toNatClampNeg = 8 := rfl
  have t3 : f_J9_max_7cf53 (f_X12_plain (lE D n l)) (f_X12_plain (lH D n l)) = lFar D n l := by
    unfold f_J9_max_7cf53 lFar
    generalize f_X12_plain (lE D n l) = x
    generalize f_X12_plain (lH D n l) = y
    clear e1 e2 hd hG hW
    by_cases h1 : x < y
    · rw [if_pos h1, if_pos (by grind)]
    · rw [if_neg h1]
      by_cases h2 : x ≤ y
      · rw [if_pos h2]; grind
      · rw [if_neg h2]
  have t7 : f_J9_min_7cf53 (kA D n (l / 14)) (kA D n (l % 14)) = if kA D n (l % 14) ≤ kA D n (l / 14) then kA D n (l % 14) else kA D n (l / 14) := by
    unfold f_J9_min_7cf53
    generalize kA D n (l / 14) = x
    generalize kA D n (l % 14) = y
    clear e1 e2 hd hG hW t3
    by_cases h1 : y < x
    · rw [if_pos h1, if_pos (by grind)]
    · rw [if_neg h1]
      by_cases h2 : y ≤ x
      · rw [if_pos h2]; grind
      · rw [if_neg h2]
  unfold F_X2_describe
  rw [d1, show nI l - nI (l / 14) * 14 = nI (l % 14) by rw [← d1]; exact d2]
  unfold F_X2_describe_11
  refine Ok_t d6 (Ok_t d5 ?_)
  unfold F_X2_describe_27
  refine Ok_t d6 (Ok_t d5 ?_)
  rw [d3, d4, e1, e2]
  unfold F_X2_describe_43
  refine Ok_t (by decide) ?_
  rw [c0]
  refine dstep (tv := tr D n l) (F := fun τ => F_X2_describe_50 i (nI (l / 14)) (nI (l % 14)) (lE D n l) (lH D n l) τ) 0 hG hd (fun k hk => absurd hk (by omega)) (tr_0 D n l) (fun τ hG hd hr => ?_)
  clear e1 e2
  unfold F_X2_describe_50
  refine Ok_t (by decide) ?_
  rw [z1]
  refine dstep (tv := tr D n l) (F := fun τ => F_X2_describe_57 i (nI (l / 14)) (nI (l % 14)) (lE D n l) (lH D n l) τ) 1 hG hd hr (tr_1 D n l) (fun τ hG hd hr => ?_)
  unfold F_X2_describe_57
  refine Ok_t d6 (Ok_t d5 (Ok_t (by decide) ?_))
  rw [z2, d3, d4, abs_eq, (hG.2 _ c1).2.2.1, (hG.2 _ c2).2.2.1]
  refine dstep (tv := tr D n l) (F := fun τ => F_X2_describe_80 i (nI (l / 14)) (nI (l % 14)) (lE D n l) (lH D n l) τ) 2 hG hd hr ((plain_neg ra rb).trans (tr_2 D n l)) (fun τ hG hd hr => ?_)
  unfold F_X2_describe_80
  refine Ok_t (by decide) ?_
  rw [z3, abs_eq, abs_eq, t3]
  refine dstep (tv := tr D n l) (F := fun τ => F_X2_describe_99 i (nI (l / 14)) (nI (l % 14)) (lE D n l) (lH D n l) τ) 3 hG hd hr (tr_3 D n l) (fun τ hG hd hr => ?_)
  unfold F_X2_describe_99
  refine Ok_t d5 (Ok_t d6 (Ok_t (by decide) ?_))
  rw [z4, d3, d4, (hG.2 _ c1).2.2.2.1, (hG.2 _ c2).2.2.2.1]
  refine dstep (tv := tr D n l) (F := fun τ => F_X2_describe_119 i (nI (l / 14)) (nI (l % 14)) (lE D n l) (lH D n l) τ) 4 hG hd hr (tr_4 D n l) (fun τ hG hd hr => ?_)
  unfold F_X2_describe_119
  refine Ok_t d5 (Ok_t (by decide) ?_)
  rw [z5, d3, hd (l / 14) (l % 14) (by omega) (by omega)]
  refine dstep (tv := tr D n l) (F := fun τ => F_X2_describe_136 i (nI (l / 14)) (nI (l % 14)) (lE D n l) (lH D n l) τ) 5 hG hd hr (tr_5 D n l) (fun τ hG hd hr => ?_)
  unfold F_X2_describe_136
  refine Ok_t d6 (Ok_t (by decide) ?_)
  rw [z6, d4, hd (l % 14) (l / 14) (by omega) (by omega)]
  refine dstep (tv := tr D n l) (F := fun τ => F_X2_describe_154 (nI (l / 14)) (nI (l % 14)) (lE D n l) (lH D n l) τ) 6 hG hd hr (tr_6 D n l) (fun τ hG hd hr => ?_)
  unfold F_X2_describe_154
  refine Ok_t d5 (Ok_t d6 (Ok_t (by decide) ?_))
  rw [z7, d3, d4, (hG.2 _ c1).2.2.1, (hG.2 _ c2).2.2.1, t7]
  refine dstep (tv := tr D n l) (F := fun τ => F_X2_describe_177 (lE D n l) (lH D n l) τ) 7 hG hd hr (tr_7 D n l) (fun τ hG hd hr => ?_)
  unfold F_X2_describe_177 F_X2_describe_190
  rw [s_bearing r1 r2, bnd_s, if_neg (lne hL), z8]
  refine Ok_t (by decide) (Ok_r ?_)
  intro k hk
  simp only [mA_A, mL_A, mP_A, mA_L, mL_L, mP_L, upd_at]
  simp only [and_self, if_true]
  by_cases e : k = 8
  · rw [if_pos e, e]; exact tr_8 D n l
  · rw [if_neg e]; exact hr k (by omega)
/-- the model: whether a DOOR was told -/
theorem door_2 {D : DD} (hW : WF D) {a b : Nat} {σ : Mm} (ha : a < 14) (hb : b < 14) (hM : RM σ 0 D) : ∀ (m k : Nat), dN D 2 - k < m → k ≤ dN D 2 → (∀ j, j < k → ¬ (mA σ 3 0 15 j = nI a ∧ mA σ 3 0 16 j = nI b)) → F_X12_isDoor_2 m (nI a) (nI b) (nI k) σ = some (if dD D a b then 1 else 0, σ) := by
  have h8 := hW.2.2.1
  have hD := hM.2.2.2.1 a b ha hb
  simp only [Nat.mul_zero, Nat.zero_add] at hD
  intro m
  induction m with
  | zero => intro k h; omega
  | succ m ih =>
    intro k hm hk hno
    change B_X12_isDoor_2 (F_X12_isDoor_2 m) _ _ _ _ = _
    unfold B_X12_isDoor_2 F_X12_isDoor_34
    rw [c0, hM.1.2.2.1, if_pos (show inb 0 5 = true by decide), nI_1]
    by_cases hd : dN D 2 ≤ k
    · rw [if_pos (nI_le hd (by omega))]
      have : dD D a b = false := by
        cases h : dD D a b with
        | false => rfl
        | true =>
          obtain ⟨j, hj, e1, e2⟩ := hD.mp h
          exact absurd ⟨e1, e2⟩ (hno j (by omega))
      rw [this]; rfl
    · have hck : (nI k).toNatClampNeg = k := nI_clamp (by omega)
      have i40 : inb (nI k) 40 = true := by
        have : k < 8 := by omega
        clear ih hno hD hM hW; grind [gI, gB, gC]
      rw [if_neg (nI_ge (by omega) (by omega)), if_pos i40, hck]
      by_cases c1 : mA σ 3 0 15 k = nI a
      · rw [if_pos c1, if_pos i40]
        by_cases c2 : mA σ 3 0 16 k = nI b
        · rw [if_pos c2, hD.mpr ⟨k, by omega, c1, c2⟩]; rfl
        · rw [if_neg c2]
          refine ih (k + 1) (by omega) (by omega) (fun j hj => ?_)
          by_cases e : j = k
          · subst e; exact fun z => c2 z.2
          · exact hno j (by omega)
      · rw [if_neg c1]
        refine ih (k + 1) (by omega) (by omega) (fun j hj => ?_)
        by_cases e : j = k
        · subst e; exact fun z => c1 z.1
        · exact hno j (by omega)
theorem s_isDoor {D : DD} (hW : WF D) {a b : Nat} {σ : Mm} (ha : a < 14) (hb : b < 14) (hM : RM σ 0 D) : F_X12_isDoor (nI a) (nI b) σ = some (if dD D a b then 1 else 0, σ) :=
  door_2 hW ha hb hM FU 0 (by have := hW.2.2.1; show _ < 1000000; omega) (by omega) (fun j hj => absurd hj (by omega))
