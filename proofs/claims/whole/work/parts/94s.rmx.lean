theorem RM_X {T : Tk} {c l p : Nat} {σ : Mm} {X : Xt} (hW : okW T X) (hX : okX T X) (hB : qB X = none) (hc : c ≤ 400) (hl : l ≤ 200) (h : MR T c l p X σ) (h38 : mA σ 3 0 38 1 = 0) : RM σ 1 (dXt T X) := by
  obtain ⟨l1, l2, l3, l4, l5, -⟩ := hX
  obtain ⟨-, -, ⟨n, w3, w4⟩, w5⟩ := hW
  have hn20 := w4 hB
  obtain ⟨v1, v2, v3, v4⟩ := w5 hB
  obtain ⟨⟨a7, a8, a14, a17, a21, a25⟩, r2, r3, r4, r5, r6, -, -, -, -⟩ := h
  have sg : ∀ {x y : Int32} {L : List Op}, SG σ c x y L → segM σ 1 x y L := by
    rintro x y L ⟨d, q1, q2, q3, q4⟩
    exact ⟨d, q1, q2, by omega, q4⟩
  refine ⟨⟨?_, a8, a14, a17, a21, a25, h38⟩, ⟨fun t ht => ?_, fun k hk => absurd hk (by show ¬ k < 0; omega)⟩, fun k hk => absurd hk (by show ¬ k < 0; omega), fun a b ha hb => ?_, fun k hk => ?_, fun p hp => ?_, fun p hp => ?_, fun r hr => ?_⟩
  · show mA σ 3 0 7 1 = nI (qN X).toNatClampNeg
    rw [a7, w3, nI_clamp (by omega)]
  · have ht : t < (qT X).length := ht
    exact r2 t _ (gX_get ht).1
  · show decide ((a, b) ∈ qD X) = true ↔ ∃ k, k < (qD X).length ∧ mA σ 3 0 15 (8 * 1 + k) = nI a ∧ mA σ 3 0 16 (8 * 1 + k) = nI b
    constructor
    · intro z
      obtain ⟨k, hk⟩ := List.mem_iff_getElem?.mp (of_decide_eq_true z)
      exact ⟨k, (List.getElem?_eq_some_iff.mp hk).1, r3 k _ hk ha⟩
    · rintro ⟨k, hk, z1, z2⟩
      have e : (qD X)[k]? = some (qD X)[k] := List.getElem?_eq_getElem hk
      generalize (qD X)[k] = d at e
      have m : d ∈ qD X := List.mem_of_getElem? e
      obtain ⟨d1, d2⟩ := v4 d m
      obtain ⟨y1, y2⟩ := r3 k d e d1
      have q1 : nI d.1 = nI a := y1.symm.trans z1
      have q2 : nI d.2 = nI b := y2.symm.trans z2
      have q1 := (nI_eq (by omega) (by omega)).mp q1
      have q2 := (nI_eq (by omega) (by omega)).mp q2
      refine decide_eq_true ?_
      rw [← q1, ← q2]; exact m
  · have hk : k < (qH X).length := hk
    exact r4 k _ (gX_get hk).1
  · have hp : p < (qS X).length := hp
    exact (r5 p _ (sX_get hp).1).1
  · have hp : p < (qS X).length := hp
    exact sg (r5 p _ (sX_get hp).1).2
  · have hr : r < (qR X).length := hr
    obtain ⟨l0, z1, z2, z3, z4⟩ := r6 r _ (rX_get hr).1
    refine ⟨l0, z1, z2, by show l0 + (fltC (((qR X)[r]?).getD [])).length ≤ 200; omega, fun j q hq => ?_⟩
    obtain ⟨y1, y2, y3, y4, y5⟩ := z4 j q hq
    exact ⟨y1, y2, y3, sg y4, sg y5⟩
