theorem RC_X {T : Tk} {i s u : Nat} {σ : Mm} {X : Xt} (hW : okW T X) (hX : okX T X) (hB : qB X = none) (hu : u ≤ 400) (h : CR T i u X σ) (s0 : mA σ 2 s 0 0 = 0) (s1 : mA σ 2 s 0 1 = 0) : RC σ i s (dXt T X) := by
  obtain ⟨l1, l2, l3, l4, l5, -⟩ := hX
  obtain ⟨-, -, ⟨n, w3, w4⟩, -⟩ := hW
  have hn20 := w4 hB
  obtain ⟨⟨a0, a1, a6, a8, a12, a14⟩, c2, c3, c4, c5, c6, -, -⟩ := h
  have sg : ∀ {p : Nat} {L : List (Int32 × Int32)}, segU σ i u p L → segC σ i p L := by
    rintro p L ⟨c, q1, q2, q3, q4⟩
    exact ⟨c, q1, q2, by omega, q4⟩
  refine ⟨⟨?_, a1, a6, a8, a12, a14⟩, fun t ht => ?_, fun a b ha hb => ?_, fun k hk => ?_, fun p hp => ?_, fun p hp => ?_, fun r hr => ?_, s0, s1, fun k hk => absurd hk (by show ¬ k < 0; omega)⟩
  · show mA σ 1 i 0 0 = nI (qN X).toNatClampNeg
    rw [a0, w3, nI_clamp (by omega)]
  · have ht : t < (qT X).length := ht
    obtain ⟨z1, z2, z3, z4, -⟩ := c2 t _ (gX_get ht).1
    exact ⟨z1, z2, z3, z4⟩
  · rw [bt_test (by omega)]
    show (if bt (mA σ 1 i 5 a) b = true then (1 : Int32) else 0) = if decide ((a, b) ∈ qD X) = true then 1 else 0
    by_cases c : bt (mA σ 1 i 5 a) b = true
    · rw [if_pos c, if_pos (decide_eq_true ((c3 a b ha hb).mp c))]
    · rw [if_neg c, if_neg (fun z => c ((c3 a b ha hb).mpr (of_decide_eq_true z)))]
  · have hk : k < (qH X).length := hk
    exact c4 k _ (gX_get hk).1
  · have hp : p < (qS X).length := hp
    exact (c5 p _ (sX_get hp).1).1
  · have hp : p < (qS X).length := hp
    exact sg (c5 p _ (sX_get hp).1).2.2
  · have hr : r < (qR X).length := hr
    exact sg (c6 r _ (rX_get hr).1)
