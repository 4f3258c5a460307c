/-! what was told, as the value that the invariant speaks of -/
def gX (L : List Nat) (j : Nat) : Nat := (L[j]?).getD 0
def dXt (T : Tk) (X : Xt) : DD := (fun j => if j = 0 then (qT X).length else if j = 1 then 0 else if j = 2 then (qD X).length else if j = 3 then (qH X).length else if j = 4 then (qS X).length else if j = 5 then (qR X).length else (qN X).toNatClampNeg,
  fun k j => if k = 0 then nI (tV T (gX (qT X) j + 2)) else if k = 1 then nI (tV T (gX (qT X) j + 3)) else if k = 2 then nI (tV T (gX (qT X) j + 4)) else if k = 3 then (if tK T (gX (qT X) j) = 16 then 1 else 0)
    else if k = 9 then nI (tV T (gX (qH X) j + 1)) else if k = 10 then nI (tV T (gX (qH X) j + 2)) else if k = 11 then nI (tV T (gX (qH X) j + 3)) else if k = 12 then (((qS X)[j]?).getD (0, 0, [])).2.1 else 0,
  fun a b => decide ((a, b) ∈ qD X), fun p => (((qS X)[p]?).getD (0, 0, [])).2.2, fun r => ((qR X)[r]?).getD [])
theorem gX_get {L : List Nat} {j : Nat} (h : j < L.length) : L[j]? = some (gX L j) ∧ gX L j ∈ L := by
  have e : L[j]? = some L[j] := List.getElem?_eq_getElem h
  have g : gX L j = L[j] := by unfold gX; rw [e]; rfl
  rw [g]; exact ⟨e, List.getElem_mem h⟩
theorem sX_get {L : List (Nat × Int32 × List Op)} {j : Nat} (h : j < L.length) : L[j]? = some ((L[j]?).getD (0, 0, [])) ∧ (L[j]?).getD (0, 0, []) ∈ L := by
  have e : L[j]? = some L[j] := List.getElem?_eq_getElem h
  rw [e]; exact ⟨rfl, List.getElem_mem h⟩
theorem rX_get {L : List Cd} {j : Nat} (h : j < L.length) : L[j]? = some ((L[j]?).getD []) ∧ (L[j]?).getD [] ∈ L := by
  have e : L[j]? = some L[j] := List.getElem?_eq_getElem h
  rw [e]; exact ⟨rfl, List.getElem_mem h⟩
theorem rIn_n {a m : Nat} (h : a ≤ m) (hm : m < 100000) : rIn (nI a) (nI m) := ⟨nI_le (a := 0) (Nat.zero_le _) (by omega), nI_le h (by omega)⟩
theorem WF_X {T : Tk} (hT : TW T) {X : Xt} (hX : okX T X) (hW : okW T X) (hB : qB X = none) : WF (dXt T X) := by
  obtain ⟨l1, l2, l3, l4, l5, -⟩ := hX
  obtain ⟨w1, w2, ⟨n, w3, w4⟩, w5⟩ := hW
  obtain ⟨v1, v2, v3, v4⟩ := w5 hB
  have hv : ∀ z, tV T z ≤ 9999 := hT.2.2.2.1
  refine ⟨?_, by show 0 ≤ 60; omega, l2, l3, l4, l5, ?_, fun t ht => ?_, fun k hk => absurd hk (by show ¬ k < 0; omega), fun p hp => ?_, fun r hr => ?_⟩
  · show (qT X).length + 0 ≤ 14; omega
  · show (qN X).toNatClampNeg ≤ 20
    rw [w3, nI_clamp (by have := w4 hB; omega)]; exact w4 hB
  · have ht : t < (qT X).length := ht
    obtain ⟨-, m⟩ := gX_get ht
    obtain ⟨a1, a2⟩ := v1 _ m
    refine ⟨rIn_n (m := 999) a1 (by omega), rIn_n (m := 999) a2 (by omega), rIn_n (m := 9999) (hv _) (by omega), ?_⟩
    show rIn (if tK T (gX (qT X) t) = 16 then 1 else 0) 1
    split
    · exact rIn_n (a := 1) (m := 1) (by omega) (by omega)
    · exact rIn_n (a := 0) (m := 1) (by omega) (by omega)
  · have hp : p < (qS X).length := hp
    obtain ⟨-, m⟩ := sX_get hp
    obtain ⟨z, z1, z2⟩ := v3 _ m
    refine ⟨?_, w1 _ m⟩
    show rIn (((qS X)[p]?).getD (0, 0, [])).2.1 20
    rw [z1]; exact rIn_n (m := 20) z2 (by omega)
  · have hr : r < (qR X).length := hr
    exact w2 _ (rX_get hr).2
