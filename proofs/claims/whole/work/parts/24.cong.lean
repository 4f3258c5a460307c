/-! the state carried from one place to another -/
def sz (k : Nat) : Nat :=
  if k = 7 ∨ k = 8 ∨ k = 14 ∨ k = 17 ∨ k = 21 ∨ k = 25 ∨ k = 38 then 1 else if 9 ≤ k ∧ k ≤ 13 then 14 else if k = 15 ∨ k = 16 then 8 else if 18 ≤ k ∧ k ≤ 20 then 12 else if 22 ≤ k ∧ k ≤ 24 then 5 else if k = 26 ∨ k = 27 then 6 else if k = 29 ∨ k = 30 then 500 else if 32 ≤ k ∧ k ≤ 37 then 200 else if 39 ≤ k ∧ k ≤ 42 then 60 else 0
def szC (k : Nat) : Nat := if 1 ≤ k ∧ k ≤ 5 then 14 else if 6 ≤ k ∧ k ≤ 8 then 12 else if k = 9 then 5 else if k = 11 ∨ k = 12 then 400 else if k = 13 ∨ k = 14 then 11 else 0
theorem fact_t {D : DD} (hW : WF D) {k : Nat} (hk : k < dN D 1) (h0 : dA D 4 k = 0) : dN D 0 + cntF (D.2.1 4) k < 14 := by
  have h1 : nT D ≤ 14 := hW.1
  have h2 : cntF (D.2.1 4) k < cntF (D.2.1 4) (dN D 1) := cntF_lt hk h0
  unfold nT at h1
  omega
theorem segM.cong {σ τ : Mm} {b b' : Nat} {x y : Int32} {L : List Op} (h : segM σ b x y L) (he : ∀ k t, (k = 29 ∨ k = 30) → t < 500 → mA τ 3 0 k (500 * b' + t) = mA σ 3 0 k (500 * b + t)) : segM τ b' x y L := by
  obtain ⟨c, h1, h2, h3, h4⟩ := h
  refine ⟨c, h1, h2, h3, fun j o hj => ?_⟩
  have hl : j < L.length := (List.getElem?_eq_some_iff.mp hj).1
  rw [he 29 (c + j) (Or.inl rfl) (by omega), he 30 (c + j) (Or.inr rfl) (by omega)]
  exact h4 j o hj
theorem RM.congG {σ τ : Mm} {b b' : Nat} {D : DD} (hW : WF D) (h : RM σ b D) (he' : ∀ k x, x < sz k → mA τ 3 0 k (sz k * b' + x) = mA σ 3 0 k (sz k * b + x) ∨ ((k = 9 ∨ k = 32) ∧ mA τ 3 0 k (sz k * b' + x) = vp_nar .boolean (mA σ 3 0 k (sz k * b + x)))) : RM τ b' D := by
  have he : ∀ k x, x < sz k → k ≠ 9 → k ≠ 32 → mA τ 3 0 k (sz k * b' + x) = mA σ 3 0 k (sz k * b + x) := fun k x hx h9 h32 => (he' k x hx).elim id (fun z => absurd z.1 (by omega))
  have eB : ∀ n k t v, sz k = n → t < n → mA σ 3 0 k (n * b + t) = v → (v = 0 ∨ v = 1) → mA τ 3 0 k (n * b' + t) = v := by
    intro n k t v hk ht hv h01
    subst hk
    rcases he' k t ht with e | ⟨-, e⟩
    · rw [e, hv]
    · rw [e, hv]; rcases h01 with rfl | rfl <;> decide
  have eN : ∀ n k t, sz k = n → t < n → k ≠ 9 → k ≠ 32 → mA τ 3 0 k (n * b' + t) = mA σ 3 0 k (n * b + t) := by
    intro n k t hk ht h9 h32
    have := he k t (by omega) h9 h32
    rwa [hk] at this
  have e1 : ∀ k, sz k = 1 → mA τ 3 0 k b' = mA σ 3 0 k b := by
    intro k hk
    have h9 : k ≠ 9 := fun z => by subst z; cases hk
    have h32 : k ≠ 32 := fun z => by subst z; cases hk
    have := eN 1 k 0 hk (by omega) h9 h32
    simpa using this
  have e5 : ∀ k t, (k = 29 ∨ k = 30) → t < 500 → mA τ 3 0 k (500 * b' + t) = mA σ 3 0 k (500 * b + t) := by
    intro k t hk ht
    rcases hk with rfl | rfl
    · exact eN 500 29 t rfl ht (by decide) (by decide)
    · exact eN 500 30 t rfl ht (by decide) (by decide)
  obtain ⟨h1, h2, h3, h4, h5, h6, h7, h8⟩ := h
  obtain ⟨w1, w2, w3, w4, w5, w6, w7, w8, -, -, -⟩ := id hW
  refine ⟨?_, ?_, ?_, ?_, ?_, ?_, ?_, ?_⟩
  · unfold RMn
    rw [e1 7 rfl, e1 8 rfl, e1 14 rfl, e1 17 rfl, e1 21 rfl, e1 25 rfl, e1 38 rfl]
    exact h1
  · refine ⟨fun t ht => ?_, fun k hk h0 => ?_⟩
    · have : t < 14 := by unfold nT at w1; omega
      rw [eN 14 10 t rfl this (by decide) (by decide), eN 14 11 t rfl this (by decide) (by decide), eN 14 12 t rfl this (by decide) (by decide), eN 14 13 t rfl this (by decide) (by decide)]
      obtain ⟨z1, z2, z3, z4, z5⟩ := h2.1 t ht
      have z6 := (w8 t ht).2.2.2
      refine ⟨z1, z2, z3, eB 14 9 t _ rfl this z4 ?_, z5⟩
      clear he he' eB eN e1 e5 h2 h3 h4 h5 h6 h7 h8 w8 hW
      grind
    · have := fact_t hW hk h0
      rw [eN 14 10 _ rfl this (by decide) (by decide), eN 14 11 _ rfl this (by decide) (by decide), eN 14 12 _ rfl this (by decide) (by decide), eN 14 13 _ rfl this (by decide) (by decide)]
      obtain ⟨z1, z2, z3, z4, z5⟩ := h2.2 k hk h0
      exact ⟨z1, z2, z3, eB 14 9 _ _ rfl this z4 (Or.inl rfl), z5⟩
  · intro k hk
    have : k < 60 := by omega
    rw [eN 60 39 k rfl this (by decide) (by decide), eN 60 40 k rfl this (by decide) (by decide), eN 60 41 k rfl this (by decide) (by decide), eN 60 42 k rfl this (by decide) (by decide)]
    exact h3 k hk
  · intro a a' ha ha'
    rw [h4 a a' ha ha']
    constructor
    · rintro ⟨k, hk, q1, q2⟩
      exact ⟨k, hk, by rw [eN 8 15 k rfl (by omega) (by decide) (by decide)]; exact q1, by rw [eN 8 16 k rfl (by omega) (by decide) (by decide)]; exact q2⟩
    · rintro ⟨k, hk, q1, q2⟩
      exact ⟨k, hk, by rw [eN 8 15 k rfl (by omega) (by decide) (by decide)] at q1; exact q1, by rw [eN 8 16 k rfl (by omega) (by decide) (by decide)] at q2; exact q2⟩
  · intro k hk
    have : k < 12 := by omega
    rw [eN 12 18 k rfl this (by decide) (by decide), eN 12 19 k rfl this (by decide) (by decide), eN 12 20 k rfl this (by decide) (by decide)]
    exact h5 k hk
  · intro p hp
    rw [eN 5 22 p rfl (by omega) (by decide) (by decide)]
    exact h6 p hp
  · intro p hp
    rw [eN 5 23 p rfl (by omega) (by decide) (by decide), eN 5 24 p rfl (by omega) (by decide) (by decide)]
    exact (h7 p hp).cong e5
  · intro r hr
    obtain ⟨l0, q1, q2, q3, q4⟩ := h8 r hr
    refine ⟨l0, ?_, ?_, q3, fun j q hj => ?_⟩
    · rw [eN 6 26 r rfl (by omega) (by decide) (by decide)]; exact q1
    · rw [eN 6 27 r rfl (by omega) (by decide) (by decide)]; exact q2
    · have hl : j < (fltC (dR D r)).length := (List.getElem?_eq_some_iff.mp hj).1
      have : l0 + j < 200 := by omega
      obtain ⟨z1, z2, z3, z4, z5⟩ := q4 j q hj
      rw [eN 200 37 _ rfl this (by decide) (by decide), eN 200 33 _ rfl this (by decide) (by decide), eN 200 34 _ rfl this (by decide) (by decide), eN 200 35 _ rfl this (by decide) (by decide), eN 200 36 _ rfl this (by decide) (by decide)]
      exact ⟨z1, eB 200 32 _ _ rfl this z2 (by cases q.2.1 <;> simp), z3, z4.cong e5, z5.cong e5⟩
theorem RM.cong {σ τ : Mm} {b b' : Nat} {D : DD} (hW : WF D) (h : RM σ b D) (he : ∀ k x, x < sz k → mA τ 3 0 k (sz k * b' + x) = mA σ 3 0 k (sz k * b + x)) : RM τ b' D := RM.congG hW h fun k x hx => Or.inl (he k x hx)
theorem segC.cong {σ τ : Mm} {i i' p : Nat} {L : List (Int32 × Int32)} (hp : p < 11) (h : segC σ i p L) (ht : ∀ k x, x < szC k → mA τ 1 i' k x = mA σ 1 i k x) : segC τ i' p L := by
  obtain ⟨c, h1, h2, h3, h4⟩ := h
  refine ⟨c, ?_, ?_, h3, fun j q hj => ?_⟩
  · rw [ht 13 p hp]; exact h1
  · rw [ht 14 p hp]; exact h2
  · have hl : j < L.length := (List.getElem?_eq_some_iff.mp hj).1
    have hz : c + j < 400 := by omega
    rw [ht 11 (c + j) hz, ht 12 (c + j) hz]
    exact h4 j q hj
theorem RC.cong {σ τ : Mm} {i s i' s' : Nat} {D : DD} (hW : WF D) (h : RC σ i s D)
    (hn : mA τ 1 i' 0 0 = mA σ 1 i 0 0 ∧ mA τ 1 i' 0 1 = mA σ 1 i 0 1 ∧ mA τ 1 i' 0 6 = mA σ 1 i 0 6 ∧ mA τ 1 i' 0 8 = mA σ 1 i 0 8 ∧ mA τ 1 i' 0 12 = mA σ 1 i 0 12 ∧ mA τ 1 i' 0 14 = mA σ 1 i 0 14)
    (ht : ∀ k x, x < szC k → mA τ 1 i' k x = mA σ 1 i k x)
    (hs : mA τ 2 s' 0 0 = mA σ 2 s 0 0 ∧ mA τ 2 s' 0 1 = mA σ 2 s 0 1 ∧ ∀ k x, 1 ≤ k → k ≤ 5 → x < 60 → mA τ 2 s' k x = mA σ 2 s k x) : RC τ i' s' D := by
  obtain ⟨h1, h2, h3, h4, h5, h6, h7, h8⟩ := h
  obtain ⟨w1, w2, w3, w4, w5, w6, w7, -, -, -, -⟩ := id hW
  refine ⟨?_, ?_, ?_, ?_, ?_, ?_, ?_, ?_⟩
  · unfold RCn
    rw [hn.1, hn.2.1, hn.2.2.1, hn.2.2.2.1, hn.2.2.2.2.1, hn.2.2.2.2.2]
    exact h1
  · intro t hT
    have : t < 14 := by unfold nT at w1; omega
    rw [ht 1 t this, ht 2 t this, ht 3 t this, ht 4 t this]
    exact h2 t hT
  · intro a c ha hc
    rw [ht 5 a ha]
    exact h3 a c ha hc
  · intro k hk
    have : k < 12 := by omega
    rw [ht 6 k this, ht 7 k this, ht 8 k this]
    exact h4 k hk
  · intro p hp
    have : p < 5 := by omega
    rw [ht 9 p this]
    exact h5 p hp
  · intro p hp
    exact (h6 p hp).cong (by omega) ht
  · intro r hr
    exact (h7 r hr).cong (by omega) ht
  · refine ⟨hs.1.trans h8.1, hs.2.1.trans h8.2.1, fun k hk => ?_⟩
    have : k < 60 := by omega
    rw [hs.2.2 1 k (by omega) (by omega) this, hs.2.2 2 k (by omega) (by omega) this, hs.2.2 3 k (by omega) (by omega) this, hs.2.2 4 k (by omega) (by omega) this, hs.2.2 5 k (by omega) (by omega) this]
    exact h8.2.2 k hk
