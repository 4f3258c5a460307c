abbrev Mm : Type := (Nat → Nat → Nat → Nat → Int32) × (Nat → Nat → Nat → Nat → Int64) × (Nat → Nat)
abbrev mA (σ : Mm) : Nat → Nat → Nat → Nat → Int32 := σ.1
abbrev mL (σ : Mm) : Nat → Nat → Nat → Nat → Int64 := σ.2.1
abbrev mP (σ : Mm) : Nat → Nat := σ.2.2
def ids (h : Nat → Bool) : List (Nat × Nat × Nat) := idA.filter (fun q => lvq h q.1 q.2.1 q.2.2)
def cl (S : Shp) (σ : Mm) (q : Nat × Nat × Nat) : Nat × va_E := (sL S q.1 q.2.1 q.2.2, cR S (mP σ) q.1 q.2.1 q.2.2 (mA σ q.1 q.2.1 q.2.2) (mL σ q.1 q.2.1 q.2.2))
/-- the world: all cells that are there -/
def wr (S : Shp) (σ : Mm) : va_W := (ids (sH S)).map (cl S σ)
set_option maxRecDepth 100000 in
theorem idA_nd : idA.Nodup := by decide +kernel
theorem ids_nd (h : Nat → Bool) : (ids h).Nodup := List.Pairwise.filter _ idA_nd
theorem ids_mem {h : Nat → Bool} {t i k : Nat} (hl : lvq h t i k = true) : (t, i, k) ∈ ids h := by
  refine List.mem_filter.mpr ⟨?_, hl⟩
  unfold idA
  match t, hl with
  | 0, hl =>
    simp only [lvq, Bool.and_eq_true, Nat.blt_eq] at hl
    obtain ⟨hi, hk⟩ := hl
    have hi := Nat.eq_of_beq_eq_true hi
    subst hi
    exact List.mem_append_left _ (List.mem_map.mpr ⟨k, List.mem_range.mpr hk, rfl⟩)
  | 1, hl =>
    simp only [lvq, Bool.and_eq_true, Bool.or_eq_true, Nat.blt_eq] at hl
    obtain ⟨hi, hk⟩ := hl
    exact List.mem_append_right _ (List.mem_append_left _ (List.mem_flatMap.mpr ⟨i, List.mem_range.mpr (by omega), List.mem_map.mpr ⟨k, List.mem_range.mpr hk, rfl⟩⟩))
  | 2, hl =>
    simp only [lvq, Bool.and_eq_true, Bool.or_eq_true, Nat.blt_eq] at hl
    obtain ⟨hi, hk⟩ := hl
    have hi : i = 0 ∨ i < 4 := hi.elim (fun h => Or.inl (Nat.eq_of_beq_eq_true h)) (fun h => Or.inr h.1)
    exact List.mem_append_right _ (List.mem_append_right _ (List.mem_append_left _ (List.mem_flatMap.mpr ⟨i, List.mem_range.mpr (by omega), List.mem_map.mpr ⟨k, List.mem_range.mpr hk, rfl⟩⟩)))
  | 3, hl =>
    simp only [lvq, Bool.and_eq_true, Nat.blt_eq] at hl
    obtain ⟨hi, hk⟩ := hl
    have hi := Nat.eq_of_beq_eq_true hi
    subst hi
    exact List.mem_append_right _ (List.mem_append_right _ (List.mem_append_right _ (List.mem_map.mpr ⟨k, List.mem_range.mpr hk, rfl⟩)))
  | t + 4, hl => simp [lvq] at hl
theorem ids_at {h : Nat → Bool} {t i k : Nat} (hl : lvq h t i k = true) : ∃ p : Nat, (ids h)[p]? = some (t, i, k) := List.getElem?_of_mem (ids_mem hl)
theorem wr_at {S : Shp} {p t i k : Nat} (hp : (ids (sH S))[p]? = some (t, i, k)) (σ : Mm) : (wr S σ)[p]? = some (sL S t i k, cR S (mP σ) t i k (mA σ t i k) (mL σ t i k)) := by
  unfold wr
  rw [List.getElem?_map, hp]
  rfl
theorem wr_set {S : Shp} {σ σ' : Mm} {p : Nat} {q0 : Nat × Nat × Nat} (hp : (ids (sH S))[p]? = some q0) (h : ∀ q, q ≠ q0 → cl S σ' q = cl S σ q) : (wr S σ).set p (cl S σ' q0) = wr S σ' := by
  apply List.ext_getElem?
  intro n
  unfold wr
  by_cases hn : n = p
  · subst hn
    rw [List.getElem?_set_self (by rw [List.length_map]; exact (List.getElem?_eq_some_iff.mp hp).1), List.getElem?_map, hp]
    rfl
  · rw [List.getElem?_set_ne (Ne.symm hn), List.getElem?_map, List.getElem?_map]
    cases hq : (ids (sH S))[n]? with
    | none => rfl
    | some q =>
      have hne : q ≠ q0 := by
        intro z
        subst z
        exact hn ((List.getElem?_inj (List.getElem?_eq_some_iff.mp hq).1 (ids_nd _)).mp (hq.trans hp.symm))
      simp only [Option.map_some]
      rw [h q hne]
/-- a row set anew -/
def u3 {α : Type} (f : Nat → Nat → Nat → α) (t i k : Nat) (g : α) : Nat → Nat → Nat → α := fun t' i' k' => if t' = t ∧ i' = i ∧ k' = k then g else f t' i' k'
theorem u3_self {α : Type} (f : Nat → Nat → Nat → α) (t i k : Nat) (g : α) : u3 f t i k g t i k = g := if_pos ⟨rfl, rfl, rfl⟩
theorem u3_ne {α : Type} {f : Nat → Nat → Nat → α} {t i k t' i' k' : Nat} {g : α} (h : (t', i', k') ≠ (t, i, k)) : u3 f t i k g t' i' k' = f t' i' k' := if_neg (fun ⟨a, b, c⟩ => h (by rw [a, b, c]))
abbrev setA (σ : Mm) (t i k : Nat) (g : Nat → Int32) : Mm := (u3 (mA σ) t i k g, mL σ, mP σ)
abbrev setL (σ : Mm) (t i k : Nat) (g : Nat → Int64) : Mm := (mA σ, u3 (mL σ) t i k g, mP σ)
abbrev setP (σ : Mm) (n i : Nat) : Mm := (mA σ, mL σ, fun j => if j = n then i else mP σ j)
theorem wr_setA {S : Shp} {σ : Mm} {p t i k : Nat} (hp : (ids (sH S))[p]? = some (t, i, k)) (g : Nat → Int32) : (wr S σ).set p (sL S t i k, cR S (mP σ) t i k g (mL σ t i k)) = wr S (setA σ t i k g) := by
  rw [← wr_set (σ := σ) (σ' := setA σ t i k g) hp (fun q hq => by
    obtain ⟨t', i', k'⟩ := q
    simp only [cl, mA, mL, mP]
    rw [u3_ne hq])]
  simp only [cl, mA, mL, mP]
  rw [u3_self]
theorem wr_setL {S : Shp} {σ : Mm} {p t i k : Nat} (hp : (ids (sH S))[p]? = some (t, i, k)) (g : Nat → Int64) : (wr S σ).set p (sL S t i k, cR S (mP σ) t i k (mA σ t i k) g) = wr S (setL σ t i k g) := by
  rw [← wr_set (σ := σ) (σ' := setL σ t i k g) hp (fun q hq => by
    obtain ⟨t', i', k'⟩ := q
    simp only [cl, mA, mL, mP]
    rw [u3_ne hq])]
  simp only [cl, mA, mL, mP]
  rw [u3_self]
