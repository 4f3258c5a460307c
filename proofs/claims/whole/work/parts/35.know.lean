/-! what is known by n -/
def vd (D : DD) (k : Nat) : Nat → Bool
  | 0 => false
  | m + 1 => vd D k m || decide (dA D 4 m = 4 ∧ dA D 5 m = nI k)
def liv (D : DD) (n k : Nat) : Bool := decide (k < n) && !vd D k n
def lst (D : DD) (n : Nat) (κ : Int32) (t : Nat) : Nat → Option Nat
  | 0 => none
  | m + 1 => if dA D 4 m = κ ∧ dA D 5 m = nI t ∧ liv D n m = true then some m else lst D n κ t m
def fx (D : DD) (t : Nat) : Nat → Option Nat
  | 0 => none
  | m + 1 => if dA D 4 m = 0 ∧ dN D 0 + cntF (D.2.1 4) m = t then some m else fx D t m
/-- a thing's value as the text or its finding has it -/
def bas (D : DD) (r r' t : Nat) : Int32 := match fx D t (dN D 1) with
  | some k => dA D r' k
  | none => dA D r t
def kE (D : DD) (n t : Nat) : Int32 := match lst D n 1 t n with
  | some m => dA D 6 m
  | none => bas D 0 6 t
def kN (D : DD) (n t : Nat) : Int32 := match lst D n 1 t n with
  | some m => dA D 7 m
  | none => bas D 1 7 t
def kA (D : DD) (n t : Nat) : Int32 := match lst D n 3 t n with
  | some m => dA D 8 m
  | none => bas D 2 8 t
def kS (D : DD) (t : Nat) : Int32 := match fx D t (dN D 1) with
  | some _ => 0
  | none => dA D 3 t
def kG (D : DD) (n t : Nat) : Bool := (lst D n 2 t n).isSome || (match fx D t (dN D 1) with
  | some k => !liv D n k
  | none => false)
theorem lst_ge {D : DD} {n : Nat} {κ : Int32} {t m : Nat} (h : n ≤ m) : lst D n κ t m = lst D n κ t n := by
  induction m with
  | zero => have : n = 0 := by omega
            subst this; rfl
  | succ m ih =>
    by_cases e : n = m + 1
    · rw [e]
    · show (if _ then _ else _) = _
      rw [if_neg, ih (by omega)]
      rintro ⟨-, -, hl⟩
      unfold liv at hl
      rw [show decide (m < n) = false from decide_eq_false (by omega)] at hl
      cases hl
theorem fx_lt {D : DD} {t m k : Nat} (h : fx D t m = some k) : k < m ∧ dA D 4 k = 0 ∧ dN D 0 + cntF (D.2.1 4) k = t := by
  induction m with
  | zero => cases h
  | succ m ih =>
    unfold fx at h
    split at h
    · rename_i hc; cases h; exact ⟨by omega, hc⟩
    · obtain ⟨a, b⟩ := ih h; exact ⟨by omega, b⟩
theorem fx_none {D : DD} {t m : Nat} (h : t < dN D 0 ∨ dN D 0 + cntF (D.2.1 4) m ≤ t) : fx D t m = none := by
  induction m with
  | zero => rfl
  | succ m ih =>
    unfold fx
    have e : cntF (D.2.1 4) (m + 1) = cntF (D.2.1 4) m + (if dA D 4 m = 0 then 1 else 0) := rfl
    rw [if_neg]
    · refine ih ?_
      rcases h with h | h
      · exact Or.inl h
      · refine Or.inr ?_; rw [e] at h; omega
    · rintro ⟨a, b⟩
      rcases h with h | h
      · omega
      · rw [e, if_pos a] at h; omega
theorem fx_at {D : DD} {k m : Nat} (hk : k < m) (h0 : dA D 4 k = 0) : fx D (dN D 0 + cntF (D.2.1 4) k) m = some k := by
  induction m with
  | zero => omega
  | succ m ih =>
    unfold fx
    by_cases e : k = m
    · subst e; rw [if_pos ⟨h0, rfl⟩]
    · rw [if_neg, ih (by omega)]
      rintro ⟨a, b⟩
      exact e (cntF_inj (f := D.2.1 4) h0 a (by omega))
theorem lst_some {D : DD} {n : Nat} {κ : Int32} {t m k : Nat} (h : lst D n κ t m = some k) : k < m ∧ dA D 4 k = κ ∧ dA D 5 k = nI t ∧ liv D n k = true := by
  induction m with
  | zero => cases h
  | succ m ih =>
    unfold lst at h
    split at h
    · rename_i hc; cases h; exact ⟨by omega, hc⟩
    · obtain ⟨a, b⟩ := ih h; exact ⟨by omega, b⟩
/-- one fact comes into the ground -/
theorem s_apply {σ : Mm} {f t : Nat} {κ hb e n y : Int32} (hf : f < 60) (ht : t < 14) (h1 : mA σ 2 0 1 f = κ) (h2 : κ ≠ 4 → mA σ 2 0 2 f = nI t) (h3 : mA σ 2 0 3 f = e) (h4 : mA σ 2 0 4 f = n) (h5 : mA σ 2 0 5 f = y) (hk : κ = 0 ∨ κ = 1 ∨ κ = 2 ∨ κ = 3 ∨ κ = 4) :
    Ok (F_X2_apply 0 (nI f) hb σ) (fun τ => mA τ 0 0 15 0 = (if κ = 0 then nI (t + 1) else mA σ 0 0 15 0) ∧ mA τ 0 0 16 = (if κ = 0 ∨ (κ = 1 ∧ hb ≠ 0) then upd (mA σ 0 0 16) t e else mA σ 0 0 16) ∧ mA τ 0 0 17 = (if κ = 0 ∨ (κ = 1 ∧ hb ≠ 0) then upd (mA σ 0 0 17) t n else mA σ 0 0 17) ∧
      mA τ 0 0 18 = (if κ = 0 ∨ (κ = 3 ∧ hb ≠ 0) then upd (mA σ 0 0 18) t y else mA σ 0 0 18) ∧ mA τ 0 0 19 = (if κ = 0 then upd (mA σ 0 0 19) t 0 else mA σ 0 0 19) ∧ mA τ 0 0 20 = (if κ = 0 then upd (mA σ 0 0 20) t (if hb = 0 then 1 else 0) else if κ = 2 ∧ hb ≠ 0 then upd (mA σ 0 0 20) t 1 else mA σ 0 0 20)) := by
  have cf : (nI f).toNatClampNeg = f := nI_clamp (by omega)
  have ct : (nI t).toNatClampNeg = t := nI_clamp (by omega)
  have i60 : inb (nI f) 60 = true := by clear h1 h2 h3 h4 h5 hk; grind [gI, gB, gC]
  have i14 : inb (nI t) 14 = true := by clear h1 h2 h3 h4 h5 hk i60; grind [gI, gB, gC]
  have nt : ¬ nI t < 0 := nI_pos (by omega)
  have lt : nI t < 14 := nI_lt ht (by decide)
  have z0 : vp_nar .boolean 0 = 0 := by decide
  have z1 : vp_nar .boolean 1 = 1 := by decide
  unfold F_X2_apply F_X2_apply_48 F_X2_apply_56 F_X2_apply_71 F_X2_apply_80 F_X2_apply_91 F_X2_apply_104 F_X2_apply_117 F_X2_apply_128 F_X2_apply_141
  have d04 : ¬ (0 : Int32) = 4 := by decide
  have d14 : ¬ (1 : Int32) = 4 := by decide
  have d24 : ¬ (2 : Int32) = 4 := by decide
  have d34 : ¬ (3 : Int32) = 4 := by decide
  have d10 : ¬ (1 : Int32) = 0 := by decide
  have d20 : ¬ (2 : Int32) = 0 := by decide
  have d30 : ¬ (3 : Int32) = 0 := by decide
  have d40 : ¬ (4 : Int32) = 0 := by decide
  have d21 : ¬ (2 : Int32) = 1 := by decide
  have d31 : ¬ (3 : Int32) = 1 := by decide
  have d41 : ¬ (4 : Int32) = 1 := by decide
  have d02 : ¬ (0 : Int32) = 2 := by decide
  have d12 : ¬ (1 : Int32) = 2 := by decide
  have d32 : ¬ (3 : Int32) = 2 := by decide
  have d42 : ¬ (4 : Int32) = 2 := by decide
  have d13 : ¬ (1 : Int32) = 3 := by decide
  have d23 : ¬ (2 : Int32) = 3 := by decide
  have d43 : ¬ (4 : Int32) = 3 := by decide
  simp only [cf, i60, if_true]
  rcases hk with rfl | rfl | rfl | rfl | rfl
  · have h2' := h2 d04
    simp only [h1, h2', h3, h4, h5, d04, nt, lt, if_true, if_false, i14, ct, z0, z1, mA_R, d02]
    by_cases hh : hb = 0
    · simp only [hh, if_true, Ok_some]
      simp [mA_R, h3, h4, h5, h2', nI_1, upd_at, hh]
    · simp only [hh, if_false, Ok_some]
      simp [mA_R, h3, h4, h5, h2', nI_1, upd_at, hh]
  · have h2' := h2 d14
    simp only [h1, h2', h3, h4, h5, d14, d10, d12, d13, nt, lt, if_true, if_false, i14, ct, z0, z1, mA_R]
    by_cases hh : hb = 0
    · simp only [hh, if_true, Ok_some]
      simp [mA_R, hh]
    · simp only [hh, if_false, Ok_some]
      simp [mA_R, h3, h4, h5, h2', nI_1, upd_at, hh]
  · have h2' := h2 d24
    simp only [h1, h2', h3, h4, h5, d24, d20, d21, d23, nt, lt, if_true, if_false, i14, ct, z0, z1, mA_R]
    by_cases hh : hb = 0
    · simp only [hh, if_true, Ok_some]
      simp [mA_R, hh]
    · simp only [hh, if_false, Ok_some]
      simp [mA_R, h3, h4, h5, h2', nI_1, upd_at, hh]
  · have h2' := h2 d34
    simp only [h1, h2', h3, h4, h5, d34, d30, d31, d32, nt, lt, if_true, if_false, i14, ct, z0, z1, mA_R]
    by_cases hh : hb = 0
    · simp only [hh, if_true, Ok_some]
      simp [mA_R, hh]
    · simp only [hh, if_false, Ok_some]
      simp [mA_R, h3, h4, h5, h2', nI_1, upd_at, hh]
  · simp only [h1, d40, d41, d42, d43, if_true, if_false, Ok_some, false_and, or_self]
    simp
