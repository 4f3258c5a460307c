/-! anything: the model, and both -/
theorem counting_nat {a t p q x : Nat} (ha : a ≤ 100) (ht : t ≤ 9) (hp : p ≤ 20) (hq : q ≤ 20) (hx : x ≤ 2000) : f_X12_isCounting (nI a) (nI p) (nI q) (nI x) (nI t) = if cQ a t p q x then 1 else 0 := by
  have := cQ_eq ha ht hp hq hx
  unfold f_X12_isCounting
  change (if nI t * nI p < f_J9_abs_0f7a4 (nI a * nI q - nI x * nI p) then (0 : Int32) else 1) = _
  cases c : cQ a t p q x with
  | false => rw [if_pos (this.mpr c)]; rfl
  | true => rw [if_neg (fun z => by rw [this.mp z] at c; exact absurd c (by decide))]; rfl
theorem exQ_mono {a t p x q : Nat} (h : exQ a t p x q = true) : ∀ R, q ≤ R → exQ a t p x R = true := by
  intro R
  induction R with
  | zero => intro hR; have : q = 0 := by omega
            subst this; exact h
  | succ R ih =>
    intro hR
    by_cases e : q = R + 1
    · subst e; exact h
    · show (exQ a t p x R || _) = true
      rw [ih (by omega)]; rfl
theorem exP_mono {a t R x p : Nat} (h : exP a t R x p = true) : ∀ P, p ≤ P → exP a t R x P = true := by
  intro P
  induction P with
  | zero => intro hR; have : p = 0 := by omega
            subst this; exact h
  | succ P ih =>
    intro hR
    by_cases e : p = P + 1
    · subst e; exact h
    · show (exP a t R x P || _) = true
      rw [ih (by omega)]; rfl
theorem anyM_88 {a t p P R N x : Nat} {k : Int32} {σ : Mm} (ha : a ≤ 100) (ht : t ≤ 9) (hp : p ≤ 20) (hR : R ≤ 20) (hx : x ≤ 2000) (rc61 : Int32 → Int32 → Int32 → Int32 → Int32 → Int32 → Int32 → Mm → Option (Int32 × Mm)) (rc74 : Int32 → Int32 → Int32 → Int32 → Int32 → Int32 → Int32 → Int32 → Int32 → Mm → Option (Int32 × Mm)) : ∀ (m q : Nat), R - q < m → q ≤ R → F_X12_anything_88 rc61 rc74 m (nI a) (nI P) (nI R) (nI t) (nI N) k (nI x) (if exQ a t p x q then 1 else 0) (nI p) (nI (q + 1)) σ = rc74 (nI a) (nI P) (nI R) (nI t) (nI N) k (nI x) (if exQ a t p x R then 1 else 0) (nI (p + 1)) σ := by
  intro m
  induction m with
  | zero => intro q h; omega
  | succ m ih =>
    intro q hm hq
    change B_X12_anything_88 rc61 rc74 (F_X12_anything_88 rc61 rc74 m) _ _ _ _ _ _ _ _ _ _ _ = _
    unfold B_X12_anything_88 F_X12_anything_119 F_X12_anything_113
    rw [nI_1, nI_1]
    by_cases hd : R < q + 1
    · have e : q = R := by omega
      subst e
      rw [if_pos (nI_lt hd (by omega))]
    rw [if_neg (fun z => hd ((nI_ltN (by omega) (by omega)).mp z))]
    cases c : exQ a t p x q with
    | true =>
      rw [if_neg (by decide), exQ_mono c R hq]
    | false =>
      rw [if_pos (by decide), counting_nat ha ht hp (by omega) hx]
      have e : exQ a t p x (q + 1) = cQ a t p (q + 1) x := by show (exQ a t p x q || _) = _; rw [c]; rfl
      rw [← e]
      exact ih (q + 1) (by omega) (by omega)
theorem anyM_74 {a t P R N x : Nat} {k : Int32} {σ : Mm} (ha : a ≤ 100) (ht : t ≤ 9) (hP : P ≤ 20) (hR : R ≤ 20) (hx : x ≤ 2000) (rc61 : Int32 → Int32 → Int32 → Int32 → Int32 → Int32 → Int32 → Mm → Option (Int32 × Mm)) : ∀ (m p : Nat), P - p < m → p ≤ P → F_X12_anything_74 rc61 m (nI a) (nI P) (nI R) (nI t) (nI N) k (nI x) (if exP a t R x p then 1 else 0) (nI (p + 1)) σ = rc61 (nI a) (nI P) (nI R) (nI t) (nI N) (k + (if exP a t R x P then 1 else 0)) (nI (x + 1)) σ := by
  intro m
  induction m with
  | zero => intro q h; omega
  | succ m ih =>
    intro p hm hp
    have h125 : ∀ c : Bool, F_X12_anything_125 rc61 (nI a) (nI P) (nI R) (nI t) (nI N) k (nI x) (if c then 1 else 0) σ = rc61 (nI a) (nI P) (nI R) (nI t) (nI N) (k + (if c then 1 else 0)) (nI (x + 1)) σ := by
      intro c
      unfold F_X12_anything_125 F_X12_anything_137
      rw [nI_1]
      cases c
      · rw [if_pos (by decide)]; rfl
      · rw [if_neg (by decide)]; rfl
    change B_X12_anything_74 rc61 (F_X12_anything_74 rc61 m) _ _ _ _ _ _ _ _ _ _ = _
    unfold B_X12_anything_74
    rw [h125]
    by_cases hd : P < p + 1
    · have e : p = P := by omega
      subst e
      rw [if_pos (nI_lt hd (by omega))]
    rw [if_neg (fun z => hd ((nI_ltN (by omega) (by omega)).mp z))]
    cases c : exP a t R x p with
    | true => rw [if_neg (by decide), exP_mono c P hp]
    | false =>
      rw [if_pos (by decide)]
      have := anyM_88 (p := p + 1) (P := P) (N := N) (k := k) (σ := σ) ha ht (by omega) hR hx rc61 (F_X12_anything_74 rc61 m) FU 0 (by show _ < 1000000; omega) (by omega)
      refine Eq.trans this ?_
      have e : exP a t R x (p + 1) = exQ a t (p + 1) x R := by show (exP a t R x p || _) = _; rw [c]; rfl
      rw [← e]
      exact ih (p + 1) (by omega) (by omega)
theorem anyM_61 {a t P R N : Nat} {σ : Mm} (ha : a ≤ 100) (ht : t ≤ 9) (hP : P ≤ 20) (hR : R ≤ 20) (hN : N ≤ 2000) : ∀ (m x : Nat), N + 1 - x < m → x ≤ N + 1 → 1 ≤ x → F_X12_anything_61 m (nI a) (nI P) (nI R) (nI t) (nI N) (nI (cn (fun x => decide (1 ≤ x) && exP a t R x P) x)) (nI x) σ = some (nI (cn (fun x => decide (1 ≤ x) && exP a t R x P) (N + 1)), σ) := by
  intro m
  induction m with
  | zero => intro q h; omega
  | succ m ih =>
    intro x hm hx hx1
    change B_X12_anything_61 (F_X12_anything_61 m) _ _ _ _ _ _ _ _ = _
    unfold B_X12_anything_61
    by_cases hd : N < x
    · have e : x = N + 1 := by omega
      subst e
      rw [if_pos (nI_lt hd (by omega))]
    rw [if_neg (fun z => hd ((nI_ltN (by omega) (by omega)).mp z))]
    have := anyM_74 (N := N) (k := nI (cn (fun x => decide (1 ≤ x) && exP a t R x P) x)) (σ := σ) ha ht hP hR (x := x) (by omega) (F_X12_anything_61 m) FU 0 (by show _ < 1000000; omega) (by omega)
    refine Eq.trans this ?_
    have i1 := ih (x + 1) (by omega) (by omega) (by omega)
    have e : cn (fun x => decide (1 ≤ x) && exP a t R x P) (x + 1) = cn (fun x => decide (1 ≤ x) && exP a t R x P) x + (if (decide (1 ≤ x) && exP a t R x P) = true then 1 else 0) := rfl
    rw [e, decide_eq_true hx1, Bool.true_and] at i1
    cases c : exP a t R x P with
    | true => rw [c] at i1; rw [if_pos rfl, nI_1]; exact i1
    | false => rw [c] at i1; rw [if_neg (by decide), show ∀ z : Int32, z + 0 = z from by intro z; grind]; exact i1
