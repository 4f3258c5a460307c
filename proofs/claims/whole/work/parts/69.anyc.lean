/-! anything: the class -/
def exQ (a t p x : Nat) : Nat → Bool
  | 0 => false
  | q + 1 => exQ a t p x q || cQ a t p (q + 1) x
def exP (a t R x : Nat) : Nat → Bool
  | 0 => false
  | p + 1 => exP a t R x p || exQ a t (p + 1) x R
theorem marked_N {N : Nat} (hN : N ≤ 2000) {q : Nat → Bool} {σ : Mm} (hq : ∀ x, x ≤ N → mA σ 0 0 5 x = if q x then 1 else 0) : ∀ (m l : Nat), N + 1 - l < m → l ≤ N + 1 → F_X11_markedUpTo_4 m (nI N) (nI (cn q l)) (nI l) σ = some (nI (cn q (N + 1)), σ) := by
  intro m
  induction m with
  | zero => intro l h; omega
  | succ m ih =>
    intro l hm hl
    change B_X11_markedUpTo_4 (F_X11_markedUpTo_4 m) _ _ _ _ = _
    unfold B_X11_markedUpTo_4 F_X11_markedUpTo_28
    by_cases hd : N < l
    · have e : l = N + 1 := by omega
      subst e
      rw [if_pos (nI_lt (by omega) (by omega))]
    have i1 := ih (l + 1) (by omega) (by omega)
    have e : cn q (l + 1) = cn q l + (if q l = true then 1 else 0) := rfl
    rw [e] at i1
    have hck : (nI l).toNatClampNeg = l := nI_clamp (by omega)
    have i2001 : inb (nI l) 2001 = true := by
      have : l < 2001 := by omega
      clear ih i1 hq; grind [gI, gB, gC]
    rw [if_neg (fun z => hd ((nI_ltN (by omega) (by omega)).mp z)), if_neg (show ¬ (2000 : Int32) < nI l from fun z => by have := (nI_ltN (a := 2000) (b := l) (by omega) (by omega)).mp z; omega), if_pos i2001, hck, hq l (by omega), nI_1, nI_1]
    cases hc : q l with
    | false => rw [hc] at i1; rw [if_pos (by decide)]; exact i1
    | true => rw [hc] at i1; rw [if_neg (by decide)]; exact i1
theorem anyC_99 {a t p P R N : Nat} (ha : a ≤ 100) (ht : t ≤ 9) (hp1 : 1 ≤ p) (hp : p ≤ 20) (hR : R ≤ 20) (hN : N ≤ 2000) {b : Nat → Bool} {Q : Int32 × Mm → Prop} (rc : Int32 → Int32 → Int32 → Int32 → Int32 → Int32 → Mm → Option (Int32 × Mm)) (hrc : ∀ τ, (∀ x, x ≤ N → mA τ 0 0 5 x = if b x || (decide (1 ≤ x) && exQ a t p x R) then 1 else 0) → Ok (rc (nI a) (nI P) (nI R) (nI t) (nI N) (nI (p + 1)) τ) Q) : ∀ (m q : Nat) (σ : Mm), R - q < m → q ≤ R → (∀ x, x ≤ N → mA σ 0 0 5 x = if b x || (decide (1 ≤ x) && exQ a t p x q) then 1 else 0) → Ok (F_X11_anything_99 rc m (nI a) (nI P) (nI R) (nI t) (nI N) (nI p) (nI (q + 1)) σ) Q := by
  intro m
  induction m with
  | zero => intro q σ h; omega
  | succ m ih =>
    intro q σ hm hq h5
    change Ok (B_X11_anything_99 rc (F_X11_anything_99 rc m) _ _ _ _ _ _ _ _) _
    unfold B_X11_anything_99
    by_cases hd : R < q + 1
    · have e : q = R := by omega
      subst e
      rw [nI_1]
      exact Ok_t (nI_lt hd (by omega)) (hrc σ h5)
    refine Ok_f (fun z => hd ((nI_ltN (by omega) (by omega)).mp z)) ?_
    refine Ok_V (s_markRounds (q := q + 1) ha ht hp1 hp (by omega) hN h5) (fun τ hτ => ?_)
    unfold F_X11_anything_119
    rw [nI_1]
    refine ih (q + 1) τ (by omega) (by omega) (fun x hx => ?_)
    rw [hτ x hx]
    show _ = if (b x || (decide (1 ≤ x) && (exQ a t p x q || cQ a t p (q + 1) x))) = true then 1 else 0
    rw [Bool.and_or_distrib_left, Bool.or_assoc]
theorem anyC_90 {a t P R N : Nat} (ha : a ≤ 100) (ht : t ≤ 9) (hP : P ≤ 20) (hR : R ≤ 20) (hN : N ≤ 2000) : ∀ (m p : Nat) (σ : Mm), P - p < m → p ≤ P → (∀ x, x ≤ N → mA σ 0 0 5 x = if decide (1 ≤ x) && exP a t R x p then 1 else 0) → Ok (F_X11_anything_90 m (nI a) (nI P) (nI R) (nI t) (nI N) (nI (p + 1)) σ) (fun q => q.1 = nI (cn (fun x => decide (1 ≤ x) && exP a t R x P) (N + 1))) := by
  intro m
  induction m with
  | zero => intro q σ h; omega
  | succ m ih =>
    intro p σ hm hp h5
    change Ok (B_X11_anything_90 (F_X11_anything_90 m) _ _ _ _ _ _ _) _
    unfold B_X11_anything_90
    by_cases hd : P < p + 1
    · have e : p = P := by omega
      subst e
      refine Ok_t (nI_lt hd (by omega)) ?_
      have := marked_N hN h5 FU 0 (by show _ < 1000000; omega) (by omega)
      unfold F_X11_markedUpTo F_X11_anything_137
      rw [show F_X11_markedUpTo_4 FU (nI N) 0 0 σ = _ from this, bnd_s]
      exact Ok_r rfl
    refine Ok_f (fun z => hd ((nI_ltN (by omega) (by omega)).mp z)) ?_
    refine anyC_99 ha ht (by omega) (by omega) hR hN (b := fun x => decide (1 ≤ x) && exP a t R x p) (F_X11_anything_90 m) (fun τ hτ => ih (p + 1) τ (by omega) (by omega) (fun x hx => ?_)) FU 0 σ (by show _ < 1000000; omega) (by omega) (fun x hx => ?_)
    · rw [hτ x hx]
      show _ = if (decide (1 ≤ x) && (exP a t R x p || exQ a t (p + 1) x R)) = true then 1 else 0
      rw [Bool.and_or_distrib_left]
    · rw [h5 x hx]
      show _ = if ((decide (1 ≤ x) && exP a t R x p) || (decide (1 ≤ x) && false)) = true then 1 else 0
      rw [Bool.and_false, Bool.or_false]
theorem anyC_66 {a t P R N : Nat} (ha : a ≤ 100) (ht : t ≤ 9) (hP : P ≤ 20) (hR : R ≤ 20) (hN : N ≤ 2000) : ∀ (m l : Nat) (σ : Mm), N + 1 - l < m → l ≤ N + 1 → (∀ x, x < l → mA σ 0 0 5 x = 0) → Ok (F_X11_anything_66 m (nI a) (nI P) (nI R) (nI t) (nI N) (nI l) σ) (fun q => q.1 = nI (cn (fun x => decide (1 ≤ x) && exP a t R x P) (N + 1))) := by
  intro m
  induction m with
  | zero => intro q σ h; omega
  | succ m ih =>
    intro l σ hm hl h5
    change Ok (B_X11_anything_66 (F_X11_anything_66 m) _ _ _ _ _ _ _) _
    unfold B_X11_anything_66
    by_cases hd : N < l
    · have e : l = N + 1 := by omega
      subst e
      refine Ok_t (nI_lt hd (by omega)) (anyC_90 ha ht hP hR hN FU 0 σ (by show _ < 1000000; omega) (by omega) (fun x hx => ?_))
      rw [h5 x (by omega)]
      show _ = if (decide (1 ≤ x) && false) = true then 1 else 0
      rw [Bool.and_false]; rfl
    have hck : (nI l).toNatClampNeg = l := nI_clamp (by omega)
    have i2001 : inb (nI l) 2001 = true := by
      have : l < 2001 := by omega
      clear ih h5; grind [gI, gB, gC]
    refine Ok_f (fun z => hd ((nI_ltN (by omega) (by omega)).mp z)) (Ok_t i2001 ?_)
    unfold F_X11_anything_81
    rw [hck, nI_1]
    refine ih (l + 1) _ (by omega) (by omega) (fun x hx => ?_)
    rw [mA_A, if_pos ⟨rfl, rfl, rfl⟩, upd_at]
    by_cases e : x = l
    · rw [if_pos e]; decide
    · rw [if_neg e]; exact h5 x (by omega)
