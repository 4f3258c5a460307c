/-! anything: marks of one pair of ROUNDS -/
theorem nI_ltN {a b : Nat} (ha : a < 2147483648) (hb : b < 2147483648) : nI a < nI b ↔ a < b :=
  ⟨fun z => by
    by_cases h : a < b
    · exact h
    · have := nI_le (a := b) (b := a) (by omega) ha
      generalize nI a = x at *
      generalize nI b = y at *
      exfalso; clear ha hb h; grind, fun h => nI_lt h hb⟩
theorem nI_minus {a b : Nat} (h : b ≤ a) : nI a - nI b = nI (a - b) := by
  have := nI_plus (a - b) b
  rw [show a - b + b = a by omega] at this
  rw [this]; grind
theorem abs_nat {u v : Nat} (hu : u < 1000000) (hv : v < 1000000) : f_J9_abs_0f7a4 (nI u - nI v) = nI (if v ≤ u then u - v else v - u) := by
  unfold f_J9_abs_0f7a4
  by_cases h : v ≤ u
  · rw [if_pos h, nI_minus h, if_pos (nI_pos' (by omega))]
  · rw [if_neg h, ← nI_minus (a := v) (b := u) (by omega)]
    have e := nI_minus (a := v) (b := u) (by omega)
    have b1 : (1 : Int32) ≤ nI (v - u) := nI_le (a := 1) (by omega) (by omega)
    have b2 : nI (v - u) ≤ 1000000 := nI_le (b := 1000000) (by omega) (by decide)
    have e2 : nI u - nI v = - nI (v - u) := by rw [← e]; grind
    rw [e2, e]
    generalize nI (v - u) = z at *
    rw [if_neg (by clear e e2; grind)]
    grind
/-- whether a number counts for a pair of ROUNDS -/
def cQ (a t p q x : Nat) : Bool := decide (a * q ≤ x * p + t * p ∧ x * p ≤ a * q + t * p)
theorem cQ_eq {a t p q x : Nat} (ha : a ≤ 100) (ht : t ≤ 9) (hp : p ≤ 20) (hq : q ≤ 20) (hx : x ≤ 2000) : (nI t * nI p < f_J9_abs_0f7a4 (nI a * nI q - nI x * nI p)) ↔ cQ a t p q x = false := by
  have h1 : a * q ≤ 100 * 20 := Nat.mul_le_mul ha hq
  have h2 : x * p ≤ 2000 * 20 := Nat.mul_le_mul hx hp
  have h3 : t * p ≤ 9 * 20 := Nat.mul_le_mul ht hp
  rw [← nI_times, ← nI_times, ← nI_times, abs_nat (by omega) (by omega)]
  unfold cQ
  generalize a * q = u at *
  generalize x * p = v at *
  generalize t * p = w at *
  rw [nI_ltN (by omega) (by split <;> omega), decide_eq_false_iff_not]
  by_cases h : v ≤ u
  · rw [if_pos h]; omega
  · rw [if_neg h]; omega
theorem cQ_in {a t p q x : Nat} (hp : 1 ≤ p) (h : cQ a t p q x = true) : a * q / p ≤ x + t ∧ x ≤ a * q / p + t := by
  have := of_decide_eq_true h
  rw [← Nat.add_mul] at this
  obtain ⟨h1, h2⟩ := this
  constructor
  · calc a * q / p ≤ (x + t) * p / p := Nat.div_le_div_right h1
      _ = x + t := Nat.mul_div_cancel _ hp
  · have : x = x * p / p := (Nat.mul_div_cancel _ hp).symm
    calc x = x * p / p := this
      _ ≤ (a * q + t * p) / p := Nat.div_le_div_right h2
      _ = a * q / p + t := Nat.add_mul_div_right _ _ hp
theorem mark_35 {a t p q lo hi N : Nat} (ha : a ≤ 100) (ht : t ≤ 9) (hp : p ≤ 20) (hq : q ≤ 20) (hhi : hi ≤ N) (hN : N ≤ 2000) {b : Nat → Bool} : ∀ (m k : Nat) (σ : Mm), hi + 1 - k < m → lo ≤ k → (k = lo ∨ k ≤ hi + 1) → k < 10000 → (∀ x, x ≤ N → mA σ 0 0 5 x = if b x || (decide (lo ≤ x ∧ x < k) && cQ a t p q x) then 1 else 0) →
    Ok (F_X11_markRounds_35 m (nI a * nI q) (nI p) (nI t) (nI hi) (nI k) σ) (fun τ => ∀ x, x ≤ N → mA τ 0 0 5 x = if b x || (decide (lo ≤ x ∧ x ≤ hi) && cQ a t p q x) then 1 else 0) := by
  intro m
  induction m with
  | zero => intro k σ h; omega
  | succ m ih =>
    intro k σ hm hk hk2 hk3 h5
    change Ok (B_X11_markRounds_35 (F_X11_markRounds_35 m) _ _ _ _ _ _) _
    unfold B_X11_markRounds_35 F_X11_markRounds_65
    by_cases hd : hi < k
    · refine Ok_t (nI_lt hd (by omega)) (Ok_r (fun x hx => ?_))
      rw [h5 x hx, show decide (lo ≤ x ∧ x < k) = decide (lo ≤ x ∧ x ≤ hi) from decide_eq_decide.mpr (by omega)]
    have hk4 : k ≤ 2000 := by omega
    refine Ok_f (fun z => hd ((nI_ltN (by omega) (by omega)).mp z)) ?_
    have hck : (nI k).toNatClampNeg = k := nI_clamp (by omega)
    have ik : inb (nI k) 2001 = true := by
      have : k < 2001 := by omega
      clear ih h5; grind [gI, gB, gC]
    rw [nI_1]
    by_cases c : cQ a t p q k = false
    · refine Ok_t ((cQ_eq ha ht hp hq hk4).mpr c) (ih (k + 1) σ (by omega) (by omega) (by omega) (by omega) (fun x hx => ?_))
      rw [h5 x hx]
      by_cases e : x = k
      · subst e; rw [c, Bool.and_false, Bool.and_false]
      · rw [show decide (lo ≤ x ∧ x < k) = decide (lo ≤ x ∧ x < k + 1) from decide_eq_decide.mpr (by omega)]
    · have c1 : cQ a t p q k = true := by cases h : cQ a t p q k with
        | true => rfl
        | false => exact absurd h c
      refine Ok_f (fun z => c ((cQ_eq ha ht hp hq hk4).mp z)) (Ok_t ik ?_)
      rw [hck]
      refine ih (k + 1) _ (by omega) (by omega) (by omega) (by omega) (fun x hx => ?_)
      rw [mA_A, if_pos ⟨rfl, rfl, rfl⟩, upd_at]
      by_cases e : x = k
      · subst e
        rw [if_pos rfl, c1, decide_eq_true (by omega), Bool.and_true, Bool.or_true, if_pos rfl]; decide
      · rw [if_neg e, h5 x hx, show decide (lo ≤ x ∧ x < k) = decide (lo ≤ x ∧ x < k + 1) from decide_eq_decide.mpr (by omega)]
theorem max_nat {k t : Nat} (hk : k < 1000000) (ht : t < 1000000) : f_J9_max_7cf53 1 (nI k - nI t) = nI (max 1 (k - t)) := by
  unfold f_J9_max_7cf53
  by_cases h : t ≤ k
  · rw [nI_minus h]
    by_cases c : 1 < k - t
    · rw [if_pos (show (1 : Int32) < nI (k - t) from nI_lt (a := 1) c (by omega)), Nat.max_eq_right (by omega)]
    · rw [if_neg (show ¬ (1 : Int32) < nI (k - t) from fun z => c ((nI_ltN (a := 1) (by omega) (by omega)).mp z)), Nat.max_eq_left (by omega)]; rfl
  · have e := nI_minus (a := t) (b := k) (by omega)
    have b1 : (1 : Int32) ≤ nI (t - k) := nI_le (a := 1) (by omega) (by omega)
    have b2 : nI (t - k) ≤ 1000000 := nI_le (b := 1000000) (by omega) (by decide)
    have e2 : nI k - nI t = - nI (t - k) := by rw [← e]; grind
    rw [e2, Nat.max_eq_left (by omega)]
    generalize nI (t - k) = z at *
    rw [if_neg (by clear e e2; grind)]; rfl
theorem min_nat {u v : Nat} (hu : u < 1000000) (hv : v < 1000000) : f_J9_min_7cf53 (nI u) (nI v) = nI (min u v) := by
  unfold f_J9_min_7cf53
  by_cases c : v < u
  · rw [if_pos (nI_lt c (by omega)), Nat.min_eq_right (by omega)]
  · rw [if_neg (fun z => c ((nI_ltN (by omega) (by omega)).mp z)), Nat.min_eq_left (by omega)]
theorem s_markRounds {a t p q N : Nat} (ha : a ≤ 100) (ht : t ≤ 9) (hp1 : 1 ≤ p) (hp : p ≤ 20) (hq : q ≤ 20) (hN : N ≤ 2000) {b : Nat → Bool} {σ : Mm} (h5 : ∀ x, x ≤ N → mA σ 0 0 5 x = if b x then 1 else 0) :
    Ok (F_X11_markRounds (nI a * nI q) (nI p) (nI t) (nI N) σ) (fun τ => ∀ x, x ≤ N → mA τ 0 0 5 x = if b x || (decide (1 ≤ x) && cQ a t p q x) then 1 else 0) := by
  have h1 : a * q ≤ 100 * 20 := Nat.mul_le_mul ha hq
  have h2 : a * q / p ≤ a * q := Nat.div_le_self _ _
  have ed : nI a * nI q / nI p = nI (a * q / p) := by rw [← nI_times]; exact pk_div (by omega) hp1 (by omega)
  have np : ¬ nI p = 0 := fun z => by have := (nI_eq (b := 0) (by omega) (by decide)).mp z; omega
  unfold F_X11_markRounds F_X11_markRounds_17 F_X11_markRounds_31
  refine Ok_t (nI_le (a := 1) hp1 (by omega)) (Ok_t np (Ok_t np ?_))
  rw [ed, max_nat (by omega) (by omega), ← nI_plus, nI_1, min_nat (by omega) (by omega)]
  refine Ok.mono (mark_35 (b := b) ha ht hp hq (Nat.min_le_left _ _) hN FU _ σ (by show _ < 1000000; omega) (Nat.le_refl _) (Or.inl rfl) (by omega) (fun x hx => ?_)) (fun τ h x hx => ?_)
  · rw [h5 x hx, decide_eq_false (by omega), Bool.false_and, Bool.or_false]
  · rw [h x hx]
    cases c : cQ a t p q x with
    | false => rw [Bool.and_false, Bool.and_false]
    | true =>
      have := cQ_in hp1 c
      rw [show decide (max 1 (a * q / p - t) ≤ x ∧ x ≤ min N (a * q / p + t + 1)) = decide (1 ≤ x) from decide_eq_decide.mpr (by omega)]
