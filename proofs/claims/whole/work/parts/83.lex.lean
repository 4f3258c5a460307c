/-! NAMES as numbers; words -/
def nmL (B : Nat) : List Nat → Nat
  | [] => 0
  | d :: r => B * nmL B r + d
theorem nmL_inj {B : Nat} (hB : 27 ≤ B) : ∀ (A A' : List Nat), (∀ d ∈ A, 1 ≤ d ∧ d ≤ 26) → (∀ d ∈ A', 1 ≤ d ∧ d ≤ 26) → nmL B A = nmL B A' → A = A' := by
  intro A
  induction A with
  | nil =>
    intro A' _ h' h
    cases A' with
    | nil => rfl
    | cons d r =>
      have := (h' d List.mem_cons_self).1
      have h : 0 = B * nmL B r + d := h
      omega
  | cons d r ih =>
    intro A' h1 h' h
    cases A' with
    | nil =>
      have := (h1 d List.mem_cons_self).1
      have h : B * nmL B r + d = 0 := h
      omega
    | cons e s =>
      have d1 := h1 d List.mem_cons_self
      have e1 := h' e List.mem_cons_self
      have h : B * nmL B r + d = B * nmL B s + e := h
      have m1 : (B * nmL B r + d) % B = d := by rw [Nat.mul_add_mod, Nat.mod_eq_of_lt (by omega)]
      have m2 : (B * nmL B s + e) % B = e := by rw [Nat.mul_add_mod, Nat.mod_eq_of_lt (by omega)]
      have hde : d = e := by rw [← m1, ← m2, h]
      subst hde
      have hrs : nmL B r = nmL B s := Nat.eq_of_mul_eq_mul_left (show 0 < B by omega) (by omega)
      rw [ih s (fun x hx => h1 x (List.mem_cons_of_mem _ hx)) (fun x hx => h' x (List.mem_cons_of_mem _ hx)) hrs]
theorem nmL_lt {B : Nat} (hB : 27 ≤ B) : ∀ (A : List Nat), (∀ d ∈ A, 1 ≤ d ∧ d ≤ 26) → nmL B A < B ^ A.length := by
  intro A
  induction A with
  | nil => intro _; exact Nat.one_pos
  | cons d r ih =>
    intro h
    have h1 := (h d List.mem_cons_self).2
    have h2 := ih (fun x hx => h x (List.mem_cons_of_mem _ hx))
    show B * nmL B r + d < B ^ (r.length + 1)
    rw [Nat.pow_succ, Nat.mul_comm (B ^ r.length)]
    calc B * nmL B r + d < B * nmL B r + B := by omega
      _ = B * (nmL B r + 1) := by rw [Nat.mul_add, Nat.mul_one]
      _ ≤ B * B ^ r.length := Nat.mul_le_mul_left _ h2
/-- the letters from p on, the last first -/
def rl (s : Nat → Nat) (p : Nat) : Nat → List Nat
  | 0 => []
  | k + 1 => (s (p + k) - 96) :: rl s p k
theorem rl_len {s : Nat → Nat} {p : Nat} : ∀ k, (rl s p k).length = k := by
  intro k
  induction k with
  | zero => rfl
  | succ k ih => show (rl s p k).length + 1 = _; rw [ih]
theorem rl_in {s : Nat → Nat} {p : Nat} : ∀ k, (∀ j, j < k → 97 ≤ s (p + j) ∧ s (p + j) ≤ 122) → ∀ d ∈ rl s p k, 1 ≤ d ∧ d ≤ 26 := by
  intro k
  induction k with
  | zero => intro _ d hd; cases hd
  | succ k ih =>
    intro h d hd
    rcases List.mem_cons.mp hd with rfl | hd
    · have := h k (by omega); omega
    · exact ih (fun j hj => h j (by omega)) d hd
theorem rl_eq {s s' : Nat → Nat} {p q : Nat} : ∀ k, (∀ j, j < k → s (p + j) = s' (q + j)) → rl s p k = rl s' q k := by
  intro k
  induction k with
  | zero => intro _; rfl
  | succ k ih =>
    intro h
    show (s (p + k) - 96) :: rl s p k = (s' (q + k) - 96) :: rl s' q k
    rw [h k (by omega), ih (fun j hj => h j (by omega))]
theorem rl_inj {s s' : Nat → Nat} {p q : Nat} : ∀ k, (∀ j, j < k → 97 ≤ s (p + j)) → (∀ j, j < k → 97 ≤ s' (q + j)) → rl s p k = rl s' q k → ∀ j, j < k → s (p + j) = s' (q + j) := by
  intro k
  induction k with
  | zero => intro _ _ _ j hj; omega
  | succ k ih =>
    intro h1 h2 h j hj
    have h : (s (p + k) - 96) :: rl s p k = (s' (q + k) - 96) :: rl s' q k := h
    injection h with ha hb
    by_cases c : j = k
    · subst c
      have := h1 j (by omega)
      have := h2 j (by omega)
      omega
    · exact ih (fun j hj => h1 j (by omega)) (fun j hj => h2 j (by omega)) hb j (by omega)
/-- the words' letters, six columns each -/
def wN (j : Nat) : Nat := (wby.getD j 0).toNatClampNeg
def wLen (w : Nat) : Nat := if w = 0 then 5 else if w = 1 then 4 else if w = 2 then 4 else if w = 3 then 4 else if w = 4 then 3 else if w = 5 then 4 else if w = 6 then 4 else if w = 7 then 5 else if w = 8 then 2 else if w = 9 then 2 else if w = 10 then 3 else if w = 11 then 3 else if w = 12 then 4 else if w = 13 then 6 else if w = 14 then 3 else if w = 15 then 3 else if w = 16 then 6 else if w = 17 then 5 else if w = 18 then 4 else if w = 19 then 3 else 6
def cw (w : Nat) : Nat := nmL 27 (rl wN (6 * w) (wLen w))
theorem wN_ok : ∀ w, w < 21 → ∀ i, i < 6 → wLen w ≤ 6 ∧ (i < wLen w → 97 ≤ wN (6 * w + i) ∧ wN (6 * w + i) ≤ 122) ∧ (wLen w ≤ i → wN (6 * w + i) = 32) := by decide +kernel
theorem wby_at : ∀ j, j < 126 → wby.getD j 0 = nI (wN j) := by decide +kernel
theorem cw_ne : ∀ w, w < 21 → ∀ v, v < 21 → cw w = cw v → w = v := by decide +kernel
theorem cw_lt : ∀ w, w < 21 → cw w < 400000000 := by decide +kernel
theorem wordOf_at : ∀ w, w < 21 → f_X12_wordOf (lN (cw w)) = nI (wh (16 + w)) := by decide +kernel
theorem cw_all : cw 0 = 10502357 ∧ cw 1 = 168728 ∧ cw 2 = 90090 ∧ cw 3 = 164361 ∧ cw 4 = 14173 ∧ cw 5 = 385682 ∧ cw 6 = 279252 ∧ cw 7 = 1905275 ∧ cw 8 = 249 ∧ cw 9 = 423 ∧ cw 10 = 1111 ∧ cw 11 = 10631 ∧ cw 12 = 495765 ∧ cw 13 = 117630947 ∧ cw 14 = 5146 ∧ cw 15 = 4419 ∧ cw 16 = 283563658 ∧ cw 17 = 7008275 ∧ cw 18 = 40187 ∧ cw 19 = 11263 ∧ cw 20 = 60203876 := by decide +kernel
theorem wordOf_no {v : Nat} (hv : v < 2 ^ 62) (h : ∀ w, w < 21 → v ≠ cw w) : f_X12_wordOf (lN v) = -1 := by
  have h62 : (2 : Nat) ^ 62 < 2 ^ 63 := by decide
  have key : ∀ w, w < 21 → ∀ c : Int64, lN (cw w) = c → ¬ lg_cmp (lN v) c = 0 := by
    intro w hw c hc z
    rw [lg_cmp_eq, ← hc] at z
    have hcw := cw_lt w hw
    exact h w hw ((pk_lEQ (by omega) (by omega)).mp z)
  obtain ⟨e0, e1, e2, e3, e4, e5, e6, e7, e8, e9, e10, e11, e12, e13, e14, e15, e16, e17, e18, e19, e20⟩ := cw_all
  unfold f_X12_wordOf
  rw [if_neg (key 0 (by omega) _ (by rw [e0]; rfl)), if_neg (key 1 (by omega) _ (by rw [e1]; rfl)), if_neg (key 2 (by omega) _ (by rw [e2]; rfl)), if_neg (key 3 (by omega) _ (by rw [e3]; rfl)), if_neg (key 4 (by omega) _ (by rw [e4]; rfl)), if_neg (key 5 (by omega) _ (by rw [e5]; rfl)), if_neg (key 6 (by omega) _ (by rw [e6]; rfl)), if_neg (key 7 (by omega) _ (by rw [e7]; rfl)), if_neg (key 8 (by omega) _ (by rw [e8]; rfl)), if_neg (key 11 (by omega) _ (by rw [e11]; rfl)), if_neg (key 10 (by omega) _ (by rw [e10]; rfl)), if_neg (key 9 (by omega) _ (by rw [e9]; rfl)), if_neg (key 12 (by omega) _ (by rw [e12]; rfl)), if_neg (key 13 (by omega) _ (by rw [e13]; rfl)), if_neg (key 14 (by omega) _ (by rw [e14]; rfl)), if_neg (key 15 (by omega) _ (by rw [e15]; rfl)), if_neg (key 16 (by omega) _ (by rw [e16]; rfl)), if_neg (key 17 (by omega) _ (by rw [e17]; rfl)), if_neg (key 18 (by omega) _ (by rw [e18]; rfl)), if_neg (key 19 (by omega) _ (by rw [e19]; rfl)), if_neg (key 20 (by omega) _ (by rw [e20]; rfl))]
/-- the letters from p on are the word w -/
def mW6 (s : Nat → Nat) (p n w : Nat) : Bool := (List.range 6).all (fun i => decide (wN (6 * w + i) = if i < n then s (p + i) else 32))
theorem mW6_iff {s : Nat → Nat} {p n w : Nat} : mW6 s p n w = true ↔ ∀ i, i < 6 → wN (6 * w + i) = if i < n then s (p + i) else 32 := by
  unfold mW6
  rw [List.all_eq_true]
  constructor
  · intro h i hi
    have := h i (List.mem_range.mpr hi)
    simpa using this
  · intro h i hi
    have := h i (List.mem_range.mp hi)
    simpa using this
theorem mW6_cw {s : Nat → Nat} {p n w : Nat} (hw : w < 21) (hl : ∀ j, j < n → 97 ≤ s (p + j) ∧ s (p + j) ≤ 122) : (n ≤ 6 ∧ mW6 s p n w = true) ↔ nmL 27 (rl s p n) = cw w := by
  have hwl := (wN_ok w hw 0 (by omega)).1
  have hdw : ∀ d ∈ rl wN (6 * w) (wLen w), 1 ≤ d ∧ d ≤ 26 := rl_in _ (fun j hj => (wN_ok w hw j (by omega)).2.1 hj)
  constructor
  · rintro ⟨hn, h⟩
    rw [mW6_iff] at h
    have hlen : n = wLen w := by
      rcases Nat.lt_trichotomy n (wLen w) with c | c | c
      · have h1 := h n (by omega)
        rw [if_neg (by omega)] at h1
        have := (wN_ok w hw n (by omega)).2.1 c
        omega
      · exact c
      · have h1 := h (wLen w) (by omega)
        rw [if_pos c, (wN_ok w hw (wLen w) (by omega)).2.2 (Nat.le_refl _)] at h1
        have := hl _ c
        omega
    unfold cw
    have e : rl s p n = rl wN (6 * w) n := rl_eq n (fun j hj => by
      have := h j (by omega)
      rw [if_pos hj] at this
      exact this.symm)
    rw [← hlen, e]
  · intro h
    have e := nmL_inj (by omega) _ _ (rl_in _ hl) hdw h
    have hlen : n = wLen w := by
      have := congrArg List.length e
      rwa [rl_len, rl_len] at this
    rw [← hlen] at e
    have hj := rl_inj n (fun j hj => (hl j hj).1) (fun j hj => ((wN_ok w hw j (by omega)).2.1 (by omega)).1) e
    refine ⟨by omega, mW6_iff.mpr (fun i hi => ?_)⟩
    by_cases c : i < n
    · rw [if_pos c]; exact (hj i c).symm
    · rw [if_neg c]; exact (wN_ok w hw i hi).2.2 (by omega)
/-- the kind of a word or NAME of n letters: the first word that it is, else 2 -/
def wK (s : Nat → Nat) (p n : Nat) : Nat → Nat → Nat
  | 0, _ => 2
  | m + 1, w => if n ≤ 6 ∧ mW6 s p n w = true then 16 + w else wK s p n m (w + 1)
theorem wK_or {s : Nat → Nat} {p n : Nat} : ∀ m w, m + w = 21 → (wK s p n m w = 2 ∧ ∀ v, w ≤ v → v < 21 → ¬ (n ≤ 6 ∧ mW6 s p n v = true)) ∨ ∃ v, w ≤ v ∧ v < 21 ∧ (n ≤ 6 ∧ mW6 s p n v = true) ∧ wK s p n m w = 16 + v := by
  intro m
  induction m with
  | zero => intro w hw; exact Or.inl ⟨rfl, fun v h1 h2 => by omega⟩
  | succ m ih =>
    intro w hw
    show (((if n ≤ 6 ∧ mW6 s p n w = true then 16 + w else wK s p n m (w + 1)) = 2) ∧ _) ∨ ∃ v, w ≤ v ∧ v < 21 ∧ _ ∧ (if n ≤ 6 ∧ mW6 s p n w = true then 16 + w else wK s p n m (w + 1)) = 16 + v
    by_cases c : n ≤ 6 ∧ mW6 s p n w = true
    · rw [if_pos c]
      exact Or.inr ⟨w, Nat.le_refl _, by omega, c, rfl⟩
    · rw [if_neg c]
      rcases ih (w + 1) (by omega) with ⟨h1, h2⟩ | ⟨v, h1, h2, h3, h4⟩
      · refine Or.inl ⟨h1, fun v hv1 hv2 => ?_⟩
        by_cases e : v = w
        · subst e; exact c
        · exact h2 v (by omega) hv2
      · exact Or.inr ⟨v, by omega, h2, h3, h4⟩
/-- the model's number of a word -/
theorem wordOf_K {s : Nat → Nat} {p n : Nat} (hn : n ≤ 8) (hl : ∀ j, j < n → 97 ≤ s (p + j) ∧ s (p + j) ≤ 122) : (wK s p n 21 0 = 2 ∧ f_X12_wordOf (lN (nmL 27 (rl s p n))) = -1) ∨ (16 ≤ wK s p n 21 0 ∧ wK s p n 21 0 ≤ 36 ∧ f_X12_wordOf (lN (nmL 27 (rl s p n))) = nI (wh (wK s p n 21 0))) := by
  have hlt : nmL 27 (rl s p n) < 2 ^ 62 := by
    have h1 := nmL_lt (B := 27) (by omega) _ (rl_in n hl)
    rw [rl_len] at h1
    have h2 : 27 ^ n ≤ 27 ^ 8 := Nat.pow_le_pow_right (by decide) hn
    have h3 : (27 : Nat) ^ 8 < 2 ^ 62 := by decide
    omega
  rcases wK_or (s := s) (p := p) (n := n) 21 0 rfl with ⟨h1, h2⟩ | ⟨v, h1, h2, h3, h4⟩
  · exact Or.inl ⟨h1, wordOf_no hlt (fun w hw e => h2 w (by omega) hw ((mW6_cw hw hl).mpr e))⟩
  · refine Or.inr ⟨by omega, by omega, ?_⟩
    rw [h4, (mW6_cw h2 hl).mp h3]
    exact wordOf_at v h2
