/-! the state as a value: what was told and surveyed; how the class holds it, how the model does -/
abbrev Op : Type := Nat × Int32
abbrev Lt : Type := Bool × Nat × List Op × List Op
abbrev Cd : Type := List (List Lt)
abbrev DD : Type := (Nat → Nat) × (Nat → Nat → Int32) × (Nat → Nat → Bool) × (Nat → List Op) × (Nat → Cd)
/-- counts: 0 things of the text, 1 facts, 2 doors, 3 hills, 4 places, 5 rules, 6 near -/
abbrev dN (D : DD) (j : Nat) : Nat := D.1 j
/-- rows: 0 east, 1 north, 2 age, 3 stone (things of the text); 4 kind, 5 about, 6 east, 7 north, 8 age (facts); 9, 10, 11 hills; 12 span -/
abbrev dA (D : DD) (k j : Nat) : Int32 := D.2.1 k j
abbrev dD (D : DD) (a b : Nat) : Bool := D.2.2.1 a b
abbrev dS (D : DD) (p : Nat) : List Op := D.2.2.2.1 p
abbrev dR (D : DD) (r : Nat) : Cd := D.2.2.2.2 r
def cntF (f : Nat → Int32) : Nat → Nat
  | 0 => 0
  | k + 1 => cntF f k + (if f k = 0 then 1 else 0)
def nT (D : DD) : Nat := dN D 0 + cntF (D.2.1 4) (dN D 1)
theorem cntF_mono {f : Nat → Int32} {a b : Nat} (h : a ≤ b) : cntF f a ≤ cntF f b := by
  induction b with
  | zero => have : a = 0 := by omega
            subst this; exact Nat.le_refl _
  | succ b ih =>
    by_cases hb : a = b + 1
    · subst hb; exact Nat.le_refl _
    · exact Nat.le_trans (ih (by omega)) (Nat.le_add_right _ _)
theorem cntF_cong {f g : Nat → Int32} {n : Nat} (h : ∀ k, k < n → f k = g k) : cntF f n = cntF g n := by
  induction n with
  | zero => rfl
  | succ n ih =>
    show cntF f n + _ = cntF g n + _
    rw [ih (fun k hk => h k (by omega)), h n (by omega)]
theorem cntF_lt {f : Nat → Int32} {k n : Nat} (h : k < n) (h0 : f k = 0) : cntF f k < cntF f n := by
  have h1 : cntF f (k + 1) ≤ cntF f n := cntF_mono h
  have h2 : cntF f (k + 1) = cntF f k + 1 := by
    show cntF f k + (if f k = 0 then 1 else 0) = _
    rw [if_pos h0]
  omega
theorem cntF_inj {f : Nat → Int32} {k j : Nat} (hk : f k = 0) (hj : f j = 0) (h : cntF f k = cntF f j) : k = j := by
  rcases Nat.lt_trichotomy k j with h1 | h1 | h1
  · have := cntF_lt h1 hk; omega
  · exact h1
  · have := cntF_lt h1 hj; omega
/-- how deep an E's work goes: none where it has too little, or more than 15 -/
def hE : List Op → Nat → Option Nat
  | [], d => some d
  | o :: r, d => if o.1 < 2 then (if d < 15 then hE r (d + 1) else none) else if 2 ≤ d then hE r (d - 1) else none
def wfE (L : List Op) : Prop := hE L 0 = some 1 ∧ ∀ o ∈ L, o.1 ≤ 5 ∧ (o.1 = 1 → 0 ≤ o.2 ∧ o.2 < 9)
def wfL (l : Lt) : Prop := l.2.1 ≤ 3 ∧ wfE l.2.2.1 ∧ wfE l.2.2.2
def wfC (c : Cd) : Prop := c ≠ [] ∧ ∀ r ∈ c, r ≠ [] ∧ ∀ l ∈ r, wfL l
/-- the class's code: kind and number -/
def encO (o : Op) : Int32 × Int32 := match o.1 with
  | 0 => (3, o.2)
  | 1 => (28 + o.2, 0)
  | 2 => (6, 0)
  | 3 => (7, 0)
  | 4 => (8, 0)
  | _ => (9, 0)
def encE (L : List Op) : List (Int32 × Int32) := L.map encO
def cmpC : Nat → Int32
  | 0 => 10
  | 1 => 11
  | 2 => 13
  | _ => 12
def encL (l : Lt) : List (Int32 × Int32) := encE l.2.2.1 ++ encE l.2.2.2 ++ [(cmpC l.2.1, 0)] ++ (if l.1 then [(27, 0)] else [])
def encR : List Lt → List (Int32 × Int32)
  | [] => []
  | l :: r => encL l ++ r.flatMap (fun l => encL l ++ [(26, 0)])
def encC : Cd → List (Int32 × Int32)
  | [] => []
  | r :: c => encR r ++ c.flatMap (fun r => encR r ++ [(25, 0)])
def segC (σ : Mm) (i p : Nat) (L : List (Int32 × Int32)) : Prop := ∃ c : Nat, mA σ 1 i 13 p = nI c ∧ mA σ 1 i 14 p = nI (c + L.length) ∧ c + L.length ≤ 400 ∧ ∀ j q, L[j]? = some q → mA σ 1 i 11 (c + j) = q.1 ∧ (q.1 = 3 → mA σ 1 i 12 (c + j) = q.2)
abbrev rIn (x : Int32) (n : Int32) : Prop := 0 ≤ x ∧ x ≤ n
def RCn (σ : Mm) (i : Nat) (D : DD) : Prop := mA σ 1 i 0 0 = nI (dN D 6) ∧ mA σ 1 i 0 1 = nI (dN D 0) ∧ mA σ 1 i 0 6 = nI (dN D 2) ∧ mA σ 1 i 0 8 = nI (dN D 3) ∧ mA σ 1 i 0 12 = nI (dN D 4) ∧ mA σ 1 i 0 14 = nI (dN D 5)
def RCt (σ : Mm) (i : Nat) (D : DD) : Prop := ∀ t, t < dN D 0 → mA σ 1 i 1 t = dA D 0 t ∧ mA σ 1 i 2 t = dA D 1 t ∧ mA σ 1 i 3 t = dA D 2 t ∧ mA σ 1 i 4 t = dA D 3 t
def RCd (σ : Mm) (i : Nat) (D : DD) : Prop := ∀ a b, a < 14 → b < 14 → (mA σ 1 i 5 a >>> (nI b &&& 31)) &&& 1 = if dD D a b then 1 else 0
def RCh (σ : Mm) (i : Nat) (D : DD) : Prop := ∀ k, k < dN D 3 → mA σ 1 i 6 k = dA D 9 k ∧ mA σ 1 i 7 k = dA D 10 k ∧ mA σ 1 i 8 k = dA D 11 k
def RCs (σ : Mm) (i : Nat) (D : DD) : Prop := ∀ p, p < dN D 4 → mA σ 1 i 9 p = dA D 12 p
def RCe (σ : Mm) (i : Nat) (D : DD) : Prop := ∀ p, p < dN D 4 → segC σ i p (encE (dS D p))
def RCc (σ : Mm) (i : Nat) (D : DD) : Prop := ∀ r, r < dN D 5 → segC σ i (5 + r) (encC (dR D r))
def RCf (σ : Mm) (s : Nat) (D : DD) : Prop := mA σ 2 s 0 0 = nI (dN D 1) ∧ mA σ 2 s 0 1 = nI (cntF (D.2.1 4) (dN D 1)) ∧ ∀ k, k < dN D 1 → mA σ 2 s 1 k = dA D 4 k ∧ mA σ 2 s 2 k = dA D 5 k ∧ mA σ 2 s 3 k = dA D 6 k ∧ mA σ 2 s 4 k = dA D 7 k ∧ mA σ 2 s 5 k = dA D 8 k
def RC (σ : Mm) (i s : Nat) (D : DD) : Prop := RCn σ i D ∧ RCt σ i D ∧ RCd σ i D ∧ RCh σ i D ∧ RCs σ i D ∧ RCe σ i D ∧ RCc σ i D ∧ RCf σ s D
def RMn (σ : Mm) (b : Nat) (D : DD) : Prop := mA σ 3 0 7 b = nI (dN D 6) ∧ mA σ 3 0 8 b = nI (nT D) ∧ mA σ 3 0 14 b = nI (dN D 2) ∧ mA σ 3 0 17 b = nI (dN D 3) ∧ mA σ 3 0 21 b = nI (dN D 4) ∧ mA σ 3 0 25 b = nI (dN D 5) ∧ mA σ 3 0 38 b = nI (dN D 1)
def RMt (σ : Mm) (b : Nat) (D : DD) : Prop := (∀ t, t < dN D 0 → mA σ 3 0 10 (14 * b + t) = dA D 0 t ∧ mA σ 3 0 11 (14 * b + t) = dA D 1 t ∧ mA σ 3 0 12 (14 * b + t) = dA D 2 t ∧ mA σ 3 0 9 (14 * b + t) = dA D 3 t ∧ mA σ 3 0 13 (14 * b + t) = -1) ∧
  ∀ k, k < dN D 1 → dA D 4 k = 0 → mA σ 3 0 10 (14 * b + (dN D 0 + cntF (D.2.1 4) k)) = dA D 6 k ∧ mA σ 3 0 11 (14 * b + (dN D 0 + cntF (D.2.1 4) k)) = dA D 7 k ∧ mA σ 3 0 12 (14 * b + (dN D 0 + cntF (D.2.1 4) k)) = dA D 8 k ∧ mA σ 3 0 9 (14 * b + (dN D 0 + cntF (D.2.1 4) k)) = 0 ∧ mA σ 3 0 13 (14 * b + (dN D 0 + cntF (D.2.1 4) k)) = nI k
def RMf (σ : Mm) (b : Nat) (D : DD) : Prop := ∀ k, k < dN D 1 → mA σ 3 0 39 (60 * b + k) = dA D 4 k ∧ (dA D 4 k ≠ 4 → mA σ 3 0 40 (60 * b + k) = dA D 5 k) ∧ (dA D 4 k = 4 → mA σ 3 0 40 (60 * b + k) = -1 ∧ mA σ 3 0 41 (60 * b + k) = dA D 5 k) ∧ ((dA D 4 k = 0 ∨ dA D 4 k = 1) → mA σ 3 0 41 (60 * b + k) = dA D 6 k ∧ mA σ 3 0 42 (60 * b + k) = dA D 7 k) ∧ (dA D 4 k = 3 → mA σ 3 0 41 (60 * b + k) = dA D 8 k)
def RMd (σ : Mm) (b : Nat) (D : DD) : Prop := ∀ a a', a < 14 → a' < 14 → (dD D a a' = true ↔ ∃ k, k < dN D 2 ∧ mA σ 3 0 15 (8 * b + k) = nI a ∧ mA σ 3 0 16 (8 * b + k) = nI a')
def RMh (σ : Mm) (b : Nat) (D : DD) : Prop := ∀ k, k < dN D 3 → mA σ 3 0 18 (12 * b + k) = dA D 9 k ∧ mA σ 3 0 19 (12 * b + k) = dA D 10 k ∧ mA σ 3 0 20 (12 * b + k) = dA D 11 k
def RMs (σ : Mm) (b : Nat) (D : DD) : Prop := ∀ p, p < dN D 4 → mA σ 3 0 22 (5 * b + p) = dA D 12 p
def segM (σ : Mm) (b : Nat) (x y : Int32) (L : List Op) : Prop := ∃ c : Nat, x = nI c ∧ y = nI (c + L.length) ∧ c + L.length ≤ 500 ∧ ∀ j o, L[j]? = some o → mA σ 3 0 29 (500 * b + (c + j)) = nI o.1 ∧ mA σ 3 0 30 (500 * b + (c + j)) = o.2
def RMe (σ : Mm) (b : Nat) (D : DD) : Prop := ∀ p, p < dN D 4 → segM σ b (mA σ 3 0 23 (5 * b + p)) (mA σ 3 0 24 (5 * b + p)) (dS D p)
def cmpM : Nat → Int32
  | 0 => 300
  | 1 => 301
  | 2 => 302
  | _ => 60
/-- the LITs of a COND in a row, each with its row's number -/
def fltC (c : Cd) : List (Nat × Lt) := c.zipIdx.flatMap (fun q => q.1.map (fun l => (q.2, l)))
def RMc (σ : Mm) (b : Nat) (D : DD) : Prop := ∀ r, r < dN D 5 → ∃ l0 : Nat, mA σ 3 0 26 (6 * b + r) = nI l0 ∧ mA σ 3 0 27 (6 * b + r) = nI (l0 + (fltC (dR D r)).length) ∧ l0 + (fltC (dR D r)).length ≤ 200 ∧ ∀ j q, (fltC (dR D r))[j]? = some q →
  mA σ 3 0 37 (200 * b + (l0 + j)) = nI q.1 ∧ mA σ 3 0 32 (200 * b + (l0 + j)) = (if q.2.1 then 1 else 0) ∧ mA σ 3 0 33 (200 * b + (l0 + j)) = cmpM q.2.2.1 ∧
  segM σ b (mA σ 3 0 34 (200 * b + (l0 + j))) (mA σ 3 0 35 (200 * b + (l0 + j))) q.2.2.2.1 ∧ segM σ b (mA σ 3 0 35 (200 * b + (l0 + j))) (mA σ 3 0 36 (200 * b + (l0 + j))) q.2.2.2.2
def RM (σ : Mm) (b : Nat) (D : DD) : Prop := RMn σ b D ∧ RMt σ b D ∧ RMf σ b D ∧ RMd σ b D ∧ RMh σ b D ∧ RMs σ b D ∧ RMe σ b D ∧ RMc σ b D
/-- one fact, at its number k -/
def wfF (D : DD) (k : Nat) : Prop :=
  (dA D 4 k = 0 ∧ dA D 5 k = nI (dN D 0 + cntF (D.2.1 4) k) ∧ rIn (dA D 6 k) 999 ∧ rIn (dA D 7 k) 999 ∧ rIn (dA D 8 k) 9999) ∨
  (dA D 4 k = 1 ∧ 0 ≤ dA D 5 k ∧ dA D 5 k < nI (dN D 0 + cntF (D.2.1 4) k) ∧ rIn (dA D 6 k) 999 ∧ rIn (dA D 7 k) 999) ∨
  (dA D 4 k = 2 ∧ 0 ≤ dA D 5 k ∧ dA D 5 k < nI (dN D 0 + cntF (D.2.1 4) k)) ∨
  (dA D 4 k = 3 ∧ 0 ≤ dA D 5 k ∧ dA D 5 k < nI (dN D 0 + cntF (D.2.1 4) k) ∧ rIn (dA D 8 k) 9999) ∨
  (dA D 4 k = 4 ∧ 0 ≤ dA D 5 k ∧ dA D 5 k < nI k ∧ dA D 4 (dA D 5 k).toNatClampNeg ≠ 4)
def WF (D : DD) : Prop := nT D ≤ 14 ∧ dN D 1 ≤ 60 ∧ dN D 2 ≤ 8 ∧ dN D 3 ≤ 12 ∧ dN D 4 ≤ 5 ∧ dN D 5 ≤ 6 ∧ dN D 6 ≤ 20 ∧
  (∀ t, t < dN D 0 → rIn (dA D 0 t) 999 ∧ rIn (dA D 1 t) 999 ∧ rIn (dA D 2 t) 9999 ∧ rIn (dA D 3 t) 1) ∧
  (∀ k, k < dN D 1 → wfF D k) ∧
  (∀ p, p < dN D 4 → rIn (dA D 12 p) 20 ∧ wfE (dS D p)) ∧
  (∀ r, r < dN D 5 → wfC (dR D r))
/-- the whole: told and surveyed by a value D, held slots, tape, sites, the last fault's place -/
def IvT (σ : Mm) : Prop := ∃ b : Nat, b ≤ 2000 ∧ mA σ 0 0 6 0 = nI b ∧ mA σ 3 0 0 0 = nI b ∧ ∀ k, k < b → mA σ 0 0 7 k &&& 255 = mA σ 3 0 1 k
def IvS (σ : Mm) : Prop := ∃ n : Nat, n ≤ 6 ∧ mA σ 0 0 0 12 = nI n ∧ mA σ 3 0 0 52 = nI n ∧ ∀ k, k < n → mA σ 0 0 3 k = mA σ 3 0 45 k ∧ mA σ 0 0 4 k = mA σ 3 0 46 k ∧ rIn (mA σ 0 0 3 k) 359 ∧ rIn (mA σ 0 0 4 k) 359
def IvP (σ : Mm) : Prop := mP σ 0 < 2 ∧ mP σ 1 < 2 ∧ mP σ 0 ≠ mP σ 1 ∧ mP σ 2 < 2 ∧ ∀ k, 2 ≤ k → k < 9 → mA σ 0 0 28 k = 0
def IvD (σ : Mm) (i s b : Nat) (D : DD) : Prop := RC σ i s D ∧ RM σ b D ∧ WF D
def IvH (h : Nat → Bool) (σ : Mm) : Prop := ∀ j, j < 3 → mA σ 3 0 6 (2 + j) = (if h j then 1 else 0) ∧ (h j = true → ∃ D, IvD σ (2 + j) (1 + j) (2 + j) D)
def Iv (h : Nat → Bool) (σ : Mm) : Prop := IvP σ ∧ mA σ 0 0 12 1 = mA σ 3 0 0 9 ∧ IvT σ ∧ IvS σ ∧ IvH h σ ∧ ∃ D, IvD σ (mP σ 0) 0 0 D
/-- what a question may change -/
def WQ : List (Nat × Nat × Nat) := [(0, 5, 999), (0, 15, 0), (0, 15, 8), (0, 16, 999), (0, 17, 999), (0, 18, 999), (0, 19, 999), (0, 20, 999), (0, 21, 999), (0, 22, 999), (0, 23, 999), (0, 24, 999), (0, 25, 0), (0, 26, 999), (0, 27, 999), (0, 28, 0), (0, 28, 1), (0, 29, 5), (0, 30, 999), (0, 31, 999), (0, 32, 999), (0, 33, 999), (0, 34, 999), (0, 35, 999), (0, 36, 999), (0, 38, 999), (0, 39, 999), (0, 41, 999), (0, 42, 999), (1, 10, 6), (1, 15, 999), (3, 0, 69), (3, 48, 999), (3, 49, 999), (3, 50, 999), (3, 51, 999), (3, 52, 999), (3, 53, 999), (3, 54, 999), (3, 55, 999), (3, 56, 999), (3, 57, 999), (3, 58, 999), (3, 59, 999), (3, 60, 999), (3, 61, 999), (3, 62, 999), (3, 63, 999), (3, 64, 999), (3, 65, 999), (3, 66, 999), (3, 67, 999)]
theorem RC.fr {σ τ : Mm} {i s : Nat} {D : DD} (h : RC σ i s D) (hf : Fr WQ σ τ) : RC τ i s D := by
  have a : ∀ k, noW WQ 1 k = true → mA τ 1 i k = mA σ 1 i k := fun k hk => hf.row i hk
  have b : ∀ k, noW WQ 2 k = true → mA τ 2 s k = mA σ 2 s k := fun k hk => hf.row s hk
  unfold RC RCn RCt RCd RCh RCs RCe RCc RCf segC at h ⊢
  rw [a 0 rfl, a 1 rfl, a 2 rfl, a 3 rfl, a 4 rfl, a 5 rfl, a 6 rfl, a 7 rfl, a 8 rfl, a 9 rfl, a 11 rfl, a 12 rfl, a 13 rfl, a 14 rfl, b 0 rfl, b 1 rfl, b 2 rfl, b 3 rfl, b 4 rfl, b 5 rfl]
  exact h
theorem RM.fr {σ τ : Mm} {c : Nat} {D : DD} (h : RM σ c D) (hf : Fr WQ σ τ) : RM τ c D := by
  have a : ∀ k, noW WQ 3 k = true → mA τ 3 0 k = mA σ 3 0 k := fun k hk => hf.row 0 hk
  unfold RM RMn RMt RMf RMd RMh RMs RMe RMc segM at h ⊢
  rw [a 7 rfl, a 8 rfl, a 9 rfl, a 10 rfl, a 11 rfl, a 12 rfl, a 13 rfl, a 14 rfl, a 15 rfl, a 16 rfl, a 17 rfl, a 18 rfl, a 19 rfl, a 20 rfl, a 21 rfl, a 22 rfl, a 23 rfl, a 24 rfl, a 25 rfl, a 26 rfl, a 27 rfl, a 29 rfl, a 30 rfl, a 32 rfl, a 33 rfl, a 34 rfl, a 35 rfl, a 36 rfl, a 37 rfl, a 38 rfl, a 39 rfl, a 40 rfl, a 41 rfl, a 42 rfl]
  exact h
theorem IvD.fr {σ τ : Mm} {i s b : Nat} {D : DD} (h : IvD σ i s b D) (hf : Fr WQ σ τ) : IvD τ i s b D := ⟨h.1.fr hf, h.2.1.fr hf, h.2.2⟩
theorem Iv.fr {h : Nat → Bool} {σ τ : Mm} (hI : Iv h σ) (hf : Fr WQ σ τ) : Iv h τ := by
  obtain ⟨hP, hF, hT, hS, hH, D, hD⟩ := hI
  have p : ∀ n, mP τ n = mP σ n := fun n => hf.p (by rfl)
  have a : ∀ k f, inW WQ 0 k f = false → mA τ 0 0 k f = mA σ 0 0 k f := fun k f hk => hf.fld 0 hk
  have m : ∀ k f, inW WQ 3 k f = false → mA τ 3 0 k f = mA σ 3 0 k f := fun k f hk => hf.fld 0 hk
  refine ⟨?_, ?_, ?_, ?_, ?_, D, ?_⟩
  · unfold IvP; rw [p, p, p]
    refine ⟨hP.1, hP.2.1, hP.2.2.1, hP.2.2.2.1, fun k k2 k9 => ?_⟩
    have e : inW WQ 0 28 k = false := by
      have : k = 2 ∨ k = 3 ∨ k = 4 ∨ k = 5 ∨ k = 6 ∨ k = 7 ∨ k = 8 := by omega
      rcases this with rfl | rfl | rfl | rfl | rfl | rfl | rfl <;> rfl
    rw [a 28 k e]; exact hP.2.2.2.2 k k2 k9
  · rw [a 12 1 rfl, m 0 9 rfl]; exact hF
  · unfold IvT; rw [a 6 0 rfl, m 0 0 rfl, hf.row (k := 7) 0 rfl, hf.row (k := 1) 0 rfl]; exact hT
  · unfold IvS; rw [a 0 12 rfl, m 0 52 rfl, hf.row (t := 0) (k := 3) 0 rfl, hf.row (t := 0) (k := 4) 0 rfl, hf.row (t := 3) (k := 45) 0 rfl, hf.row (t := 3) (k := 46) 0 rfl]; exact hS
  · intro j hj
    rw [hf.row (t := 3) (k := 6) 0 rfl]
    exact ⟨(hH j hj).1, fun e => by obtain ⟨E, hE⟩ := (hH j hj).2 e; exact ⟨E, hE.fr hf⟩⟩
  · rw [p]; exact hD.fr hf
