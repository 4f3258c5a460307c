/-! TOKENS of a text: what they are; the class cuts them -/
def sgn (b : Nat) (y : Nat → Nat) (k : Nat) : Nat := if k < b then y k else 0
def isLt (v : Nat) : Bool := decide (97 ≤ v ∧ v ≤ 122)
def isDg (v : Nat) : Bool := decide (48 ≤ v ∧ v ≤ 57)
def isBk (v : Nat) : Bool := decide (v = 9 ∨ v = 10 ∨ v = 13 ∨ v = 32)
def runF (f : Nat → Bool) : Nat → Nat → Nat
  | 0, p => p
  | n + 1, p => if f p = true then runF f n (p + 1) else p
theorem runF_s {f : Nat → Bool} {n p : Nat} : runF f (n + 1) p = if f p = true then runF f n (p + 1) else p := rfl
theorem run_ok {f : Nat → Bool} {b : Nat} (hf : ∀ k, b ≤ k → f k = false) : ∀ n p, b < n + p → p ≤ runF f n p ∧ (p ≤ b → runF f n p ≤ b) ∧ f (runF f n p) = false ∧ ∀ k, p ≤ k → k < runF f n p → f k = true := by
  intro n
  induction n with
  | zero => intro p h; exact ⟨Nat.le_refl _, fun z => z, hf p (by omega), fun k h1 h2 => by have h2 : k < p := h2; omega⟩
  | succ n ih =>
    intro p h
    rw [runF_s]
    by_cases c : f p = true
    · rw [if_pos c]
      obtain ⟨h1, h2, h3, h4⟩ := ih (p + 1) (by omega)
      have hpb : p < b := by
        apply Nat.lt_of_not_le
        intro z
        rw [hf p z] at c
        cases c
      refine ⟨by omega, fun _ => h2 (by omega), h3, fun k k1 k2 => ?_⟩
      by_cases e : k = p
      · subst e; exact c
      · exact h4 k (by omega) k2
    · rw [if_neg c]
      exact ⟨Nat.le_refl _, fun z => z, by cases h : f p <;> simp_all, fun k h1 h2 => by omega⟩
def RF : Nat := 2500
def lnL (b : Nat) (y : Nat → Nat) (p : Nat) : Nat := runF (fun k => isLt (sgn b y k)) RF p
def lnD (b : Nat) (y : Nat → Nat) (p : Nat) : Nat := runF (fun k => isDg (sgn b y k)) RF p
def skB (b : Nat) (y : Nat → Nat) (p : Nat) : Nat := runF (fun k => decide (k < b) && isBk (sgn b y k)) RF p
def vlN (s : Nat → Nat) (p : Nat) : Nat → Nat
  | 0 => 0
  | k + 1 => 10 * vlN s p k + (s (p + k) - 48)
def sgK (s : Nat) (f : Bool) : Nat := (f_X8_signKind (nI s) (if f = true then 1 else 0)).toNatClampNeg
def tkK (b : Nat) (y : Nat → Nat) (p : Nat) : Nat := if isLt (sgn b y p) = true then (if lnL b y p - p ≤ 8 then wK (sgn b y) p (lnL b y p - p) 21 0 else 1)
  else if isDg (sgn b y p) = true then (if lnD b y p - p ≤ 4 then 3 else 1) else sgK (sgn b y p) (decide (sgn b y (p + 1) = 61))
def tkE (b : Nat) (y : Nat → Nat) (p : Nat) : Nat := if isLt (sgn b y p) = true then lnL b y p else if isDg (sgn b y p) = true then lnD b y p else if tkK b y p = 10 ∨ tkK b y p = 11 ∨ tkK b y p = 13 then p + 2 else p + 1
theorem sgn_lt {b : Nat} {y : Nat → Nat} (hy : ∀ k, y k < 256) (k : Nat) : sgn b y k < 256 := by
  unfold sgn; split
  · exact hy k
  · omega
theorem sgn_b {b : Nat} {y : Nat → Nat} {k : Nat} (h : b ≤ k) : sgn b y k = 0 := if_neg (by omega)
theorem lt_b {b : Nat} {y : Nat → Nat} (k : Nat) (h : b ≤ k) : isLt (sgn b y k) = false := by rw [sgn_b h]; rfl
theorem dg_b {b : Nat} {y : Nat → Nat} (k : Nat) (h : b ≤ k) : isDg (sgn b y k) = false := by rw [sgn_b h]; rfl
theorem bk_b {b : Nat} {y : Nat → Nat} (k : Nat) (h : b ≤ k) : (decide (k < b) && isBk (sgn b y k)) = false := by rw [decide_eq_false (by omega)]; rfl
theorem sgK_ok : ∀ s, s < 256 → ∀ f : Bool, f_X8_signKind (nI s) (if f = true then 1 else 0) = nI (sgK s f) ∧ (sgK s f = 1 ∨ (4 ≤ sgK s f ∧ sgK s f ≤ 15)) := by decide +kernel
theorem isLetterC {v : Nat} (hv : v < 256) : f_X8_isLetter (nI v) = if isLt v = true then 1 else 0 := by
  have : ∀ v, v < 256 → f_X8_isLetter (nI v) = if isLt v = true then 1 else 0 := by decide +kernel
  exact this v hv
theorem isDigitC {v : Nat} (hv : v < 256) : f_X8_isDigit (nI v) = if isDg v = true then 1 else 0 := by
  have : ∀ v, v < 256 → f_X8_isDigit (nI v) = if isDg v = true then 1 else 0 := by decide +kernel
  exact this v hv
def CL (b : Nat) (y : Nat → Nat) (σ : Mm) : Prop := b ≤ 2000 ∧ (∀ k, y k < 256) ∧ mA σ 0 0 6 0 = nI b ∧ ∀ k, k < b → mA σ 0 0 7 k &&& 255 = nI (y k)
theorem CL.fr {b : Nat} {y : Nat → Nat} {σ τ : Mm} {W : List (Nat × Nat × Nat)} (h : CL b y σ) (hf : Fr W σ τ) (hw : (!(inW W 0 6 0) && noW W 0 7) = true) : CL b y τ := by
  simp only [Bool.and_eq_true, Bool.not_eq_true'] at hw
  unfold CL
  rw [hf.fld (t := 0) (k := 6) (f := 0) 0 hw.1, hf.row (t := 0) (k := 7) 0 hw.2]
  exact h
theorem s_sign {b k : Nat} {y : Nat → Nat} {σ : Mm} (h : CL b y σ) (hk : k < 100000) : F_X8_sign (nI k) σ = some (nI (sgn b y k), σ) := by
  obtain ⟨h1, h2, h3, h4⟩ := h
  unfold F_X8_sign
  rw [if_neg (nI_pos (by omega)), h3]
  by_cases c : b ≤ k
  · rw [if_pos (nI_le c (by omega)), sgn_b c]; rfl
  · have ik : inb (nI k) 2000 = true := by
      have : k < 2000 := by omega
      clear h2 h3 h4; grind [gI, gB, gC]
    rw [if_neg (nI_ge (by omega) (by omega)), if_pos ik, nI_clamp (by omega), h4 k (by omega)]
    unfold sgn
    rw [if_pos (by omega)]
theorem blanks_2 {b : Nat} {y : Nat → Nat} {σ : Mm} (h : CL b y σ) : ∀ (n m p : Nat), b < n + p → b < m + p → p ≤ b → F_X8_behindBlanks_2 n (nI p) σ = some (nI (runF (fun k => decide (k < b) && isBk (sgn b y k)) m p), σ) := by
  have h1 := h.1
  intro n
  induction n with
  | zero => intro m p h; omega
  | succ n ih =>
    intro m p hn hm hp
    change B_X8_behindBlanks_2 (F_X8_behindBlanks_2 n) _ _ = _
    unfold B_X8_behindBlanks_2
    rw [h.2.2.1]
    by_cases c : b ≤ p
    · have e : p = b := by omega
      subst e
      rw [if_pos (nI_le c (by omega))]
      have : runF (fun k => decide (k < p) && isBk (sgn p y k)) m p = p := by
        cases m with
        | zero => rfl
        | succ m => rw [runF_s, if_neg (by rw [bk_b p (Nat.le_refl _)]; decide)]
      rw [this]
    rw [if_neg (nI_ge (by omega) (by omega)), s_sign h (by omega), bnd_s]
    obtain ⟨m, rfl⟩ : ∃ m', m = m' + 1 := ⟨m - 1, by omega⟩
    have hs := sgn_lt (b := b) h.2.1 p
    have i1 := ih m (p + 1) (by omega) (by omega) (by omega)
    rw [runF_s]
    unfold F_X8_behindBlanks_15 F_X8_behindBlanks_42
    rw [nI_1, i1]
    have q : ∀ c, c < 256 → (nI (sgn b y p) = nI c ↔ sgn b y p = c) := fun c hc => nI_eq (by omega) (by omega)
    show (if nI (sgn b y p) = nI 9 then _ else if nI (sgn b y p) = nI 10 then _ else if nI (sgn b y p) = nI 13 then _ else if nI (sgn b y p) = nI 32 then _ else _) = _
    simp only [q 9 (by omega), q 10 (by omega), q 13 (by omega), q 32 (by omega)]
    have hd : decide (p < b) = true := decide_eq_true (by omega)
    rw [hd, Bool.true_and]
    unfold isBk
    by_cases c9 : sgn b y p = 9
    · simp [c9]
    · by_cases c10 : sgn b y p = 10
      · simp [c10]
      · by_cases c13 : sgn b y p = 13
        · simp [c13]
        · by_cases c32 : sgn b y p = 32
          · simp [c32]
          · simp [c9, c10, c13, c32]
theorem s_blanks {b p : Nat} {y : Nat → Nat} {σ : Mm} (h : CL b y σ) (hp : p ≤ b) : F_X8_behindBlanks (nI p) σ = some (nI (skB b y p), σ) :=
  blanks_2 h FU RF p (by have := h.1; show b < 1000000 + p; omega) (by have := h.1; show b < 2500 + p; omega) hp
/-- what cutting a TOKEN leaves: the rows at its number t -/
def CT1 (b : Nat) (y : Nat → Nat) (p t : Nat) (σ : Mm) (q : Int32 × Mm) : Prop := q.1 = nI (tkE b y p) ∧ mA q.2 0 0 8 t = nI (tkK b y p) ∧ (tkK b y p = 3 → mA q.2 0 0 10 t = nI (vlN (sgn b y) p (lnD b y p - p))) ∧ (tkK b y p = 2 → mL q.2 0 0 11 t = lN (nmL 32 (rl (sgn b y) p (lnL b y p - p)))) ∧
  ∀ j, j ≠ t → mA q.2 0 0 8 j = mA σ 0 0 8 j ∧ mA q.2 0 0 10 j = mA σ 0 0 10 j ∧ mL q.2 0 0 11 j = mL σ 0 0 11 j
theorem number_4 {b p t : Nat} {y : Nat → Nat} {σ : Mm} (h : CL b y σ) (ht : mA σ 0 0 6 2 = nI t) (ht4 : t ≤ 400) (hL : isLt (sgn b y p) = false) (hD : isDg (sgn b y p) = true) : ∀ (n m a : Nat), b < n + a → b < m + a → p ≤ a → a ≤ b → runF (fun k => isDg (sgn b y k)) m a = lnD b y p →
    Ok (F_X8_cutNumber_4 n (nI p) (nI (vlN (sgn b y) p (if a - p ≤ 4 then a - p else 4))) (nI a) σ) (CT1 b y p t σ) := by
  have h1 := h.1
  have it : inb (nI t) 402 = true := by clear h ht hL hD; grind [gI, gB, gC]
  have ct : (nI t).toNatClampNeg = t := nI_clamp (by omega)
  have fin : ∀ a, a = lnD b y p → p ≤ a → a ≤ b → Ok (F_X8_cutNumber_50 (nI p) (nI (vlN (sgn b y) p (if a - p ≤ 4 then a - p else 4))) (nI a) σ) (CT1 b y p t σ) := by
    intro a ha hpa hab
    unfold F_X8_cutNumber_50
    rw [pk_sub hpa, ht]
    have hK : tkK b y p = if a - p ≤ 4 then 3 else 1 := by
      unfold tkK
      rw [if_neg (by rw [hL]; decide), if_pos hD, ← ha]
    have hE : tkE b y p = a := by
      unfold tkE
      rw [if_neg (by rw [hL]; decide), if_pos hD, ha]
    have go : ∀ kk : Nat, kk = tkK b y p → Ok (F_X8_cutNumber_70 (nI (vlN (sgn b y) p (if a - p ≤ 4 then a - p else 4))) (nI a) (nI kk) (nI t) σ) (CT1 b y p t σ) := by
      intro kk hkk
      unfold F_X8_cutNumber_70 F_X8_cutNumber_71 F_X8_cutNumber_81
      have e2 : mA (setA σ 0 0 8 (upd (mA σ 0 0 8) (nI t).toNatClampNeg (nI kk))) 0 0 6 2 = nI t := by rw [mA_A, if_neg (by decide)]; exact ht
      rw [e2, ct]
      refine Ok_t it (Ok_t it (Ok_r ⟨by rw [hE], ?_, fun h3 => ?_, fun h2 => ?_, fun j hj => ⟨?_, ?_, rfl⟩⟩))
      · simp only [mA_A, mL_A, mP_A, mA_L, mL_L, mP_L, upd_at]; simp; rw [hkk]
      · simp only [mA_A, mL_A, mP_A, mA_L, mL_L, mP_L, upd_at]; simp
        rw [h3] at hK
        by_cases c : a - p ≤ 4
        · rw [if_pos (show a ≤ 4 + p by omega), ha]
        · rw [if_neg c] at hK; omega
      · rw [h2] at hK; split at hK <;> omega
      · simp only [mA_A, mL_A, mP_A, mA_L, mL_L, mP_L, upd_at]; simp [hj]
      · simp only [mA_A, mL_A, mP_A, mA_L, mL_L, mP_L, upd_at]; simp [hj]
    by_cases c : a - p ≤ 4
    · refine Ok_f (show ¬ (4 : Int32) < nI (a - p) from nI_nlt (a := 4) c (by omega)) (go 3 (by rw [hK, if_pos c]))
    · exact Ok_t (nI_lt (a := 4) (by omega) (by omega)) (go 1 (by rw [hK, if_neg c]))
  intro n
  induction n with
  | zero => intro m a h; omega
  | succ n ih =>
    intro m a hn hm hpa hab hrun
    change Ok (B_X8_cutNumber_4 (F_X8_cutNumber_4 n) _ _ _ _) _
    unfold B_X8_cutNumber_4
    rw [h.2.2.1]
    by_cases c : b ≤ a
    · refine Ok_t (nI_le c (by omega)) (fin a ?_ hpa hab)
      rw [← hrun]
      cases m with
      | zero => rfl
      | succ m => rw [runF_s, if_neg (by rw [dg_b a c]; decide)]
    refine Ok_f (nI_ge (by omega) (by omega)) ?_
    rw [s_sign h (by omega), bnd_s]
    unfold F_X8_cutNumber_17
    have hs := sgn_lt (b := b) h.2.1 a
    rw [isDigitC hs]
    obtain ⟨m, rfl⟩ : ∃ m', m = m' + 1 := ⟨m - 1, by omega⟩
    rw [runF_s] at hrun
    by_cases c1 : isDg (sgn b y a) = true
    · rw [if_pos c1] at hrun ⊢
      refine Ok_f ne10 ?_
      rw [pk_sub hpa]
      unfold F_X8_cutNumber_44
      have hdg : 48 ≤ sgn b y a := by unfold isDg at c1; simp at c1; exact c1.1
      by_cases c2 : 4 ≤ a - p
      · refine Ok_t (nI_le (a := 4) c2 (by omega)) ?_
        rw [nI_1]
        have i1 := ih m (a + 1) (by omega) (by omega) (by omega) (by omega) hrun
        have e : (if a + 1 - p ≤ 4 then a + 1 - p else 4) = (if a - p ≤ 4 then a - p else 4) := by split <;> split <;> omega
        rw [e] at i1
        exact i1
      · refine Ok_f (nI_ge (b := 4) (by omega) (by omega)) ?_
        rw [s_sign h (by omega), bnd_s]
        unfold F_X8_cutNumber_39 F_X8_cutNumber_44
        have i1 := ih m (a + 1) (by omega) (by omega) (by omega) (by omega) hrun
        rw [if_pos (show a + 1 - p ≤ 4 by omega), show a + 1 - p = (a - p) + 1 by omega] at i1
        rw [if_pos (show a - p ≤ 4 by omega), nI_1]
        have e : (10 : Int32) * nI (vlN (sgn b y) p (a - p)) + nI (sgn b y a) - 48 = nI (vlN (sgn b y) p (a - p + 1)) := by
          rw [show (10 : Int32) = nI 10 from rfl, pk_mul, nI_add, show (48 : Int32) = nI 48 from rfl, pk_sub (by omega)]
          show _ = nI (10 * vlN (sgn b y) p (a - p) + (sgn b y (p + (a - p)) - 48))
          rw [show p + (a - p) = a by omega]
          exact congrArg nI (by omega)
        rw [e]
        exact i1
    · rw [if_neg c1] at hrun ⊢
      exact Ok_t rfl (fin a hrun hpa hab)
theorem wch_nI {j : Nat} (hj : j < 126) : wch (nI j) = nI (wN j) := by
  unfold wch
  rw [nI_clamp (by omega)]
  exact wby_at j hj
theorem wN_lt : ∀ j, j < 126 → wN j < 256 := by decide +kernel
theorem isWord_3 {b p m w : Nat} {y : Nat → Nat} {σ : Mm} (h : CL b y σ) (hw : w < 21) (hp : p ≤ 2000) (hm : m ≤ 8) : ∀ (n i : Nat), 6 - i < n → i ≤ 6 → (∀ k, k < i → wN (6 * w + k) = if k < m then sgn b y (p + k) else 32) → F_X8_isWord_3 n (nI w) (nI p) (nI m) (nI i) σ = some (if mW6 (sgn b y) p m w = true then 1 else 0, σ) := by
  intro n
  induction n with
  | zero => intro i h; omega
  | succ n ih =>
    intro i hn hi hk
    change B_X8_isWord_3 (F_X8_isWord_3 n) _ _ _ _ _ = _
    unfold B_X8_isWord_3
    by_cases c : 6 ≤ i
    · rw [if_pos (show (6 : Int32) ≤ nI i from nI_le (a := 6) c (by omega)), if_pos (mW6_iff.mpr (fun k hk2 => hk k (by omega)))]
    rw [if_neg (show ¬ (6 : Int32) ≤ nI i from nI_ge (b := 6) (by omega) (by omega))]
    have go : ∀ v, v < 256 → v = (if i < m then sgn b y (p + i) else 32) → F_X8_isWord_29 (F_X8_isWord_3 n) (nI w) (nI p) (nI m) (nI i) (nI v) σ = some (if mW6 (sgn b y) p m w = true then 1 else 0, σ) := by
      intro v hv hve
      unfold F_X8_isWord_29
      have e : nI w * 6 + nI i = nI (6 * w + i) := by
        rw [show (6 : Int32) = nI 6 from rfl, pk_mul, nI_add]; exact congrArg nI (by omega)
      have ij : inb (nI (6 * w + i)) 126 = true := by
        have : 6 * w + i < 126 := by omega
        generalize 6 * w + i = z at *
        clear h ih hk e; grind [gI, gB, gC]
      have hz := wN_lt (6 * w + i) (by omega)
      rw [e, if_neg (show ¬ (126 : Int32) ≤ nI (6 * w + i) from nI_ge (b := 126) (by omega) (by omega)), if_pos ij, wch_nI (by omega), nI_1]
      by_cases c2 : wN (6 * w + i) = v
      · rw [if_pos (by rw [c2])]
        refine ih (i + 1) (by omega) (by omega) (fun k hk2 => ?_)
        by_cases c3 : k = i
        · subst c3; rw [c2, hve]
        · exact hk k (by omega)
      · rw [if_neg (fun z => c2 ((nI_eq (by omega) (by omega)).mp z)), if_neg (fun z => c2 ((mW6_iff.mp z i (by omega)).trans hve.symm))]
    by_cases c1 : m ≤ i
    · rw [if_pos (nI_le c1 (by omega))]
      exact go 32 (by omega) (by rw [if_neg (by omega)])
    · rw [if_neg (nI_ge (by omega) (by omega)), nI_add, s_sign h (by omega), bnd_s]
      unfold F_X8_isWord_24
      exact go _ (sgn_lt h.2.1 _) (by rw [if_pos (by omega)])
theorem wordKind_2 {b p m : Nat} {y : Nat → Nat} {σ : Mm} (h : CL b y σ) (hp : p ≤ 2000) (hm : m ≤ 8) : ∀ (n k w : Nat), k + w = 21 → k < n → F_X8_wordKind_2 n (nI p) (nI m) (nI w) σ = some (nI (wK (sgn b y) p m k w), σ) := by
  intro n
  induction n with
  | zero => intro k w _ h; omega
  | succ n ih =>
    intro k w hkw hk
    change B_X8_wordKind_2 (F_X8_wordKind_2 n) _ _ _ _ = _
    unfold B_X8_wordKind_2
    cases k with
    | zero => rw [if_pos (show (21 : Int32) ≤ nI w from nI_le (a := 21) (by omega) (by omega))]; rfl
    | succ k =>
      rw [if_neg (show ¬ (21 : Int32) ≤ nI w from nI_ge (b := 21) (by omega) (by omega))]
      show _ = some (nI (if m ≤ 6 ∧ mW6 (sgn b y) p m w = true then 16 + w else wK (sgn b y) p m k (w + 1)), σ)
      by_cases c : 6 < m
      · rw [if_pos (show (6 : Int32) < nI m from nI_lt (a := 6) c (by omega)), if_neg (by omega)]
        have : ∀ k w, wK (sgn b y) p m k w = 2 := by
          intro k
          induction k with
          | zero => intro w; rfl
          | succ k ih2 => intro w; show (if m ≤ 6 ∧ _ then _ else _) = 2; rw [if_neg (by omega)]; exact ih2 _
        rw [this]; rfl
      · have e : F_X8_isWord (nI w) (nI p) (nI m) σ = some (if mW6 (sgn b y) p m w = true then 1 else 0, σ) := isWord_3 h (by omega) hp hm FU 0 (by show _ < 1000000; omega) (by omega) (fun k hk => by omega)
        rw [if_neg (show ¬ (6 : Int32) < nI m from nI_nlt (a := 6) (by omega) (by omega)), e, bnd_s]
        unfold F_X8_wordKind_21
        cases hm6 : mW6 (sgn b y) p m w with
        | false =>
          rw [if_pos (by decide), if_neg (fun z => by cases z.2), nI_1]
          exact ih k (w + 1) (by omega) (by omega)
        | true =>
          rw [if_neg (by decide), if_pos ⟨by omega, rfl⟩, show (16 : Int32) = nI 16 from rfl, nI_add]
theorem s_wordKind {b p m : Nat} {y : Nat → Nat} {σ : Mm} (h : CL b y σ) (hp : p ≤ 2000) (hm : m ≤ 8) : F_X8_wordKind (nI p) (nI m) σ = some (nI (wK (sgn b y) p m 21 0), σ) :=
  wordKind_2 h hp hm FU 21 0 rfl (by show _ < 1000000; omega)
theorem word_5 {b p t : Nat} {y : Nat → Nat} {σ : Mm} (h : CL b y σ) (hpb : p < b) (ht : mA σ 0 0 6 2 = nI t) (ht4 : t ≤ 400) (hL : isLt (sgn b y p) = true) : ∀ (n m a : Nat), b < n + a → b < m + a → p ≤ a → a ≤ b → runF (fun k => isLt (sgn b y k)) m a = lnL b y p →
    Ok (F_X8_cutWord_5 n (nI p) (lN (nmL 32 (rl (sgn b y) p (if a - p ≤ 8 then a - p else 8)))) (nI a) σ) (CT1 b y p t σ) := by
  have h1 := h.1
  have it : inb (nI t) 402 = true := by clear h ht hL; grind [gI, gB, gC]
  have ct : (nI t).toNatClampNeg = t := nI_clamp (by omega)
  have fin : ∀ a, a = lnL b y p → p ≤ a → a ≤ b → Ok (F_X8_cutWord_61 (nI p) (lN (nmL 32 (rl (sgn b y) p (if a - p ≤ 8 then a - p else 8)))) (nI a) σ) (CT1 b y p t σ) := by
    intro a ha hpa hab
    unfold F_X8_cutWord_61
    rw [pk_sub hpa, ht]
    have hK : tkK b y p = if a - p ≤ 8 then wK (sgn b y) p (a - p) 21 0 else 1 := by
      unfold tkK
      rw [if_pos hL, ← ha]
    have hE : tkE b y p = a := by
      unfold tkE
      rw [if_pos hL, ha]
    have hK3 : tkK b y p ≠ 3 := by
      rw [hK]
      split
      · rcases wK_or (s := sgn b y) (p := p) (n := a - p) 21 0 rfl with ⟨z, -⟩ | ⟨v, -, -, -, z⟩ <;> rw [z] <;> omega
      · omega
    have go : ∀ kk : Nat, kk = tkK b y p → Ok (F_X8_cutWord_91 (lN (nmL 32 (rl (sgn b y) p (if a - p ≤ 8 then a - p else 8)))) (nI a) (nI kk) (nI t) σ) (CT1 b y p t σ) := by
      intro kk hkk
      unfold F_X8_cutWord_91 F_X8_cutWord_92 F_X8_cutWord_102
      have e2 : mA (setA σ 0 0 8 (upd (mA σ 0 0 8) (nI t).toNatClampNeg (nI kk))) 0 0 6 2 = nI t := by rw [mA_A, if_neg (by decide)]; exact ht
      rw [e2, ct]
      refine Ok_t it (Ok_t it (Ok_r ⟨by rw [hE], ?_, fun h3 => absurd h3 hK3, fun h2 => ?_, fun j hj => ⟨?_, ?_, ?_⟩⟩))
      · simp only [mA_A, mL_A, mP_A, mA_L, mL_L, mP_L, upd_at]; simp; rw [hkk]
      · rw [mL_L, if_pos ⟨rfl, rfl, rfl⟩]
        show (if t = t then _ else _) = _
        rw [if_pos rfl]
        rw [h2] at hK
        by_cases c : a - p ≤ 8
        · rw [if_pos c, ha]
        · rw [if_neg c] at hK; omega
      · simp only [mA_A, mL_A, mP_A, mA_L, mL_L, mP_L, upd_at]; simp [hj]
      · simp only [mA_A, mL_A, mP_A, mA_L, mL_L, mP_L, upd_at]; simp
      · rw [mL_L, if_pos ⟨rfl, rfl, rfl⟩]
        show (if j = t then _ else _) = _
        rw [if_neg hj, mL_A]
    by_cases c : a - p ≤ 8
    · refine Ok_f (show ¬ (8 : Int32) < nI (a - p) from nI_nlt (a := 8) c (by omega)) ?_
      rw [s_wordKind h (by omega) c, bnd_s]
      unfold F_X8_cutWord_87
      exact go _ (by rw [hK, if_pos c])
    · exact Ok_t (show (8 : Int32) < nI (a - p) from nI_lt (a := 8) (by omega) (by omega)) (go 1 (by rw [hK, if_neg c]))
  intro n
  induction n with
  | zero => intro m a h; omega
  | succ n ih =>
    intro m a hn hm hpa hab hrun
    change Ok (B_X8_cutWord_5 (F_X8_cutWord_5 n) _ _ _ _) _
    unfold B_X8_cutWord_5
    rw [h.2.2.1]
    by_cases c : b ≤ a
    · refine Ok_t (nI_le c (by omega)) (fin a ?_ hpa hab)
      rw [← hrun]
      cases m with
      | zero => rfl
      | succ m => rw [runF_s, if_neg (by rw [lt_b a c]; decide)]
    refine Ok_f (nI_ge (by omega) (by omega)) ?_
    rw [s_sign h (by omega), bnd_s]
    unfold F_X8_cutWord_20
    have hs := sgn_lt (b := b) h.2.1 a
    rw [isLetterC hs]
    obtain ⟨m, rfl⟩ : ∃ m', m = m' + 1 := ⟨m - 1, by omega⟩
    rw [runF_s] at hrun
    by_cases c1 : isLt (sgn b y a) = true
    · rw [if_pos c1] at hrun ⊢
      refine Ok_f ne10 ?_
      rw [pk_sub hpa]
      unfold F_X8_cutWord_55
      have hlt : 97 ≤ sgn b y a := by unfold isLt at c1; simp at c1; exact c1.1
      by_cases c2 : 8 ≤ a - p
      · refine Ok_t (nI_le (a := 8) c2 (by omega)) ?_
        rw [nI_1]
        have i1 := ih m (a + 1) (by omega) (by omega) (by omega) (by omega) hrun
        have e : (if a + 1 - p ≤ 8 then a + 1 - p else 8) = (if a - p ≤ 8 then a - p else 8) := by split <;> split <;> omega
        rw [e] at i1
        exact i1
      · refine Ok_f (nI_ge (b := 8) (by omega) (by omega)) ?_
        rw [s_sign h (by omega), bnd_s]
        unfold F_X8_cutWord_46 F_X8_cutWord_55
        have i1 := ih m (a + 1) (by omega) (by omega) (by omega) (by omega) hrun
        rw [if_pos (show a + 1 - p ≤ 8 by omega), show a + 1 - p = (a - p) + 1 by omega] at i1
        rw [if_pos (show a - p ≤ 8 by omega), nI_1]
        have e : (32 : Int64) * lN (nmL 32 (rl (sgn b y) p (a - p))) + (nI (sgn b y a)).toInt64 - 97 + 1 = lN (nmL 32 (rl (sgn b y) p (a - p + 1))) := by
          rw [nI_l (by omega), show (32 : Int64) = lN 32 from rfl, lN_mul, lN_add, show (97 : Int64) = lN 97 from rfl, lN_sub (by omega), lN_1]
          show _ = lN (32 * nmL 32 (rl (sgn b y) p (a - p)) + (sgn b y (p + (a - p)) - 96))
          rw [show p + (a - p) = a by omega]
          exact congrArg lN (by omega)
        rw [e]
        exact i1
    · rw [if_neg c1] at hrun ⊢
      exact Ok_t rfl (fin a hrun hpa hab)
theorem s_cutOne {b p t : Nat} {y : Nat → Nat} {σ : Mm} (h : CL b y σ) (hpb : p < b) (ht : mA σ 0 0 6 2 = nI t) (ht4 : t ≤ 400) : Ok (F_X8_cutOne (nI p) σ) (CT1 b y p t σ) := by
  have h1 := h.1
  have it : inb (nI t) 402 = true := by clear h ht hpb; grind [gI, gB, gC]
  have ct : (nI t).toNatClampNeg = t := nI_clamp (by omega)
  have hs := sgn_lt (b := b) h.2.1 p
  unfold F_X8_cutOne
  rw [s_sign h (by omega), bnd_s]
  unfold F_X8_cutOne_5
  rw [isLetterC hs]
  by_cases cL : isLt (sgn b y p) = true
  · rw [if_pos cL]
    refine Ok_f ne10 ?_
    unfold F_X8_cutWord F_X8_cutOne_16
    have := word_5 h hpb ht ht4 cL FU RF p (by show b < 1000000 + p; omega) (by show b < 2500 + p; omega) (Nat.le_refl _) (by omega) rfl
    rw [if_pos (by omega), Nat.sub_self] at this
    exact Ok_B this (fun v τ hv => Ok_r hv)
  · rw [if_neg cL, s_sign h (by omega), bnd_s]
    refine Ok_t rfl ?_
    have cL' : isLt (sgn b y p) = false := by cases h : isLt (sgn b y p) <;> simp_all
    unfold F_X8_cutOne_22
    rw [isDigitC hs]
    by_cases cD : isDg (sgn b y p) = true
    · rw [if_pos cD]
      refine Ok_f ne10 ?_
      unfold F_X8_cutNumber F_X8_cutOne_33
      have := number_4 h ht ht4 cL' cD FU RF p (by show b < 1000000 + p; omega) (by show b < 2500 + p; omega) (Nat.le_refl _) (by omega) rfl
      rw [if_pos (by omega), Nat.sub_self] at this
      exact Ok_B this (fun v τ hv => Ok_r hv)
    · rw [if_neg cD, s_sign h (by omega), bnd_s]
      refine Ok_t rfl ?_
      unfold F_X8_cutOne_47
      rw [nI_1, s_sign h (by omega), bnd_s]
      unfold F_X8_cutOne_54
      have hs1 := sgn_lt (b := b) h.2.1 (p + 1)
      have hK : tkK b y p = sgK (sgn b y p) (decide (sgn b y (p + 1) = 61)) := by
        unfold tkK; rw [if_neg cL, if_neg cD]
      have hE : tkE b y p = if tkK b y p = 10 ∨ tkK b y p = 11 ∨ tkK b y p = 13 then p + 2 else p + 1 := by
        unfold tkE; rw [if_neg cL, if_neg cD]
      have hsk := sgK_ok (sgn b y p) hs (decide (sgn b y (p + 1) = 61))
      have go : ∀ f : Int32, f = (if decide (sgn b y (p + 1) = 61) = true then 1 else 0) → Ok (F_X8_cutOne_64 (nI p) f (nI (sgn b y p)) (mA σ 0 0 6 2) σ) (CT1 b y p t σ) := by
        intro f hf
        unfold F_X8_cutOne_64 F_X8_cutOne_68 F_X8_cutOne_110 F_X8_cutOne_115
        rw [ht, ct, hf, hsk.1, ← hK]
        generalize hτ : setA σ 0 0 8 (upd (mA σ 0 0 8) t (nI (tkK b y p))) = τ
        have e2 : mA τ 0 0 6 2 = nI t := by subst hτ; rw [mA_A, if_neg (by decide)]; exact ht
        have e8 : mA τ 0 0 8 t = nI (tkK b y p) := by subst hτ; rw [mA_A, if_pos ⟨rfl, rfl, rfl⟩, upd_at, if_pos rfl]
        have hk40 : tkK b y p ≤ 15 := by rw [hK]; rcases hsk.2 with z | z <;> omega
        have hk3 : tkK b y p ≠ 3 ∧ tkK b y p ≠ 2 := by rw [hK]; rcases hsk.2 with z | z <;> omega
        have res : ∀ e : Nat, e = tkE b y p → CT1 b y p t σ (nI e, τ) := by
          intro e he
          refine ⟨by rw [he], e8, fun z => absurd z hk3.1, fun z => absurd z hk3.2, fun j hj => ?_⟩
          subst hτ
          refine ⟨?_, ?_, rfl⟩
          · simp only [mA_A, mL_A, mP_A, mA_L, mL_L, mP_L, upd_at]; simp [hj]
          · simp only [mA_A, mL_A, mP_A, mA_L, mL_L, mP_L, upd_at]; simp
        rw [e2, ct, e8, show nI p + 1 = nI (p + 1) from nI_1 p, show nI p + 2 = nI (p + 2) from nI_add p 2]
        have q : ∀ c, c ≤ 100 → (nI (tkK b y p) = nI c ↔ tkK b y p = c) := fun c hc => nI_eq (by omega) (by omega)
        refine Ok_t it (Ok_t it ?_)
        by_cases c10 : tkK b y p = 10
        · exact Ok_t ((q 10 (by omega)).mpr c10) (Ok_f ne10 (Ok_r (res _ (by rw [hE, if_pos (Or.inl c10)]))))
        · refine Ok_f (fun z => c10 ((q 10 (by omega)).mp z)) (Ok_t it ?_)
          by_cases c11 : tkK b y p = 11
          · exact Ok_t ((q 11 (by omega)).mpr c11) (Ok_f ne10 (Ok_r (res _ (by rw [hE, if_pos (Or.inr (Or.inl c11))]))))
          · refine Ok_f (fun z => c11 ((q 11 (by omega)).mp z)) (Ok_t it ?_)
            by_cases c13 : tkK b y p = 13
            · exact Ok_t ((q 13 (by omega)).mpr c13) (Ok_f ne10 (Ok_r (res _ (by rw [hE, if_pos (Or.inr (Or.inr c13))]))))
            · exact Ok_f (fun z => c13 ((q 13 (by omega)).mp z)) (Ok_t rfl (Ok_r (res _ (by rw [hE, if_neg (by omega)]))))
      by_cases c61 : sgn b y (p + 1) = 61
      · exact Ok_t (by rw [c61]; rfl) (go 1 (by rw [decide_eq_true c61, if_pos rfl]))
      · exact Ok_f (fun z => c61 ((nI_eq (b := 61) (by omega) (by omega)).mp z)) (go 0 (by rw [decide_eq_false c61, if_neg (by decide)]))
