/-! the model scans the TOKENS -/
def MB (b : Nat) (y : Nat → Nat) (σ : Mm) : Prop := b ≤ 2000 ∧ (∀ k, y k < 256) ∧ mA σ 3 0 0 0 = nI b ∧ ∀ k, k < b → mA σ 3 0 1 k = nI (y k)
theorem MB.fr {b : Nat} {y : Nat → Nat} {σ τ : Mm} {W : List (Nat × Nat × Nat)} (h : MB b y σ) (hf : Fr W σ τ) (hw : (!(inW W 3 0 0) && noW W 3 1) = true) : MB b y τ := by
  simp only [Bool.and_eq_true, Bool.not_eq_true'] at hw
  unfold MB
  rw [hf.fld (t := 3) (k := 0) (f := 0) 0 hw.1, hf.row (t := 3) (k := 1) 0 hw.2]
  exact h
theorem s_byteAt {b k : Nat} {y : Nat → Nat} {σ : Mm} (h : MB b y σ) (hk : k < 100000) : F_X12_byteAt (nI k) σ = some (nI (sgn b y k), σ) := by
  obtain ⟨h1, h2, h3, h4⟩ := h
  unfold F_X12_byteAt
  rw [h3]
  by_cases c : b ≤ k
  · rw [if_pos (nI_le c (by omega)), sgn_b c]; rfl
  · have ik : inb (nI k) 2000 = true := by
      have : k < 2000 := by omega
      clear h2 h3 h4; grind [gI, gB, gC]
    rw [if_neg (nI_ge (by omega) (by omega)), if_pos ik, nI_clamp (by omega), h4 k (by omega)]
    unfold sgn
    rw [if_pos (by omega)]
theorem s_letterM {b k : Nat} {y : Nat → Nat} {σ : Mm} (h : MB b y σ) (hk : k < 100000) : F_X12_isLetter (nI k) σ = some (if isLt (sgn b y k) = true then 1 else 0, σ) := by
  have hs := sgn_lt (b := b) h.2.1 k
  unfold F_X12_isLetter F_X12_isLetter_5 F_X12_isLetter_15
  rw [s_byteAt h hk, bnd_s]
  unfold isLt
  by_cases c1 : sgn b y k < 97
  · rw [if_pos (show nI (sgn b y k) < 97 from nI_lt (b := 97) c1 (by omega)), decide_eq_false (by omega), if_neg (by decide)]
  · rw [if_neg (show ¬ nI (sgn b y k) < 97 from nI_nlt (b := 97) (by omega) (by omega)), s_byteAt h hk, bnd_s]
    by_cases c2 : 122 < sgn b y k
    · rw [if_pos (show (122 : Int32) < nI (sgn b y k) from nI_lt (a := 122) c2 (by omega)), decide_eq_false (by omega), if_neg (by decide)]
    · rw [if_neg (show ¬ (122 : Int32) < nI (sgn b y k) from nI_nlt (a := 122) (by omega) (by omega)), decide_eq_true (by omega), if_pos rfl]
theorem s_digitM {b k : Nat} {y : Nat → Nat} {σ : Mm} (h : MB b y σ) (hk : k < 100000) : F_X12_isDigit (nI k) σ = some (if isDg (sgn b y k) = true then 1 else 0, σ) := by
  have hs := sgn_lt (b := b) h.2.1 k
  unfold F_X12_isDigit F_X12_isDigit_5 F_X12_isDigit_15
  rw [s_byteAt h hk, bnd_s]
  unfold isDg
  by_cases c1 : sgn b y k < 48
  · rw [if_pos (show nI (sgn b y k) < 48 from nI_lt (b := 48) c1 (by omega)), decide_eq_false (by omega), if_neg (by decide)]
  · rw [if_neg (show ¬ nI (sgn b y k) < 48 from nI_nlt (b := 48) (by omega) (by omega)), s_byteAt h hk, bnd_s]
    by_cases c2 : 57 < sgn b y k
    · rw [if_pos (show (57 : Int32) < nI (sgn b y k) from nI_lt (a := 57) c2 (by omega)), decide_eq_false (by omega), if_neg (by decide)]
    · rw [if_neg (show ¬ (57 : Int32) < nI (sgn b y k) from nI_nlt (a := 57) (by omega) (by omega)), decide_eq_true (by omega), if_pos rfl]
def svM (s : Nat) (f : Bool) : Nat := if s = 61 then (if f = true then 300 else 61) else if s = 33 then (if f = true then 301 else 0) else if s = 60 then (if f = true then 302 else 60) else if s = 59 ∨ s = 43 ∨ s = 45 ∨ s = 42 ∨ s = 47 ∨ s = 40 ∨ s = 41 then s else 0
theorem svM_ok : ∀ s, s < 256 → ∀ f : Bool, svM s f = (if sgK s f = 1 then 0 else wh (sgK s f)) ∧ so (sgK s f) = (if sgK s f = 1 then 5 else 2) ∧ ((300 ≤ svM s f) ↔ (sgK s f = 10 ∨ sgK s f = 11 ∨ sgK s f = 13)) ∧ (svM s f = 0 ↔ sgK s f = 1) := by decide +kernel
theorem signAt_23 {s : Nat} {f : Bool} {σ : Mm} (hs : s < 256) : F_X12_signAt_23 (nI s) (if f = true then 1 else 0) σ = some (nI (svM s f), σ) := by
  unfold F_X12_signAt_23 F_X12_signAt_120
  have q : ∀ c, c < 256 → (nI s = nI c ↔ s = c) := fun c hc => nI_eq (by omega) (by omega)
  show (if nI s = nI 61 then _ else if nI s = nI 33 then _ else if nI s = nI 60 then _ else if nI s = nI 59 then _ else if nI s = nI 43 then _ else if nI s = nI 45 then _ else if nI s = nI 42 then _ else if nI s = nI 47 then _ else if nI s = nI 40 then _ else if nI s = nI 41 then _ else _) = _
  simp only [q 61 (by omega), q 33 (by omega), q 60 (by omega), q 59 (by omega), q 43 (by omega), q 45 (by omega), q 42 (by omega), q 47 (by omega), q 40 (by omega), q 41 (by omega)]
  unfold svM
  by_cases c1 : s = 61
  · subst c1; cases f <;> rfl
  · rw [if_neg c1, if_neg c1]
    by_cases c2 : s = 33
    · subst c2; cases f <;> rfl
    · rw [if_neg c2, if_neg c2]
      by_cases c3 : s = 60
      · subst c3; cases f <;> rfl
      · rw [if_neg c3, if_neg c3]
        by_cases c4 : s = 59
        · rw [if_pos c4, if_pos (by omega)]
        · rw [if_neg c4]
          by_cases c5 : s = 43
          · rw [if_pos c5, if_pos (by omega)]
          · rw [if_neg c5]
            by_cases c6 : s = 45
            · rw [if_pos c6, if_pos (by omega)]
            · rw [if_neg c6]
              by_cases c7 : s = 42
              · rw [if_pos c7, if_pos (by omega)]
              · rw [if_neg c7]
                by_cases c8 : s = 47
                · rw [if_pos c8, if_pos (by omega)]
                · rw [if_neg c8]
                  by_cases c9 : s = 40
                  · rw [if_pos c9, if_pos (by omega)]
                  · rw [if_neg c9]
                    by_cases c10 : s = 41
                    · rw [if_pos c10, if_pos (by omega)]
                    · rw [if_neg c10, if_neg (by omega)]; rfl
theorem s_signAt {b k : Nat} {y : Nat → Nat} {σ : Mm} (h : MB b y σ) (hk : k < 10000) : F_X12_signAt (nI k) σ = some (nI (svM (sgn b y k) (decide (sgn b y (k + 1) = 61))), σ) := by
  have hs := sgn_lt (b := b) h.2.1 k
  have hs1 := sgn_lt (b := b) h.2.1 (k + 1)
  unfold F_X12_signAt F_X12_signAt_5 F_X12_signAt_13
  rw [s_byteAt h (by omega), bnd_s, show nI k + 1 = nI (k + 1) from nI_1 k, s_byteAt h (by omega), bnd_s]
  by_cases c : sgn b y (k + 1) = 61
  · rw [if_pos (by rw [c]; rfl), decide_eq_true c]
    exact signAt_23 (f := true) hs
  · rw [if_neg (show ¬ nI (sgn b y (k + 1)) = 61 from fun z => c ((nI_eq (b := 61) (by omega) (by omega)).mp z)), decide_eq_false c]
    exact signAt_23 (f := false) hs
/-- the model's rows of the TOKEN at p, its number t -/
def RM1 (b : Nat) (y : Nat → Nat) (p : Nat) (σ : Mm) (t : Nat) : Prop := mA σ 3 0 2 t = nI (so (tkK b y p)) ∧ mA σ 3 0 3 t = nI p ∧ (4 ≤ tkK b y p → mA σ 3 0 4 t = nI (wh (tkK b y p))) ∧ (tkK b y p = 3 → mA σ 3 0 4 t = nI (vlN (sgn b y) p (lnD b y p - p))) ∧ (tkK b y p = 2 → mL σ 3 0 5 t = lN (nmL 27 (rl (sgn b y) p (lnL b y p - p))))
def CT2 (b : Nat) (y : Nat → Nat) (p t : Nat) (σ : Mm) (q : Int32 × Mm) : Prop := q.1 = nI (tkE b y p) ∧ RM1 b y p q.2 t ∧ mA q.2 3 0 0 2 = nI (t + 1) ∧ ∀ j, j ≠ t → mA q.2 3 0 2 j = mA σ 3 0 2 j ∧ mA q.2 3 0 3 j = mA σ 3 0 3 j ∧ mA q.2 3 0 4 j = mA σ 3 0 4 j ∧ mL q.2 3 0 5 j = mL σ 3 0 5 j
theorem s_token {t : Nat} {a c d : Int32} {σ : Mm} (ht : mA σ 3 0 0 2 = nI t) (ht4 : t ≤ 2000) : Ok (F_X12_token a c d σ) (fun τ => mA τ 3 0 2 t = a ∧ mA τ 3 0 3 t = c ∧ mA τ 3 0 4 t = d ∧ mA τ 3 0 0 2 = nI (t + 1) ∧ (∀ j, j ≠ t → mA τ 3 0 2 j = mA σ 3 0 2 j ∧ mA τ 3 0 3 j = mA σ 3 0 3 j ∧ mA τ 3 0 4 j = mA σ 3 0 4 j) ∧ mL τ 3 0 5 = mL σ 3 0 5) := by
  have it : inb (nI t) 2001 = true := by clear ht; grind [gI, gB, gC]
  have ct : (nI t).toNatClampNeg = t := nI_clamp (by omega)
  unfold F_X12_token F_X12_token_10 F_X12_token_20 F_X12_token_30
  have e1 : mA (setA σ 3 0 2 (upd (mA σ 3 0 2) t a)) 3 0 0 2 = nI t := by rw [mA_A, if_neg (by decide)]; exact ht
  have e2 : mA (setA (setA σ 3 0 2 (upd (mA σ 3 0 2) t a)) 3 0 3 (upd (mA (setA σ 3 0 2 (upd (mA σ 3 0 2) t a)) 3 0 3) t c)) 3 0 0 2 = nI t := by rw [mA_A, if_neg (by decide)]; exact e1
  rw [ht, ct]
  refine Ok_t it ?_
  rw [e1, ct]
  refine Ok_t it ?_
  rw [e2, ct]
  refine Ok_t it (Ok_r ⟨?_, ?_, ?_, ?_, fun j hj => ⟨?_, ?_, ?_⟩, rfl⟩)
  · simp only [mA_A, mL_A, mP_A, mA_L, mL_L, mP_L, upd_at]; simp
  · simp only [mA_A, mL_A, mP_A, mA_L, mL_L, mP_L, upd_at]; simp
  · simp only [mA_A, mL_A, mP_A, mA_L, mL_L, mP_L, upd_at]; simp
  · simp only [mA_A, mL_A, mP_A, mA_L, mL_L, mP_L, upd_at]; simp; rw [ht, nI_1]
  · simp only [mA_A, mL_A, mP_A, mA_L, mL_L, mP_L, upd_at]; simp [hj]
  · simp only [mA_A, mL_A, mP_A, mA_L, mL_L, mP_L, upd_at]; simp [hj]
  · simp only [mA_A, mL_A, mP_A, mA_L, mL_L, mP_L, upd_at]; simp [hj]
theorem numberM {b p t : Nat} {y : Nat → Nat} {σ : Mm} (h : MB b y σ) (hpb : p < b) (ht : mA σ 3 0 0 2 = nI t) (ht4 : t ≤ 2000) (hL : isLt (sgn b y p) = false) (hD : isDg (sgn b y p) = true) : ∀ (n m a : Nat), b < n + a → b < m + a → p ≤ a → a ≤ b → runF (fun k => isDg (sgn b y k)) m a = lnD b y p →
    Ok (F_X12_scan_120 n (nI p) (nI a) (nI (vlN (sgn b y) p (if a - p ≤ 4 then a - p else 4))) σ) (CT2 b y p t σ) := by
  have h1 := h.1
  intro n
  induction n with
  | zero => intro m a h; omega
  | succ n ih =>
    intro m a hn hm hpa hab hrun
    change Ok (B_X12_scan_120 (F_X12_scan_120 n) _ _ _ _) _
    unfold B_X12_scan_120
    rw [s_digitM h (by omega), bnd_s]
    unfold F_X12_scan_125
    by_cases c1 : isDg (sgn b y a) = true
    · have hab2 : a < b := by
        apply Nat.lt_of_not_le
        intro z
        rw [dg_b a z] at c1; cases c1
      obtain ⟨m, rfl⟩ : ∃ m', m = m' + 1 := ⟨m - 1, by omega⟩
      rw [runF_s, if_pos c1] at hrun
      rw [if_pos c1]
      refine Ok_f ne10 ?_
      rw [pk_sub hpa]
      unfold F_X12_scan_149
      have hdg : 48 ≤ sgn b y a := by unfold isDg at c1; simp at c1; exact c1.1
      have i1 := ih m (a + 1) (by omega) (by omega) (by omega) (by omega) hrun
      by_cases c2 : 4 ≤ a - p
      · refine Ok_t (nI_le (a := 4) c2 (by omega)) ?_
        rw [nI_1]
        have e : (if a + 1 - p ≤ 4 then a + 1 - p else 4) = (if a - p ≤ 4 then a - p else 4) := by split <;> split <;> omega
        rw [e] at i1
        exact i1
      · refine Ok_f (nI_ge (b := 4) (by omega) (by omega)) ?_
        rw [s_byteAt h (by omega), bnd_s]
        unfold F_X12_scan_144 F_X12_scan_149
        rw [if_pos (show a + 1 - p ≤ 4 by omega), show a + 1 - p = (a - p) + 1 by omega] at i1
        rw [if_pos (show a - p ≤ 4 by omega), nI_1]
        have e : (10 : Int32) * nI (vlN (sgn b y) p (a - p)) + nI (sgn b y a) - 48 = nI (vlN (sgn b y) p (a - p + 1)) := by
          rw [show (10 : Int32) = nI 10 from rfl, pk_mul, nI_add, show (48 : Int32) = nI 48 from rfl, pk_sub (by omega)]
          show _ = nI (10 * vlN (sgn b y) p (a - p) + (sgn b y (p + (a - p)) - 48))
          rw [show p + (a - p) = a by omega]
          exact congrArg nI (by omega)
        rw [e]
        exact i1
    · have ha : a = lnD b y p := by
        rw [← hrun]
        cases m with
        | zero => rfl
        | succ m => rw [runF_s, if_neg c1]
      rw [if_neg c1, pk_sub hpa]
      refine Ok_t rfl ?_
      have hK : tkK b y p = if a - p ≤ 4 then 3 else 1 := by
        unfold tkK
        rw [if_neg (by rw [hL]; decide), if_pos hD, ← ha]
      have hE : tkE b y p = a := by
        unfold tkE
        rw [if_neg (by rw [hL]; decide), if_pos hD, ha]
      unfold F_X12_scan_168 F_X12_scan_173
      by_cases c4 : a - p ≤ 4
      · rw [if_pos c4] at hK ⊢
        refine Ok_t (nI_le (b := 4) c4 (by omega)) (Ok_V (s_token ht ht4) (fun τ hτ => Ok_r ?_))
        obtain ⟨t1, t2, t3, t4, t5, t6⟩ := hτ
        refine ⟨by rw [hE], ⟨by rw [hK]; exact t1, t2, fun z => by omega, fun _ => by rw [t3, ha], fun z => by omega⟩, t4, fun j hj => ⟨(t5 j hj).1, (t5 j hj).2.1, (t5 j hj).2.2, by rw [t6]⟩⟩
      · rw [if_neg c4] at hK
        refine Ok_f (nI_ge (b := a - p) (a := 4) (by omega) (by omega)) (Ok_V (s_token ht ht4) (fun τ hτ => Ok_r ?_))
        obtain ⟨t1, t2, t3, t4, t5, t6⟩ := hτ
        refine ⟨by rw [hE], ⟨by rw [hK]; exact t1, t2, fun z => by omega, fun z => by omega, fun z => by omega⟩, t4, fun j hj => ⟨(t5 j hj).1, (t5 j hj).2.1, (t5 j hj).2.2, by rw [t6]⟩⟩
theorem wordM {b p t : Nat} {y : Nat → Nat} {σ : Mm} (h : MB b y σ) (hpb : p < b) (ht : mA σ 3 0 0 2 = nI t) (ht4 : t ≤ 2000) (hL : isLt (sgn b y p) = true) : ∀ (n m a : Nat), b < n + a → b < m + a → p ≤ a → a ≤ b → runF (fun k => isLt (sgn b y k)) m a = lnL b y p →
    Ok (F_X12_scan_12 n (nI p) (nI a) (lN (nmL 27 (rl (sgn b y) p (if a - p ≤ 8 then a - p else 8)))) σ) (CT2 b y p t σ) := by
  have h1 := h.1
  have hy := h.2.1
  have it : inb (nI t) 2001 = true := by clear h ht hL; grind [gI, gB, gC]
  have ct : (nI t).toNatClampNeg = t := nI_clamp (by omega)
  intro n
  induction n with
  | zero => intro m a h; omega
  | succ n ih =>
    intro m a hn hm hpa hab hrun
    change Ok (B_X12_scan_12 (F_X12_scan_12 n) _ _ _ _) _
    unfold B_X12_scan_12
    rw [s_letterM h (by omega), bnd_s]
    unfold F_X12_scan_17
    by_cases c1 : isLt (sgn b y a) = true
    · have hab2 : a < b := by
        apply Nat.lt_of_not_le
        intro z
        rw [lt_b a z] at c1; cases c1
      obtain ⟨m, rfl⟩ : ∃ m', m = m' + 1 := ⟨m - 1, by omega⟩
      rw [runF_s, if_pos c1] at hrun
      rw [if_pos c1]
      refine Ok_f ne10 ?_
      rw [pk_sub hpa]
      unfold F_X12_scan_45
      have hlt : 97 ≤ sgn b y a := by unfold isLt at c1; simp at c1; exact c1.1
      have hs := sgn_lt (b := b) hy a
      have i1 := ih m (a + 1) (by omega) (by omega) (by omega) (by omega) hrun
      by_cases c2 : 8 ≤ a - p
      · refine Ok_t (nI_le (a := 8) c2 (by omega)) ?_
        rw [nI_1]
        have e : (if a + 1 - p ≤ 8 then a + 1 - p else 8) = (if a - p ≤ 8 then a - p else 8) := by split <;> split <;> omega
        rw [e] at i1
        exact i1
      · refine Ok_f (nI_ge (b := 8) (by omega) (by omega)) ?_
        rw [s_byteAt h (by omega), bnd_s]
        unfold F_X12_scan_38 F_X12_scan_45
        rw [if_pos (show a + 1 - p ≤ 8 by omega), show a + 1 - p = (a - p) + 1 by omega] at i1
        rw [if_pos (show a - p ≤ 8 by omega), nI_1]
        have e : lN (nmL 27 (rl (sgn b y) p (a - p))) * (27 : Int64) + (nI (sgn b y a)).toInt64 - 96 = lN (nmL 27 (rl (sgn b y) p (a - p + 1))) := by
          rw [nI_l (by omega), show (27 : Int64) = lN 27 from rfl, lN_mul, lN_add, show (96 : Int64) = lN 96 from rfl, lN_sub (by omega)]
          show _ = lN (27 * nmL 27 (rl (sgn b y) p (a - p)) + (sgn b y (p + (a - p)) - 96))
          rw [show p + (a - p) = a by omega]
          exact congrArg lN (by omega)
        rw [e]
        exact i1
    · have ha : a = lnL b y p := by
        rw [← hrun]
        cases m with
        | zero => rfl
        | succ m => rw [runF_s, if_neg c1]
      rw [if_neg c1, pk_sub hpa]
      refine Ok_t rfl ?_
      have hK : tkK b y p = if a - p ≤ 8 then wK (sgn b y) p (a - p) 21 0 else 1 := by
        unfold tkK
        rw [if_pos hL, ← ha]
      have hE : tkE b y p = a := by
        unfold tkE
        rw [if_pos hL, ha]
      have hr := run_ok (f := fun k => isLt (sgn b y k)) (b := b) (fun k hk => lt_b k hk) RF p (by show b < 2500 + p; omega)
      have hlet : ∀ j, j < a - p → 97 ≤ sgn b y (p + j) ∧ sgn b y (p + j) ≤ 122 := by
        intro j hj
        have : isLt (sgn b y (p + j)) = true := hr.2.2.2 (p + j) (by omega) (by show p + j < lnL b y p; omega)
        unfold isLt at this
        simpa using this
      have fin : ∀ (s : Nat) (w : Int32), s = so (tkK b y p) → tkK b y p ≠ 3 → (4 ≤ tkK b y p → w = nI (wh (tkK b y p))) → Ok (F_X12_scan_102 (nI p) (nI a) w (nI s) (setL σ 3 0 5 (vp_updL (mL σ 3 0 5) t (lN (nmL 27 (rl (sgn b y) p (if a - p ≤ 8 then a - p else 8))))))) (CT2 b y p t σ) := by
        intro s w hs h3 hw
        unfold F_X12_scan_102 F_X12_scan_108
        refine Ok_V (s_token (t := t) (by exact ht) ht4) (fun τ hτ => Ok_r ?_)
        obtain ⟨t1, t2, t3, t4, t5, t6⟩ := hτ
        refine ⟨by rw [hE], ⟨by rw [← hs]; exact t1, t2, fun z => t3.trans (hw z), fun z => absurd z h3, fun z => ?_⟩, t4, fun j hj => ⟨(t5 j hj).1, (t5 j hj).2.1, (t5 j hj).2.2, ?_⟩⟩
        · rw [t6, mL_L, if_pos ⟨rfl, rfl, rfl⟩]
          show (if t = t then _ else _) = _
          rw [if_pos rfl]
          rw [z] at hK
          by_cases c8 : a - p ≤ 8
          · rw [if_pos c8, ha]
          · rw [if_neg c8] at hK; omega
        · rw [t6, mL_L, if_pos ⟨rfl, rfl, rfl⟩]
          show (if j = t then _ else _) = _
          rw [if_neg hj]
      unfold F_X12_scan_67 F_X12_scan_79
      by_cases c8 : a - p ≤ 8
      · rw [if_pos c8] at hK
        rw [ht, ct, pk_sub hpa]
        refine Ok_t (nI_le (b := 8) c8 (by omega)) (Ok_t it (Ok_t (nI_le (b := 8) c8 (by omega)) ?_))
        have hW := wordOf_K (s := sgn b y) (p := p) (n := a - p) c8 hlet
        rw [← hK] at hW
        have e8 : nmL 27 (rl (sgn b y) p (if a - p ≤ 8 then a - p else 8)) = nmL 27 (rl (sgn b y) p (a - p)) := by rw [if_pos c8]
        rcases hW with ⟨w1, w2⟩ | ⟨w1, w2, w3⟩
        · rw [e8, w2]
          refine Ok_t (by decide) ?_
          rw [← e8]
          exact fin 0 (-1) (by rw [w1]; rfl) (by omega) (fun z => by omega)
        · rw [e8, w3]
          refine Ok_f (nI_pos (by have := so_le (tkK b y p) (by omega); omega)) ?_
          rw [← e8]
          exact fin 3 _ ((so_name (tkK b y p) (by omega)).2.2.2.1.mpr w1).symm (by omega) (fun _ => rfl)
      · rw [if_neg c8] at hK
        rw [ht, ct, pk_sub hpa]
        refine Ok_f (nI_ge (a := 8) (by omega) (by omega)) (Ok_t it (Ok_f (nI_ge (a := 8) (by omega) (by omega)) ?_))
        exact fin 5 (-1) (by rw [hK]; rfl) (by omega) (fun z => by omega)
theorem s_scan {b p t : Nat} {y : Nat → Nat} {σ : Mm} (h : MB b y σ) (hpb : p < b) (ht : mA σ 3 0 0 2 = nI t) (ht4 : t ≤ 2000) : Ok (F_X12_scan (nI p) σ) (CT2 b y p t σ) := by
  have h1 := h.1
  have hs := sgn_lt (b := b) h.2.1 p
  unfold F_X12_scan
  rw [s_letterM h (by omega), bnd_s]
  unfold F_X12_scan_7
  by_cases cL : isLt (sgn b y p) = true
  · rw [if_pos cL]
    have := wordM h hpb ht ht4 cL FU RF p (by show b < 1000000 + p; omega) (by show b < 2500 + p; omega) (Nat.le_refl _) (by omega) rfl
    rw [if_pos (by omega), Nat.sub_self] at this
    exact Ok_f ne10 this
  · rw [if_neg cL]
    refine Ok_t rfl ?_
    have cL' : isLt (sgn b y p) = false := by cases h : isLt (sgn b y p) <;> simp_all
    rw [s_digitM h (by omega), bnd_s]
    unfold F_X12_scan_115
    by_cases cD : isDg (sgn b y p) = true
    · rw [if_pos cD]
      have := numberM h hpb ht ht4 cL' cD FU RF p (by show b < 1000000 + p; omega) (by show b < 2500 + p; omega) (Nat.le_refl _) (by omega) rfl
      rw [if_pos (by omega), Nat.sub_self] at this
      exact Ok_f ne10 this
    · rw [if_neg cD]
      refine Ok_t rfl ?_
      rw [s_signAt h (by omega), bnd_s]
      have hK : tkK b y p = sgK (sgn b y p) (decide (sgn b y (p + 1) = 61)) := by
        unfold tkK; rw [if_neg cL, if_neg cD]
      have hE : tkE b y p = if tkK b y p = 10 ∨ tkK b y p = 11 ∨ tkK b y p = 13 then p + 2 else p + 1 := by
        unfold tkE; rw [if_neg cL, if_neg cD]
      obtain ⟨v1, v2, v3, v4⟩ := svM_ok (sgn b y p) hs (decide (sgn b y (p + 1) = 61))
      have hsk := (sgK_ok (sgn b y p) hs (decide (sgn b y (p + 1) = 61))).2
      rw [← hK] at v1 v2 v3 v4 hsk
      generalize hv : svM (sgn b y p) (decide (sgn b y (p + 1) = 61)) = v at *
      have hvle : v ≤ 302 := by
        rw [v1]; split
        · omega
        · exact (so_le (tkK b y p) (by omega)).2
      have go : ∀ s : Nat, s = so (tkK b y p) → Ok (F_X12_scan_191 (nI p) (nI v) (nI s) σ) (CT2 b y p t σ) := by
        intro s hs2
        unfold F_X12_scan_191 F_X12_scan_196
        refine Ok_V (s_token ht ht4) (fun τ hτ => ?_)
        obtain ⟨t1, t2, t3, t4, t5, t6⟩ := hτ
        have res : ∀ e : Nat, e = tkE b y p → CT2 b y p t σ (nI e, τ) := by
          intro e he
          refine ⟨by rw [he], ⟨by rw [← hs2]; exact t1, t2, fun z => ?_, fun z => by omega, fun z => by omega⟩, t4, fun j hj => ⟨(t5 j hj).1, (t5 j hj).2.1, (t5 j hj).2.2, by rw [t6]⟩⟩
          rw [t3, v1, if_neg (by omega)]
        rw [show nI p + 1 = nI (p + 1) from nI_1 p, show nI p + 2 = nI (p + 2) from nI_add p 2]
        by_cases c3 : v < 300
        · exact Ok_t (nI_lt (b := 300) c3 (by omega)) (Ok_r (res _ (by rw [hE, if_neg (fun z => by have := v3.mpr z; omega)])))
        · exact Ok_f (nI_nlt (b := 300) (by omega) (by omega)) (Ok_r (res _ (by rw [hE, if_pos (v3.mp (by omega))])))
      unfold F_X12_scan_180
      by_cases c0' : v = 0
      · refine Ok_t (by rw [c0']; rfl) (go 5 ?_)
        rw [v2, if_pos (v4.mp c0')]
      · refine Ok_f (fun z => c0' ((nI_eq (b := 0) (by omega) (by omega)).mp z)) (go 2 ?_)
        rw [v2, if_neg (fun z => c0' (v4.mpr z))]
/-- the model's rows of all TOKENS -/
def TMk (T : Tk) (σ : Mm) : Prop := ∀ j, j ≤ 400 → gTk T j → mA σ 3 0 2 j = nI (so (tK T j)) ∧ mA σ 3 0 3 j = nI (tP T j) ∧ (4 ≤ tK T j → mA σ 3 0 4 j = nI (wh (tK T j))) ∧ (tK T j = 3 → mA σ 3 0 4 j = nI (tV T j)) ∧ (tK T j = 2 → mL σ 3 0 5 j = lN (tM T j))
theorem TMk_of {b i : Nat} {y : Nat → Nat} {σ : Mm} (hR : ∀ j, j < i → psT b y j < b ∧ RM1 b y (psT b y j) σ j) {j : Nat} (hj : j < i) : mA σ 3 0 2 j = nI (so (tK (tT b y) j)) ∧ mA σ 3 0 3 j = nI (tP (tT b y) j) ∧ (4 ≤ tK (tT b y) j → mA σ 3 0 4 j = nI (wh (tK (tT b y) j))) ∧ (tK (tT b y) j = 3 → mA σ 3 0 4 j = nI (tV (tT b y) j)) ∧ (tK (tT b y) j = 2 → mL σ 3 0 5 j = lN (tM (tT b y) j)) := by
  obtain ⟨hpj, r1, r2, r3, r4, r5⟩ := hR j hj
  have hkj : tK (tT b y) j = tkK b y (psT b y j) := if_pos hpj
  rw [hkj]
  refine ⟨r1, r2, r3, fun z => ?_, fun z => ?_⟩
  · have : tV (tT b y) j = vlN (sgn b y) (psT b y j) (lnD b y (psT b y j) - psT b y j) := if_pos ⟨z, hpj⟩
    rw [this]; exact r4 z
  · have : tM (tT b y) j = nmL 27 (rl (sgn b y) (psT b y j) (lnL b y (psT b y j) - psT b y j)) := if_pos ⟨z, hpj⟩
    rw [this]; exact r5 z
theorem skB_s {b p : Nat} {y : Nat → Nat} (hp : p < b) (hb : b ≤ 2000) (h : isBk (sgn b y p) = true) : skB b y p = skB b y (p + 1) := by
  have irr : ∀ n m q, b < n + q → b < m + q → runF (fun k => decide (k < b) && isBk (sgn b y k)) n q = runF (fun k => decide (k < b) && isBk (sgn b y k)) m q := by
    intro n
    induction n with
    | zero =>
      intro m q h1 h2
      cases m with
      | zero => rfl
      | succ m => rw [runF_s, if_neg (by rw [bk_b q (by omega)]; decide)]; rfl
    | succ n ih =>
      intro m q h1 h2
      cases m with
      | zero => rw [runF_s, if_neg (by rw [bk_b q (by omega)]; decide)]; rfl
      | succ m =>
        rw [runF_s, runF_s]
        by_cases c : (decide (q < b) && isBk (sgn b y q)) = true
        · rw [if_pos c, if_pos c]; exact ih m (q + 1) (by omega) (by omega)
        · rw [if_neg c, if_neg c]
  unfold skB
  have e : RF = 2499 + 1 := rfl
  have : runF (fun k => decide (k < b) && isBk (sgn b y k)) RF p = runF (fun k => decide (k < b) && isBk (sgn b y k)) (2499 + 1) p := by rw [e]
  rw [this, runF_s, if_pos (by rw [decide_eq_true hp, h]; rfl)]
  exact irr _ _ _ (by omega) (by rw [e]; omega)
theorem skB_n {b p : Nat} {y : Nat → Nat} (h : isBk (sgn b y p) = false ∨ b ≤ p) : skB b y p = p := by
  unfold skB
  have e : RF = 2499 + 1 := rfl
  have : runF (fun k => decide (k < b) && isBk (sgn b y k)) RF p = runF (fun k => decide (k < b) && isBk (sgn b y k)) (2499 + 1) p := by rw [e]
  rw [this, runF_s, if_neg ?_]
  rcases h with h | h
  · rw [h, Bool.and_false]; decide
  · rw [bk_b p h]; decide
theorem scanAll_9 {b : Nat} {y : Nat → Nat} : ∀ (n i k : Nat) (σ : Mm), b < n + k → i ≤ k → k ≤ b → MB b y σ → mA σ 3 0 0 2 = nI i → skB b y k = psT b y i → (∀ j, j < i → psT b y j < b ∧ RM1 b y (psT b y j) σ j) → Ok (F_X12_scanAll_9 n (nI k) 1 σ) (TMk (tT b y)) := by
  intro n
  induction n with
  | zero => intro i k σ h; omega
  | succ n ih =>
    intro i k σ hn hik hk h ht hs hR
    have hb := h.1
    have hy := h.2.1
    change Ok (B_X12_scanAll_9 (F_X12_scanAll_9 n) _ _ _) _
    unfold B_X12_scanAll_9
    rw [h.2.2.1]
    by_cases c : b ≤ k
    · -- the end
      refine Ok_t (nI_le c (by omega)) ?_
      unfold F_X12_scanAll_87
      rw [h.2.2.1]
      have hpe : psT b y i = b := by rw [← hs, skB_n (Or.inr c)]; omega
      refine Ok_f ne10 (Ok_V (s_token ht (by omega)) (fun τ hτ => Ok_r (fun j hj hg => ?_)))
      obtain ⟨t1, t2, t3, t4, t5, t6⟩ := hτ
      have hps := gTk_ps hg
      have hji : j ≤ i := by
        apply Nat.le_of_not_lt
        intro z
        have := hps i z
        omega
      by_cases cj : j = i
      · subst cj
        have hk0 : tK (tT b y) j = 0 := if_neg (by omega)
        rw [hk0]
        exact ⟨t1, by show _ = nI (psT b y j); rw [hpe]; exact t2, fun z => by omega, fun z => by omega, fun z => by omega⟩
      · have := TMk_of hR (j := j) (by omega)
        rw [(t5 j cj).1, (t5 j cj).2.1, (t5 j cj).2.2, t6]
        exact this
    refine Ok_f (nI_ge (by omega) (by omega)) (Ok_f ne10 ?_)
    rw [s_byteAt h (by omega), bnd_s]
    unfold F_X12_scanAll_26 F_X12_scanAll_51
    have hsl := sgn_lt (b := b) hy k
    have q : ∀ c, c < 256 → (nI (sgn b y k) = nI c ↔ sgn b y k = c) := fun c hc => nI_eq (by omega) (by omega)
    have next : isBk (sgn b y k) = true → Ok (F_X12_scanAll_9 n (nI k + 1) 1 σ) (TMk (tT b y)) := by
      intro hbk
      rw [nI_1]
      exact ih i (k + 1) σ (by omega) (by omega) (by omega) h ht (by rw [← skB_s (by omega) hb hbk]; exact hs) hR
    by_cases c32 : sgn b y k = 32
    · exact Ok_t ((q 32 (by omega)).mpr c32) (next (by unfold isBk; simp [c32]))
    refine Ok_f (fun z => c32 ((q 32 (by omega)).mp z)) ?_
    by_cases c9 : sgn b y k = 9
    · exact Ok_t ((q 9 (by omega)).mpr c9) (next (by unfold isBk; simp [c9]))
    refine Ok_f (fun z => c9 ((q 9 (by omega)).mp z)) ?_
    by_cases c10 : sgn b y k = 10
    · exact Ok_t ((q 10 (by omega)).mpr c10) (next (by unfold isBk; simp [c10]))
    refine Ok_f (fun z => c10 ((q 10 (by omega)).mp z)) ?_
    by_cases c13 : sgn b y k = 13
    · exact Ok_t ((q 13 (by omega)).mpr c13) (next (by unfold isBk; simp [c13]))
    refine Ok_f (fun z => c13 ((q 13 (by omega)).mp z)) ?_
    have hnb : isBk (sgn b y k) = false := by unfold isBk; simp [c32, c9, c10, c13]
    have hpk : psT b y i = k := by rw [← hs]; exact skB_n (Or.inl hnb)
    have hE := tkE_in (y := y) hb hy (show k < b by omega)
    refine Ok_B ((s_scan h (show k < b by omega) ht (by omega)).frI fr_X12_scan) (fun v τ hv => ?_)
    obtain ⟨⟨v1, v2, v3, v4⟩, f⟩ := hv
    have v1 : v = nI (tkE b y k) := v1
    have f : Fr W_X12_scan σ τ := f
    have v3 : mA τ 3 0 0 2 = nI (i + 1) := v3
    unfold F_X12_scanAll_62 F_X12_scanAll_83
    have ii : inb (nI i) 2001 = true := by
      have : i < 2001 := by omega
      clear ih h ht hR hs v2 v3 v4 q next; grind [gI, gB, gC]
    have hR2 : ∀ j, j < i + 1 → psT b y j < b ∧ RM1 b y (psT b y j) τ j := by
      intro j hj
      by_cases cj : j = i
      · subst cj; rw [hpk]; exact ⟨by omega, v2⟩
      · obtain ⟨r0, r1⟩ := hR j (by omega)
        obtain ⟨w1, w2, w3, w4⟩ := v4 j cj
        refine ⟨r0, ?_⟩
        unfold RM1 at r1 ⊢
        have w1 : mA τ 3 0 2 j = mA σ 3 0 2 j := w1
        have w2 : mA τ 3 0 3 j = mA σ 3 0 3 j := w2
        have w3 : mA τ 3 0 4 j = mA σ 3 0 4 j := w3
        have w4 : mL τ 3 0 5 j = mL σ 3 0 5 j := w4
        rw [w1, w2, w3, w4]
        exact r1
    rw [v3, show nI (i + 1) - 1 = nI (i + 1 - 1) from pk_sub (b := 1) (by omega), show i + 1 - 1 = i from rfl, nI_clamp (by omega)]
    refine Ok_t ii ?_
    have hsoE : mA τ 3 0 2 i = nI (so (tkK b y k)) := v2.1
    have hk36 := tkK_le (b := b) (p := k) hy
    have hsl2 := so_le (tkK b y k) (by omega)
    rw [hsoE]
    by_cases cb : tkK b y k = 1
    · -- none: it ends here
      refine Ok_t (by rw [cb]; rfl) ?_
      obtain ⟨n', rfl⟩ : ∃ n', n = n' + 1 := ⟨n - 1, by omega⟩
      change Ok (B_X12_scanAll_9 (F_X12_scanAll_9 n') _ _ _) _
      unfold B_X12_scanAll_9 F_X12_scanAll_87
      have fin : Ok (some τ) (TMk (tT b y)) := Ok_r (fun j hj hg => by
        have hji : j < i + 1 := by
          apply Nat.lt_of_not_le
          intro z
          have := (hg i (by omega)).2
          have hki : tK (tT b y) i = tkK b y k := by
            have : tK (tT b y) i = tkK b y (psT b y i) := if_pos (by omega)
            rw [this, hpk]
          rw [hki] at this
          exact this cb
        exact TMk_of hR2 hji)
      exact Ok_s (fun _ => Ok_t rfl fin) (fun _ => Ok_t rfl (Ok_t rfl fin))
    · have hne : so (tkK b y k) ≠ 5 := by
        intro z
        have : ∀ kk, kk < 37 → so kk = 5 → kk = 1 := by decide
        exact cb (this _ (by omega) z)
      refine Ok_f (fun z => hne ((nI_eq (b := 5) (by omega) (by omega)).mp z)) ?_
      rw [v1]
      exact ih (i + 1) (tkE b y k) τ (by omega) (by omega) hE.2 (h.fr f rfl) v3 (by rw [psT_s, hpk, if_pos (by omega)]) hR2
theorem s_scanAll {b : Nat} {y : Nat → Nat} {σ : Mm} (h : MB b y σ) : Ok (F_X12_scanAll σ) (TMk (tT b y)) := by
  unfold F_X12_scanAll F_X12_scanAll_5
  have f : Fr [(3, 0, 2)] σ (setA σ 3 0 0 (upd (mA σ 3 0 0) 2 0)) := Fr_r.A rfl
  have h1 := h.1
  exact scanAll_9 FU 0 0 _ (by show b < 1000000 + 0; omega) (Nat.le_refl _) (Nat.zero_le _) (h.fr f rfl) (by simp only [mA_A, mL_A, mP_A, mA_L, mL_L, mP_L, upd_at]; simp; rfl) rfl (fun j hj => by omega)
