/-! all TOKENS of a text; the class cuts them all -/
theorem sgK_two : ∀ s, s < 256 → sgK s false ≠ 10 ∧ sgK s false ≠ 11 ∧ sgK s false ≠ 13 := by decide +kernel
theorem tkE_in {b p : Nat} {y : Nat → Nat} (hb : b ≤ 2000) (hy : ∀ k, y k < 256) (hp : p < b) : p < tkE b y p ∧ tkE b y p ≤ b := by
  unfold tkE
  by_cases cL : isLt (sgn b y p) = true
  · rw [if_pos cL]
    have h := run_ok (f := fun k => isLt (sgn b y k)) (b := b) (fun k hk => lt_b k hk) RF p (by show b < 2500 + p; omega)
    refine ⟨?_, h.2.1 (by omega)⟩
    apply Nat.lt_of_not_le
    intro z
    have e : lnL b y p = p := Nat.le_antisymm z h.1
    have h3 := h.2.2.1
    have h3 : isLt (sgn b y (lnL b y p)) = false := h3
    rw [e, cL] at h3
    cases h3
  · rw [if_neg cL]
    by_cases cD : isDg (sgn b y p) = true
    · rw [if_pos cD]
      have h := run_ok (f := fun k => isDg (sgn b y k)) (b := b) (fun k hk => dg_b k hk) RF p (by show b < 2500 + p; omega)
      refine ⟨?_, h.2.1 (by omega)⟩
      apply Nat.lt_of_not_le
      intro z
      have e : lnD b y p = p := Nat.le_antisymm z h.1
      have h3 : isDg (sgn b y (lnD b y p)) = false := h.2.2.1
      rw [e, cD] at h3
      cases h3
    · rw [if_neg cD]
      by_cases c : tkK b y p = 10 ∨ tkK b y p = 11 ∨ tkK b y p = 13
      · rw [if_pos c]
        have hK : tkK b y p = sgK (sgn b y p) (decide (sgn b y (p + 1) = 61)) := by
          unfold tkK; rw [if_neg cL, if_neg cD]
        have h61 : sgn b y (p + 1) = 61 := by
          apply Classical.byContradiction
          intro z
          rw [decide_eq_false z] at hK
          have := sgK_two (sgn b y p) (sgn_lt hy p)
          rw [hK] at c
          omega
        have : p + 1 < b := by
          apply Nat.lt_of_not_le
          intro z
          rw [sgn_b z] at h61
          cases h61
        omega
      · rw [if_neg c]; omega
theorem skB_in {b p : Nat} {y : Nat → Nat} (hb : b ≤ 2000) (hp : p ≤ b) : p ≤ skB b y p ∧ skB b y p ≤ b := by
  have h := run_ok (f := fun k => decide (k < b) && isBk (sgn b y k)) (b := b) (fun k hk => bk_b k hk) RF p (by show b < 2500 + p; omega)
  exact ⟨h.1, h.2.1 hp⟩
def psT (b : Nat) (y : Nat → Nat) : Nat → Nat
  | 0 => skB b y 0
  | i + 1 => (fun q => if q < b then skB b y (tkE b y q) else b) (psT b y i)
theorem psT_s {b i : Nat} {y : Nat → Nat} : psT b y (i + 1) = if psT b y i < b then skB b y (tkE b y (psT b y i)) else b := rfl
theorem psT_le {b : Nat} {y : Nat → Nat} (hb : b ≤ 2000) (hy : ∀ k, y k < 256) : ∀ i, psT b y i ≤ b := by
  intro i
  induction i with
  | zero => exact (skB_in hb (Nat.zero_le _)).2
  | succ i ih =>
    rw [psT_s]
    by_cases c : psT b y i < b
    · rw [if_pos c]; exact (skB_in hb (tkE_in hb hy c).2).2
    · rw [if_neg c]; exact Nat.le_refl _
theorem psT_lt {b i : Nat} {y : Nat → Nat} (hb : b ≤ 2000) (hy : ∀ k, y k < 256) (h : psT b y i < b) : psT b y i < psT b y (i + 1) := by
  rw [psT_s, if_pos h]
  have h1 := tkE_in hb hy h
  have h2 := skB_in (y := y) hb h1.2
  omega
def tT (b : Nat) (y : Nat → Nat) : Tk :=
  (fun i => if psT b y i < b then tkK b y (psT b y i) else 0, psT b y,
   fun i => if tkK b y (psT b y i) = 3 ∧ psT b y i < b then vlN (sgn b y) (psT b y i) (lnD b y (psT b y i) - psT b y i) else 0,
   fun i => if tkK b y (psT b y i) = 2 ∧ psT b y i < b then nmL 32 (rl (sgn b y) (psT b y i) (lnL b y (psT b y i) - psT b y i)) else 0,
   fun i => if tkK b y (psT b y i) = 2 ∧ psT b y i < b then nmL 27 (rl (sgn b y) (psT b y i) (lnL b y (psT b y i) - psT b y i)) else 0)
theorem tkK_le {b p : Nat} {y : Nat → Nat} (hy : ∀ k, y k < 256) : tkK b y p ≤ 36 := by
  unfold tkK
  split
  · split
    · rcases wK_or (s := sgn b y) (p := p) (n := lnL b y p - p) 21 0 rfl with ⟨z, -⟩ | ⟨v, -, hv, -, z⟩ <;> rw [z] <;> omega
    · omega
  · split
    · split <;> omega
    · have := (sgK_ok (sgn b y p) (sgn_lt hy p) (decide (sgn b y (p + 1) = 61))).2
      omega
theorem tkK_2 {b p : Nat} {y : Nat → Nat} (hb : b ≤ 2000) (hy : ∀ k, y k < 256) (hp : p < b) (h : tkK b y p = 2) : isLt (sgn b y p) = true ∧ lnL b y p - p ≤ 8 ∧ ∀ j, j < lnL b y p - p → 97 ≤ sgn b y (p + j) ∧ sgn b y (p + j) ≤ 122 := by
  unfold tkK at h
  by_cases cL : isLt (sgn b y p) = true
  · rw [if_pos cL] at h
    by_cases c8 : lnL b y p - p ≤ 8
    · refine ⟨cL, c8, fun j hj => ?_⟩
      have hr := run_ok (f := fun k => isLt (sgn b y k)) (b := b) (fun k hk => lt_b k hk) RF p (by show b < 2500 + p; omega)
      have : isLt (sgn b y (p + j)) = true := hr.2.2.2 (p + j) (by omega) (by show p + j < lnL b y p; omega)
      unfold isLt at this
      simpa using this
    · rw [if_neg c8] at h; omega
  · rw [if_neg cL] at h
    by_cases cD : isDg (sgn b y p) = true
    · rw [if_pos cD] at h; split at h <;> omega
    · rw [if_neg cD] at h
      have := (sgK_ok (sgn b y p) (sgn_lt hy p) (decide (sgn b y (p + 1) = 61))).2
      omega
theorem tkK_3 {b p : Nat} {y : Nat → Nat} (hb : b ≤ 2000) (hy : ∀ k, y k < 256) (hp : p < b) (h : tkK b y p = 3) : vlN (sgn b y) p (lnD b y p - p) ≤ 9999 := by
  have hle : ∀ k, (∀ j, j < k → sgn b y (p + j) ≤ 57) → vlN (sgn b y) p k < 10 ^ k := by
    intro k
    induction k with
    | zero => intro _; exact Nat.one_pos
    | succ k ih =>
      intro hk
      have h1 := ih (fun j hj => hk j (by omega))
      have h2 := hk k (by omega)
      show 10 * vlN (sgn b y) p k + (sgn b y (p + k) - 48) < 10 ^ (k + 1)
      rw [Nat.pow_succ]; omega
  unfold tkK at h
  by_cases cL : isLt (sgn b y p) = true
  · rw [if_pos cL] at h
    split at h
    · rcases wK_or (s := sgn b y) (p := p) (n := lnL b y p - p) 21 0 rfl with ⟨z, -⟩ | ⟨v, -, hv, -, z⟩ <;> rw [z] at h <;> omega
    · omega
  · rw [if_neg cL] at h
    by_cases cD : isDg (sgn b y p) = true
    · rw [if_pos cD] at h
      by_cases c4 : lnD b y p - p ≤ 4
      · have hr := run_ok (f := fun k => isDg (sgn b y k)) (b := b) (fun k hk => dg_b k hk) RF p (by show b < 2500 + p; omega)
        have h1 := hle (lnD b y p - p) (fun j hj => by
          have : isDg (sgn b y (p + j)) = true := hr.2.2.2 (p + j) (by omega) (by show p + j < lnD b y p; omega)
          unfold isDg at this
          have this : 48 ≤ sgn b y (p + j) ∧ sgn b y (p + j) ≤ 57 := by simpa using this
          exact this.2)
        have h2 : 10 ^ (lnD b y p - p) ≤ 10 ^ 4 := Nat.pow_le_pow_right (by decide) c4
        have h3 : (10 : Nat) ^ 4 = 10000 := by decide
        omega
      · rw [if_neg c4] at h; omega
    · rw [if_neg cD] at h
      have := (sgK_ok (sgn b y p) (sgn_lt hy p) (decide (sgn b y (p + 1) = 61))).2
      omega
theorem psT_mono {b : Nat} {y : Nat → Nat} (hb : b ≤ 2000) (hy : ∀ k, y k < 256) {i : Nat} : ∀ j, i < j → (∀ k, k < j → psT b y k < b) → psT b y i < psT b y j := by
  intro j
  induction j with
  | zero => intro h; omega
  | succ j ih =>
    intro h hk
    have h1 := psT_lt hb hy (hk j (by omega))
    by_cases c : i = j
    · subst c; exact h1
    · exact Nat.lt_trans (ih (by omega) (fun k h2 => hk k (by omega))) h1
theorem gTk_ps {b j : Nat} {y : Nat → Nat} (h : gTk (tT b y) j) : ∀ k, k < j → psT b y k < b := by
  intro k hk
  have := (h k hk).1
  apply Classical.byContradiction
  intro z
  exact this (if_neg z)
theorem TW_tT {b : Nat} {y : Nat → Nat} (hb : b ≤ 2000) (hy : ∀ k, y k < 256) : TW (tT b y) := by
  refine ⟨fun i => ?_, fun i => ?_, fun i j hij hg => ?_, fun i => ?_, fun i j hi hj hki hkj => ?_, fun i => ?_⟩
  · show (if psT b y i < b then tkK b y (psT b y i) else 0) ≤ 36
    split
    · exact tkK_le hy
    · omega
  · exact Nat.le_trans (psT_le hb hy i) hb
  · exact psT_mono hb hy j hij (gTk_ps hg)
  · show (if tkK b y (psT b y i) = 3 ∧ psT b y i < b then _ else 0) ≤ 9999
    split
    · rename_i c; exact tkK_3 hb hy c.2 c.1
    · omega
  · have pos : ∀ k, tK (tT b y) k = 2 → psT b y k < b ∧ tkK b y (psT b y k) = 2 := by
      intro k hk
      have hk : (if psT b y k < b then tkK b y (psT b y k) else 0) = 2 := hk
      by_cases c : psT b y k < b
      · rw [if_pos c] at hk; exact ⟨c, hk⟩
      · rw [if_neg c] at hk; cases hk
    obtain ⟨p1, p2⟩ := pos i hki
    obtain ⟨q1, q2⟩ := pos j hkj
    have a := tkK_2 hb hy p1 p2
    have c := tkK_2 hb hy q1 q2
    show ((if tkK b y (psT b y i) = 2 ∧ psT b y i < b then nmL 32 _ else 0) = (if tkK b y (psT b y j) = 2 ∧ psT b y j < b then nmL 32 _ else 0)) ↔ ((if tkK b y (psT b y i) = 2 ∧ psT b y i < b then nmL 27 _ else 0) = (if tkK b y (psT b y j) = 2 ∧ psT b y j < b then nmL 27 _ else 0))
    rw [if_pos ⟨p2, p1⟩, if_pos ⟨q2, q1⟩, if_pos ⟨p2, p1⟩, if_pos ⟨q2, q1⟩]
    constructor
    · intro h; rw [nmL_inj (by omega) _ _ (rl_in _ a.2.2) (rl_in _ c.2.2) h]
    · intro h; rw [nmL_inj (by omega) _ _ (rl_in _ a.2.2) (rl_in _ c.2.2) h]
  · have bnd : ∀ B, 27 ≤ B → B ≤ 32 → ∀ p, p < b → tkK b y p = 2 → nmL B (rl (sgn b y) p (lnL b y p - p)) < 2 ^ 62 := by
      intro B h1 h2 p hp hk
      have a := tkK_2 hb hy hp hk
      have z := nmL_lt h1 _ (rl_in _ a.2.2)
      rw [rl_len] at z
      have z2 : B ^ (lnL b y p - p) ≤ 32 ^ (lnL b y p - p) := Nat.pow_le_pow_left h2 _
      have z3 : 32 ^ (lnL b y p - p) ≤ 32 ^ 8 := Nat.pow_le_pow_right (by decide) a.2.1
      have z4 : (32 : Nat) ^ 8 < 2 ^ 62 := by decide
      omega
    constructor
    · show (if tkK b y (psT b y i) = 2 ∧ psT b y i < b then nmL 32 _ else 0) < 2 ^ 62
      split
      · rename_i c; exact bnd 32 (by omega) (by omega) _ c.2 c.1
      · decide
    · show (if tkK b y (psT b y i) = 2 ∧ psT b y i < b then nmL 27 _ else 0) < 2 ^ 62
      split
      · rename_i c; exact bnd 27 (by omega) (by omega) _ c.2 c.1
      · decide
/-- the class's row of a TOKEN -/
def RWc (b : Nat) (y : Nat → Nat) (σ : Mm) (j : Nat) : Prop := mA σ 0 0 8 j = nI (tkK b y (psT b y j)) ∧ mA σ 0 0 9 j = nI (psT b y j) ∧ (tkK b y (psT b y j) = 3 → mA σ 0 0 10 j = nI (vlN (sgn b y) (psT b y j) (lnD b y (psT b y j) - psT b y j))) ∧ (tkK b y (psT b y j) = 2 → mL σ 0 0 11 j = lN (nmL 32 (rl (sgn b y) (psT b y j) (lnL b y (psT b y j) - psT b y j))))
def TCk (T : Tk) (σ : Mm) : Prop := ∀ j, j ≤ 400 → gTk T j → mA σ 0 0 8 j = nI (tK T j) ∧ mA σ 0 0 9 j = nI (tP T j) ∧ (tK T j = 3 → mA σ 0 0 10 j = nI (tV T j)) ∧ (tK T j = 2 → mL σ 0 0 11 j = lN (tC T j))
theorem cut_9 {b : Nat} {y : Nat → Nat} : ∀ (n i a : Nat) (σ : Mm), 402 - i < n → i ≤ 401 → CL b y σ → mA σ 0 0 6 2 = nI i → a ≤ b → skB b y a = psT b y i → (∀ j, j < i → psT b y j < b ∧ RWc b y σ j) → Ok (F_X8_cut_9 n (nI a) (nI i) σ) (TCk (tT b y)) := by
  intro n
  induction n with
  | zero => intro i a σ h; omega
  | succ n ih =>
    intro i a σ hn hi h ht ha hs hR
    have hb := h.1
    have hy := h.2.1
    have it : inb (nI i) 402 = true := by clear ih h ht hR hs; grind [gI, gB, gC]
    have ct : (nI i).toNatClampNeg = i := nI_clamp (by omega)
    have fin : (i ≤ 400 → ¬ psT b y i < b) → Ok (F_X8_cut_65 σ) (TCk (tT b y)) := by
      intro hend
      unfold F_X8_cut_65 F_X8_cut_75
      have e2 : mA (setA σ 0 0 8 (upd (mA σ 0 0 8) (nI i).toNatClampNeg 0)) 0 0 6 2 = nI i := by rw [mA_A, if_neg (by decide)]; exact ht
      have e0 : mA (setA σ 0 0 8 (upd (mA σ 0 0 8) (nI i).toNatClampNeg 0)) 0 0 6 0 = nI b := by rw [mA_A, if_neg (by decide)]; exact h.2.2.1
      rw [ht]
      refine Ok_t it ?_
      rw [e2, e0, ct]
      refine Ok_t it (Ok_r (fun j hj hg => ?_))
      have hps := gTk_ps hg
      have hji : j ≤ i := by
        apply Nat.le_of_not_lt
        intro z
        by_cases c : i ≤ 400
        · exact hend c (hps i z)
        · omega
      by_cases c : j = i
      · subst c
        have hn := hend hj
        have hpb : psT b y j = b := Nat.le_antisymm (psT_le hb hy j) (Nat.le_of_not_lt hn)
        have hk0 : tK (tT b y) j = 0 := if_neg hn
        refine ⟨?_, ?_, fun z => ?_, fun z => ?_⟩
        · rw [hk0]; simp only [mA_A, mL_A, mP_A, mA_L, mL_L, mP_L, upd_at]; simp; rfl
        · show _ = nI (psT b y j)
          rw [hpb]; simp only [mA_A, mL_A, mP_A, mA_L, mL_L, mP_L, upd_at]; simp
        · rw [hk0] at z; cases z
        · rw [hk0] at z; cases z
      · obtain ⟨hpj, r1, r2, r3, r4⟩ := hR j (by omega)
        have hkj : tK (tT b y) j = tkK b y (psT b y j) := if_pos hpj
        rw [hkj]
        refine ⟨?_, ?_, fun z => ?_, fun z => ?_⟩
        · simp only [mA_A, mL_A, mP_A, mA_L, mL_L, mP_L, upd_at]; simp [c]; exact r1
        · simp only [mA_A, mL_A, mP_A, mA_L, mL_L, mP_L, upd_at]; simp [c]; exact r2
        · have : tV (tT b y) j = vlN (sgn b y) (psT b y j) (lnD b y (psT b y j) - psT b y j) := if_pos ⟨z, hpj⟩
          rw [this]; simp only [mA_A, mL_A, mP_A, mA_L, mL_L, mP_L, upd_at]; simp; exact r3 z
        · have : tC (tT b y) j = nmL 32 (rl (sgn b y) (psT b y j) (lnL b y (psT b y j) - psT b y j)) := if_pos ⟨z, hpj⟩
          rw [this]; simp only [mA_A, mL_A, mP_A, mA_L, mL_L, mP_L, upd_at]; exact r4 z
    change Ok (B_X8_cut_9 (F_X8_cut_9 n) _ _ _) _
    unfold B_X8_cut_9
    by_cases c : 400 < i
    · exact Ok_t (nI_lt (a := 400) c (by omega)) (fin (fun z => by omega))
    refine Ok_f (nI_nlt (a := 400) (by omega) (by omega)) ?_
    rw [s_blanks h ha, bnd_s, hs]
    unfold F_X8_cut_21
    have hple := psT_le hb hy i
    by_cases c2 : psT b y i < b
    · rw [h.2.2.1, ht]
      refine Ok_t (nI_lt c2 (by omega)) (Ok_t it ?_)
      unfold F_X8_cut_43
      rw [ct]
      generalize hτ : setA σ 0 0 9 (upd (mA σ 0 0 9) i (nI (psT b y i))) = τ
      have hCτ : CL b y τ := by subst hτ; exact h.fr (W := [(0, 9, 999)]) (Fr_r.A rfl) rfl
      have e2 : mA τ 0 0 6 2 = nI i := by subst hτ; rw [mA_A, if_neg (by decide)]; exact ht
      refine Ok_B ((s_cutOne hCτ c2 e2 (by omega)).frI fr_X8_cutOne) (fun v υ hv => ?_)
      obtain ⟨⟨v1, v2, v3, v4, v5⟩, f⟩ := hv
      have v1 : v = nI (tkE b y (psT b y i)) := v1
      have f : Fr W_X8_cutOne τ υ := f
      unfold F_X8_cut_48 F_X8_cut_59
      rw [v1, nI_1]
      have hE := tkE_in hb hy c2
      have f2 : Fr [(0, 6, 2)] υ (setA υ 0 0 6 (upd (mA υ 0 0 6) 2 (mA υ 0 0 6 2 + 1))) := Fr_r.A rfl
      refine ih (i + 1) (tkE b y (psT b y i)) _ (by omega) (by omega) ((hCτ.fr f rfl).fr f2 rfl) ?_ hE.2 (by rw [psT_s, if_pos c2]) (fun j hj => ?_)
      · rw [mA_A, if_pos ⟨rfl, rfl, rfl⟩, upd_at, if_pos rfl, f.fld (t := 0) (k := 6) (f := 2) 0 rfl, e2, nI_1]
      · have r9 : mA υ 0 0 9 = mA τ 0 0 9 := f.row (t := 0) (k := 9) 0 rfl
        unfold RWc
        rw [f2.row (t := 0) (k := 8) 0 rfl, f2.row (t := 0) (k := 9) 0 rfl, f2.row (t := 0) (k := 10) 0 rfl, f2.rowL (t := 0) (k := 11) 0 rfl, r9]
        by_cases cj : j = i
        · subst cj
          refine ⟨c2, v2, ?_, v3, v4⟩
          subst hτ; simp only [mA_A, mL_A, mP_A, mA_L, mL_L, mP_L, upd_at]; simp
        · obtain ⟨hpj, r1, r2, r3, r4⟩ := hR j (by omega)
          obtain ⟨w1, w2, w3⟩ := v5 j cj
          have w1 : mA υ 0 0 8 j = mA τ 0 0 8 j := w1
          have w2 : mA υ 0 0 10 j = mA τ 0 0 10 j := w2
          have w3 : mL υ 0 0 11 j = mL τ 0 0 11 j := w3
          rw [w1, w2, w3]
          subst hτ
          refine ⟨hpj, ?_, ?_, fun z => ?_, fun z => ?_⟩
          · simp only [mA_A, mL_A, mP_A, mA_L, mL_L, mP_L, upd_at]; simp; exact r1
          · simp only [mA_A, mL_A, mP_A, mA_L, mL_L, mP_L, upd_at]; simp [cj]; exact r2
          · simp only [mA_A, mL_A, mP_A, mA_L, mL_L, mP_L, upd_at]; simp; exact r3 z
          · exact r4 z
    · rw [h.2.2.1]
      exact Ok_f (nI_nlt (by omega) (by omega)) (fin (fun _ => c2))
theorem s_cut {b : Nat} {y : Nat → Nat} {σ : Mm} (h : CL b y σ) : Ok (F_X8_cut σ) (TCk (tT b y)) := by
  unfold F_X8_cut F_X8_cut_5
  have f : Fr [(0, 6, 2)] σ (setA σ 0 0 6 (upd (mA σ 0 0 6) 2 0)) := Fr_r.A rfl
  exact cut_9 FU 0 0 _ (by show _ < 1000000; omega) (by omega) (h.fr f rfl) (by simp only [mA_A, mL_A, mP_A, mA_L, mL_L, mP_L, upd_at]; simp; rfl) (Nat.zero_le _) rfl (fun j hj => by omega)
