/-! the model: what is known by n -/
theorem vd_mono {D : DD} {f a b : Nat} (h : a ≤ b) (hv : vd D f a = true) : vd D f b = true := by
  induction b with
  | zero => have : a = 0 := by omega
            subst this; exact hv
  | succ b ih =>
    by_cases e : a = b + 1
    · subst e; exact hv
    · show (vd D f b || _) = true
      rw [ih (by omega)]; rfl
theorem live_11 {D : DD} (hW : WF D) {n f : Nat} {σ : Mm} (hn : n ≤ dN D 1) (hf : f < dN D 1) (hM : RMf σ 0 D) : ∀ (m k : Nat), n - k < m → k ≤ dN D 1 → vd D f k = false → (n ≤ k → vd D f n = false) → F_X12_isLive_11 m (nI f) (nI n) (nI k) σ = some (if vd D f n then 0 else 1, σ) := by
  have h60 := hW.2.1
  intro m
  induction m with
  | zero => intro k h; omega
  | succ m ih =>
    intro k hm hk hv hv2
    change B_X12_isLive_11 (F_X12_isLive_11 m) _ _ _ _ = _
    unfold B_X12_isLive_11 F_X12_isLive_38
    by_cases hd : n ≤ k
    · rw [if_pos (nI_le hd (by omega)), hv2 hd]; rfl
    · have hck : (nI k).toNatClampNeg = k := nI_clamp (by omega)
      have i300 : inb (nI k) 300 = true := by
        have : k < 60 := by omega
        clear ih hM hW; grind [gI, gB, gC]
      obtain ⟨g1, -, g3, -, -⟩ := hM k (by omega)
      simp only [Nat.mul_zero, Nat.zero_add] at g1 g3
      have ev : vd D f (k + 1) = (vd D f k || decide (dA D 4 k = 4 ∧ dA D 5 k = nI f)) := rfl
      rw [if_neg (nI_ge (by omega) (by omega)), if_pos i300, hck, g1, nI_1]
      by_cases c4 : dA D 4 k = 4
      · rw [if_pos c4, if_pos i300, (g3 c4).2]
        by_cases ce : dA D 5 k = nI f
        · rw [if_pos ce, vd_mono (a := k + 1) (by omega) (by rw [ev, decide_eq_true ⟨c4, ce⟩, Bool.or_true])]; rfl
        · rw [if_neg ce]
          have hv3 : vd D f (k + 1) = false := by rw [ev, hv, decide_eq_false (fun z => ce z.2)]; rfl
          exact ih (k + 1) (by omega) (by omega) hv3 (fun z => by rw [show n = k + 1 by omega]; exact hv3)
      · rw [if_neg c4]
        have hv3 : vd D f (k + 1) = false := by rw [ev, hv, decide_eq_false (fun z => c4 z.1)]; rfl
        exact ih (k + 1) (by omega) (by omega) hv3 (fun z => by rw [show n = k + 1 by omega]; exact hv3)
theorem s_isLive {D : DD} (hW : WF D) {n f : Nat} {σ : Mm} (hn : n ≤ dN D 1) (hf : f < dN D 1) (hM : RMf σ 0 D) : F_X12_isLive (nI f) (nI n) σ = some (if liv D n f then 1 else 0, σ) := by
  have h60 := hW.2.1
  unfold F_X12_isLive
  by_cases h : f < n
  · have hv : vd D f (f + 1) = false := vd_early hW hf (by omega) (by omega)
    rw [if_pos (nI_lt h (by omega)), nI_1, live_11 hW hn hf hM FU (f + 1) (by show _ < 1000000; omega) (by omega) hv (fun z => by rw [show n = f + 1 by omega]; exact hv)]
    unfold liv
    rw [decide_eq_true h]
    cases vd D f n <;> rfl
  · rw [if_neg (nI_nlt (by omega) (by omega))]
    unfold liv
    rw [decide_eq_false h]; rfl
def oI (o : Option Nat) : Int32 := match o with
  | some k => nI k
  | none => -1
theorem last_5 {D : DD} (hW : WF D) {n t : Nat} {κ : Int32} {σ : Mm} (hκ : κ ≠ 4) (hn : n ≤ dN D 1) (hM : RMf σ 0 D) : ∀ (m i : Nat), i < m → i ≤ dN D 1 → F_X12_lastOf_5 m (nI t) κ (nI n) (nI i - 1) σ = some (oI (lst D n κ t i), σ) := by
  have h60 := hW.2.1
  intro m
  induction m with
  | zero => intro i h; omega
  | succ m ih =>
    intro i hm hi
    change B_X12_lastOf_5 (F_X12_lastOf_5 m) _ _ _ _ _ = _
    unfold B_X12_lastOf_5 F_X12_lastOf_39 F_X12_lastOf_45
    cases i with
    | zero => rw [if_pos (by decide)]; rfl
    | succ i =>
      have e : nI (i + 1) - 1 = nI i := nI_pred i
      have e2 : nI i + -1 = nI i - 1 := by clear ih hM hW hκ; grind
      have hck : (nI i).toNatClampNeg = i := nI_clamp (by omega)
      have i300 : inb (nI i) 300 = true := by
        have : i < 60 := by omega
        clear ih hM hW; grind [gI, gB, gC]
      obtain ⟨g1, g2, -, -, -⟩ := hM i (by omega)
      simp only [Nat.mul_zero, Nat.zero_add] at g1 g2
      rw [e, if_neg (nI_pos (by omega)), if_pos i300, hck, g1, e2]
      by_cases c : dA D 4 i = κ
      · rw [if_pos c, if_pos i300, g2 (by rw [c]; exact hκ)]
        by_cases c2 : dA D 5 i = nI t
        · rw [if_pos c2, s_isLive hW hn (by omega) hM, bnd_s]
          by_cases c3 : liv D n i = true
          · rw [if_pos c3, if_neg ne10, lst_hit c c2 c3]; rfl
          · rw [if_neg c3, if_pos rfl, lst_skip (fun z => c3 z.2.2)]
            exact ih i (by omega) (by omega)
        · rw [if_neg c2, lst_skip (fun z => c2 z.2.1)]
          exact ih i (by omega) (by omega)
      · rw [if_neg c, lst_skip (fun z => c z.1)]
        exact ih i (by omega) (by omega)
theorem s_lastOf {D : DD} (hW : WF D) {n t : Nat} {κ : Int32} {σ : Mm} (hκ : κ ≠ 4) (hn : n ≤ dN D 1) (hM : RMf σ 0 D) : F_X12_lastOf (nI t) κ (nI n) σ = some (oI (lst D n κ t n), σ) :=
  last_5 hW hκ hn hM FU n (by have := hW.2.1; show _ < 1000000; omega) hn
theorem found_ex {D : DD} {t m : Nat} (h : dN D 0 ≤ t) (h2 : t < dN D 0 + cntF (D.2.1 4) m) : ∃ k, k < m ∧ dA D 4 k = 0 ∧ dN D 0 + cntF (D.2.1 4) k = t := by
  induction m with
  | zero => have : cntF (D.2.1 4) 0 = 0 := rfl
            omega
  | succ m ih =>
    by_cases c : t < dN D 0 + cntF (D.2.1 4) m
    · obtain ⟨k, a, b⟩ := ih c; exact ⟨k, by omega, b⟩
    · rw [cnt_s] at h2
      by_cases c0 : dA D 4 m = 0
      · exact ⟨m, by omega, c0, by rw [if_pos c0] at h2; omega⟩
      · rw [if_neg c0] at h2; omega
/-- what the model's rows of things hold -/
theorem RMt_bas {D : DD} {σ : Mm} (hM : RMt σ 0 D) {t : Nat} (ht : t < nT D) : mA σ 3 0 10 t = bas D 0 6 t ∧ mA σ 3 0 11 t = bas D 1 7 t ∧ mA σ 3 0 12 t = bas D 2 8 t ∧ mA σ 3 0 9 t = kS D t ∧ mA σ 3 0 13 t = oI (fx D t (dN D 1)) := by
  by_cases c : t < dN D 0
  · have := hM.1 t c
    simp only [Nat.mul_zero, Nat.zero_add] at this
    unfold bas kS
    rw [fx_none (Or.inl c)]
    exact this
  · obtain ⟨k, hk, h0, e⟩ := found_ex (m := dN D 1) (by omega) ht
    have := hM.2 k hk h0
    simp only [Nat.mul_zero, Nat.zero_add, e] at this
    have hfx : fx D t (dN D 1) = some k := by rw [← e]; exact fx_at hk h0
    unfold bas kS
    rw [hfx]
    exact this
def LK (D : DD) (n i : Nat) (σ : Mm) : Prop := ∀ t, t < i → mA σ 3 0 48 t = kE D n t ∧ mA σ 3 0 49 t = kN D n t ∧ mA σ 3 0 50 t = kA D n t ∧ mA σ 3 0 51 t = if kG D n t then 1 else 0
theorem oI_nn {k : Nat} (h : k < 1000) : 0 ≤ oI (some k) := nI_pos' (by omega)
theorem lay_2 {D : DD} (hW : WF D) {n : Nat} (hn : n ≤ dN D 1) : ∀ (m t : Nat) (σ : Mm), nT D - t < m → t ≤ nT D → RM σ 0 D → LK D n t σ → Ok (F_X12_layThings_2 m (nI n) (nI t) σ) (LK D n (nT D)) := by
  have h60 := hW.2.1
  have h14 := hW.1
  have z0 : vp_nar .boolean 0 = 0 := by decide
  have z1 : vp_nar .boolean 1 = 1 := by decide
  intro m
  induction m with
  | zero => intro t σ h; omega
  | succ m ih =>
    intro t σ hm ht hM hL
    change Ok (B_X12_layThings_2 (F_X12_layThings_2 m) _ _ _) _
    unfold B_X12_layThings_2
    rw [c0, hM.1.2.1]
    refine Ok_t (by decide) ?_
    by_cases hd : nT D ≤ t
    · have e : t = nT D := by omega
      subst e
      exact Ok_t (nI_le hd (by omega)) (Ok_r hL)
    refine Ok_f (nI_ge (by omega) (by omega)) ?_
    have htN : t < nT D := by omega
    have hct : (nI t).toNatClampNeg = t := nI_clamp (by omega)
    have i70 : inb (nI t) 70 = true := by
      have : t < 14 := by omega
      clear ih hM hL hW; grind [gI, gB, gC]
    have i14 : inb (nI t) 14 = true := by
      have : t < 14 := by omega
      clear ih hM hL hW i70; grind [gI, gB, gC]
    have lt_of : ∀ {κ k}, lst D n κ t n = some k → k < dN D 1 := fun h => by have := (lst_some h).1; omega
    have i300 : ∀ k, k < dN D 1 → inb (nI k) 300 = true := fun k hk => by
      have : k < 60 := by omega
      clear ih hM hL hW i70 i14 lt_of; grind [gI, gB, gC]
    -- what follows at each step, over any later memory
    have s4 : ∀ τ, RM τ 0 D → LK D n t τ → mA τ 3 0 48 t = kE D n t → mA τ 3 0 49 t = kN D n t → mA τ 3 0 50 t = kA D n t → Ok (F_X12_layThings_106 (F_X12_layThings_2 m) (nI n) (nI t) τ) (LK D n (nT D)) := by
      intro τ hMτ hLτ q1 q2 q3
      have fin : ∀ v : Int32, v = (if kG D n t then 1 else 0) → Ok (F_X12_layThings_2 m (nI n) (nI (t + 1)) (setA τ 3 0 51 (upd (mA τ 3 0 51) t v))) (LK D n (nT D)) := by
        intro v hv
        refine ih (t + 1) _ (by omega) (by omega) (hMτ.fr (Fr.AA Fr_r rfl)) (fun x hx => ?_)
        simp only [mA_A, mL_A, mP_A, mA_L, mL_L, mP_L, upd_at]
        simp
        by_cases hxt : x = t
        · subst hxt; rw [if_pos rfl]; exact ⟨q1, q2, q3, hv⟩
        · rw [if_neg hxt]; exact hLτ x (by omega)
      unfold F_X12_layThings_106
      rw [s_lastOf hW (by decide) hn hMτ.2.2.1, bnd_s]
      unfold F_X12_layThings_118 F_X12_layThings_144 F_X12_layThings_148 F_X12_layThings_149 F_X12_layThings_150 F_X12_layThings_141 F_X12_layThings_144 F_X12_layThings_148 F_X12_layThings_149 F_X12_layThings_150
      rw [hct, nI_1, z0, z1, (RMt_bas hMτ.2.1 htN).2.2.2.2]
      cases hl : lst D n 2 t n with
      | some k =>
        refine Ok_t (oI_nn (by have := lt_of hl; omega)) (Ok_t i14 (fin 1 ?_))
        unfold kG; rw [hl]; rfl
      | none =>
        refine Ok_f (by decide) (Ok_t i70 ?_)
        cases hfx : fx D t (dN D 1) with
        | none =>
          refine Ok_t (by decide) (Ok_t i14 (fin 0 ?_))
          unfold kG; rw [hl, hfx]; rfl
        | some k =>
          have hk := (fx_lt hfx).1
          refine Ok_f (show ¬ nI k < 0 from nI_pos (by omega)) (Ok_t i70 ?_)
          show Ok (bnd (F_X12_isLive (nI k) (nI n) τ) _) _
          rw [s_isLive hW hn hk hMτ.2.2.1, bnd_s]
          cases hlv : liv D n k with
          | true =>
            refine Ok_f (by decide) (Ok_t i14 (fin 0 ?_))
            unfold kG; rw [hl, hfx]; show (0 : Int32) = if (false || !liv D n k) = true then 1 else 0; rw [hlv]; rfl
          | false =>
            refine Ok_t (by decide) (Ok_t i14 (fin 1 ?_))
            unfold kG; rw [hl, hfx]; show (1 : Int32) = if (false || !liv D n k) = true then 1 else 0; rw [hlv]; rfl
    have s3 : ∀ τ, RM τ 0 D → LK D n t τ → mA τ 3 0 48 t = kE D n t → mA τ 3 0 49 t = kN D n t → Ok (F_X12_layThings_70 (F_X12_layThings_2 m) (nI n) (nI t) τ) (LK D n (nT D)) := by
      intro τ hMτ hLτ q1 q2
      have fin : ∀ v : Int32, v = kA D n t → Ok (F_X12_layThings_106 (F_X12_layThings_2 m) (nI n) (nI t) (setA τ 3 0 50 (upd (mA τ 3 0 50) t v))) (LK D n (nT D)) := by
        intro v hv
        refine s4 _ (hMτ.fr (Fr.AA Fr_r rfl)) (fun x hx => ?_) ?_ ?_ ?_
        · simp only [mA_A, mL_A, mP_A, mA_L, mL_L, mP_L, upd_at]; simp; rw [if_neg (by omega)]; exact hLτ x hx
        · simp only [mA_A, mL_A, mP_A, mA_L, mL_L, mP_L, upd_at]; simp; exact q1
        · simp only [mA_A, mL_A, mP_A, mA_L, mL_L, mP_L, upd_at]; simp; exact q2
        · simp only [mA_A, mL_A, mP_A, mA_L, mL_L, mP_L, upd_at]; simp; exact hv
      unfold F_X12_layThings_70
      rw [s_lastOf hW (by decide) hn hMτ.2.2.1, bnd_s]
      unfold F_X12_layThings_77 F_X12_layThings_105
      rw [hct]
      cases hl : lst D n 3 t n with
      | some k =>
        have hk := lt_of hl
        refine Ok_t (oI_nn (by omega)) (Ok_t (i300 k hk) (Ok_t i14 (fin _ ?_)))
        show mA τ 3 0 41 (nI k).toNatClampNeg = _
        rw [nI_clamp (by omega)]
        have := (hMτ.2.2.1 k hk).2.2.2.2 (lst_some hl).2.1
        simp only [Nat.mul_zero, Nat.zero_add] at this
        unfold kA; rw [hl]; exact this
      | none =>
        refine Ok_f (by decide) (Ok_t i70 (Ok_t i14 (fin _ ?_)))
        unfold kA; rw [hl]; exact (RMt_bas hMτ.2.1 htN).2.2.1
    -- the first two rows share one look
    rw [s_lastOf hW (by decide) hn hM.2.2.1, bnd_s]
    have s2 : ∀ e n' : Int32, e = kE D n t → n' = kN D n t → Ok (F_X12_layThings_70 (F_X12_layThings_2 m) (nI n) (nI t) (setA (setA σ 3 0 48 (upd (mA σ 3 0 48) t e)) 3 0 49 (upd (mA (setA σ 3 0 48 (upd (mA σ 3 0 48) t e)) 3 0 49) t n'))) (LK D n (nT D)) := by
      intro e n' he hn'
      refine s3 _ ((hM.fr (Fr.AA Fr_r rfl)).fr (Fr.AA Fr_r rfl)) (fun x hx => ?_) ?_ ?_
      · simp only [mA_A, mL_A, mP_A, mA_L, mL_L, mP_L, upd_at]; simp; rw [if_neg (by omega), if_neg (by omega)]; exact hL x hx
      · simp only [mA_A, mL_A, mP_A, mA_L, mL_L, mP_L, upd_at]; simp; exact he
      · simp only [mA_A, mL_A, mP_A, mA_L, mL_L, mP_L, upd_at]; simp; exact hn'
    unfold F_X12_layThings_19 F_X12_layThings_44 F_X12_layThings_45 F_X12_layThings_69
    rw [hct]
    cases hl : lst D n 1 t n with
    | some k =>
      have hk := lt_of hl
      have hck : (oI (some k)).toNatClampNeg = k := nI_clamp (by omega)
      have := (hM.2.2.1 k hk).2.2.2.1 (Or.inr (lst_some hl).2.1)
      simp only [Nat.mul_zero, Nat.zero_add] at this
      refine Ok_t (oI_nn (by omega)) (Ok_t (i300 k hk) (Ok_t i14 (Ok_t (oI_nn (by omega)) (Ok_t (i300 k hk) (Ok_t i14 (s2 _ _ ?_ ?_))))))
      · rw [hck]; unfold kE; rw [hl]; exact this.1
      · rw [hck]; simp only [mA_A, mL_A, mP_A, mA_L, mL_L, mP_L, upd_at]; simp; unfold kN; rw [hl]; exact this.2
    | none =>
      refine Ok_f (by decide) (Ok_t i70 (Ok_t i14 (Ok_f (by decide) (Ok_t i70 (Ok_t i14 (s2 _ _ ?_ ?_))))))
      · unfold kE; rw [hl]; exact (RMt_bas hM.2.1 htN).1
      · simp only [mA_A, mL_A, mP_A, mA_L, mL_L, mP_L, upd_at]; simp; unfold kN; rw [hl]; exact (RMt_bas hM.2.1 htN).2.1
theorem s_layThings {D : DD} (hW : WF D) {n : Nat} {σ : Mm} (hn : n ≤ dN D 1) (hM : RM σ 0 D) : Ok (F_X12_layThings (nI n) σ) (LK D n (nT D)) :=
  lay_2 hW hn FU 0 σ (by have := hW.1; show _ < 1000000; omega) (by omega) hM (fun t ht => absurd ht (by omega))
