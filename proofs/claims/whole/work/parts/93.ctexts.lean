/-! the class: all the TELLS of a text -/
def okX (T : Tk) (X : Xt) : Prop := (qT X).length ≤ 14 ∧ (qD X).length ≤ 8 ∧ (qH X).length ≤ 12 ∧ (qS X).length ≤ 5 ∧ (qR X).length ≤ 6 ∧ ∀ y, nmd T X y = nmC T X y
theorem tks_g {T : Tk} : ∀ cs p q, p ≤ 400 → gTk T p → (∀ c ∈ cs, 2 ≤ c) → tks T cs p = .ok q → q = p + cs.length ∧ q ≤ 400 ∧ gTk T q := by
  intro cs
  induction cs with
  | nil => intro p q hp hg _ h; cases h; exact ⟨rfl, hp, hg⟩
  | cons c cs ih =>
    intro p q hp hg hc h
    obtain ⟨p1, e1, h⟩ := ebd_ok h
    obtain ⟨k1, k2, rfl⟩ := t1_ok e1
    have hc2 : 2 ≤ c := hc c (List.mem_cons_self ..)
    obtain ⟨z1, z2, z3⟩ := ih (p + 1) q (by omega) (gTk_s hg (by omega) (by omega)) (fun x hx => hc x (List.mem_cons_of_mem _ hx)) h
    exact ⟨by rw [List.length_cons]; omega, z2, z3⟩
theorem nmd_app {a b c d : Bool} (h : a = (c || d)) : (a || (b || false)) = ((c || (b || false)) || d) := by
  subst h; cases b <;> cases c <;> cases d <;> rfl
theorem nmd_app2 {a b c d : Bool} (h : a = (c || d)) : (a || (b || false)) = (c || (d || (b || false))) := by
  subst h; cases b <;> cases c <;> cases d <;> rfl
theorem okX_step {T : Tk} (hT : TW T) {X X' : Xt} {p q : Nat} (hX : okX T X) (hp : p ≤ 400) (hg : gTk T p) (h : tAll T X p = .ok (X', q)) : okX T X' ∧ p < q := by
  obtain ⟨l1, l2, l3, l4, l5, hn⟩ := hX
  unfold tAll at h
  split at h
  · next c =>
    unfold tTh at h
    split at h
    · cases h
    · next r =>
      obtain ⟨q', e1, h⟩ := ebd_ok h
      injection h with h; injection h with h1 h2; subst h1 h2
      obtain ⟨z1, -⟩ := tks_ok _ _ _ e1
      refine ⟨⟨?_, l2, l3, l4, l5, fun y => ?_⟩, ?_⟩
      · show (qT X ++ [p]).length ≤ 14
        rw [List.length_append]; show _ + 1 ≤ 14; omega
      · show (qL X ++ [(p + 1, nI (qT X).length)]).any _ = ((qT X ++ [p]).any _ || (qS X).any _)
        rw [List.any_append, List.any_append]
        exact nmd_app (hn y)
      · rw [z1]; show p < p + 6; omega
  split at h
  · unfold tDo at h
    split at h
    · cases h
    · next r =>
      obtain ⟨q', e1, h⟩ := ebd_ok h
      injection h with h; injection h with h1 h2; subst h1 h2
      obtain ⟨z1, -⟩ := tks_ok _ _ _ e1
      refine ⟨⟨l1, ?_, l3, l4, l5, hn⟩, ?_⟩
      · show (qD X ++ [_]).length ≤ 8
        rw [List.length_append]; show _ + 1 ≤ 8; omega
      · rw [z1]; show p < p + 4; omega
  split at h
  · unfold tHi at h
    split at h
    · cases h
    · next r =>
      obtain ⟨q', e1, h⟩ := ebd_ok h
      injection h with h; injection h with h1 h2; subst h1 h2
      obtain ⟨z1, -⟩ := tks_ok _ _ _ e1
      refine ⟨⟨l1, l2, ?_, l4, l5, hn⟩, ?_⟩
      · show (qH X ++ [_]).length ≤ 12
        rw [List.length_append]; show _ + 1 ≤ 12; omega
      · rw [z1]; show p < p + 5; omega
  split at h
  · unfold tSk at h
    split at h
    · cases h
    · next r =>
      obtain ⟨p2, e1, h⟩ := ebd_ok h
      obtain ⟨⟨sp, p3⟩, e2, h⟩ := ebd_ok h
      obtain ⟨p4, e3, h⟩ := ebd_ok h
      obtain ⟨⟨L, p5⟩, e4, h⟩ := ebd_ok h
      obtain ⟨p6, e5, h⟩ := ebd_ok h
      injection h with h; injection h with h1 h2; subst h1 h2
      have d2 : ∀ c ∈ [20, 2], 2 ≤ c := by decide
      have d3 : ∀ c ∈ [21, 3], 2 ≤ c := by decide
      obtain ⟨y1, y2, y3⟩ := tks_g _ _ _ hp hg d2 e1
      have y1 : p2 = p + 2 := y1
      have y4 : p2 ≤ p3 ∧ p3 ≤ 400 ∧ gTk T p3 := by
        by_cases c : tK T p2 = 21
        · rw [if_pos c] at e2
          obtain ⟨q', f1, f2⟩ := ebd_ok e2
          injection f2 with f2; injection f2 with f3 f4; subst f4
          obtain ⟨w1, w2, w3⟩ := tks_g _ _ _ y2 y3 d3 f1
          exact ⟨by rw [w1]; exact Nat.le_add_right .., w2, w3⟩
        · rw [if_neg c] at e2
          injection e2 with f2; injection f2 with f3 f4; subst f4
          exact ⟨Nat.le_refl _, y2, y3⟩
      obtain ⟨k1, k2, y5⟩ := t1_ok e3
      have k1 : tK T p3 = 5 := k1
      have y5 : p4 = p3 + 1 := y5
      have k2 : p3 < 400 := k2
      obtain ⟨w1, w2, w3, w4⟩ := sLn_S 7 p4 L p5 (by omega) (by rw [y5]; exact gTk_s y4.2.2 (by omega) (by omega)) e4
      obtain ⟨k3, k4, y6⟩ := t1_ok e5
      have y6 : p6 = p5 + 1 := y6
      refine ⟨⟨l1, l2, l3, ?_, l5, fun y => ?_⟩, by omega⟩
      · show (qS X ++ [_]).length ≤ 5
        rw [List.length_append]; show _ + 1 ≤ 5; omega
      · show (qL X ++ [(p + 1, (-1 : Int32))]).any _ = ((qT X).any _ || (qS X ++ [(p + 1, _, _)]).any _)
        rw [List.any_append, List.any_append]
        exact nmd_app2 (hn y)
  split at h
  · unfold tNe at h
    obtain ⟨q', e1, h⟩ := ebd_ok h
    injection h with h; injection h with h1 h2; subst h1 h2
    obtain ⟨z1, -⟩ := tks_ok _ _ _ e1
    exact ⟨⟨l1, l2, l3, l4, l5, hn⟩, by rw [z1]; show p < p + 3; omega⟩
  split at h
  · unfold tRu at h
    split at h
    · cases h
    · next r =>
      obtain ⟨p2, e1, h⟩ := ebd_ok h
      obtain ⟨⟨cd, p3⟩, e2, h⟩ := ebd_ok h
      obtain ⟨p4, e3, h⟩ := ebd_ok h
      injection h with h; injection h with h1 h2; subst h1 h2
      have d2 : ∀ c ∈ [23, 24], 2 ≤ c := by decide
      obtain ⟨y1, y2, y3⟩ := tks_g _ _ _ hp hg d2 e1
      have y1 : p2 = p + 2 := y1
      obtain ⟨w1, w2, w3, w4, w5⟩ := xCond_ok hT y2 y3 e2
      obtain ⟨k3, k4, y6⟩ := t1_ok e3
      have y6 : p4 = p3 + 1 := y6
      refine ⟨⟨l1, l2, l3, l4, ?_, hn⟩, ?_⟩
      · show (qR X ++ [_]).length ≤ 6
        rw [List.length_append]; show _ + 1 ≤ 6; omega
      · show p < p4; omega
  · cases h
/-- what a text told leaves -/
def oTx (T : Tk) (i : Nat) (σ0 : Mm) (r : Er Xt) (τ : Mm) : Prop := match r with
  | .ok X => okX T X ∧ ∃ u, u ≤ 400 ∧ FI i σ0 τ ∧ CR T i u X τ ∧ mA τ 0 0 12 0 = mA τ 0 0 12 5 ∧ mA τ 0 0 12 1 = mA τ 0 0 12 6
  | .error e => CF T i σ0 e τ
theorem texts_166F {T : Tk} {i : Nat} {σ0 σ : Mm} {e : Nat × Nat} (h : CF T i σ0 e σ) : Ok (F_X5_tellAll_166 σ) (CF T i σ0 e) := by
  unfold F_X5_tellAll_166
  exact Ok_f h.ne (Ok_r h)
theorem texts_166 {T : Tk} {i p : Nat} {X : Xt} {σ0 σ : Mm} (hX : okX T X) (h : CRX T i σ0 X p σ) : Ok (F_X5_tellAll_166 σ) (oTx T i σ0 (.ok X)) := by
  obtain ⟨u, hu, hK, hR⟩ := h
  have hp4 := hK.2.2.2.1
  unfold F_X5_tellAll_166 F_X5_tellAll_181
  refine Ok_t hK.2.1 (Ok_r ⟨hX, u, by omega, (hK.1.A0 rfl).A0 rfl, hR.fr (W := [(0, 12, 0), (0, 12, 1)]) ((Fr_r.A rfl).A rfl) rfl, ?_, ?_⟩)
  · simp only [mA_A, mL_A, mP_A, mA_L, mL_L, mP_L, upd_at]; simp
  · simp only [mA_A, mL_A, mP_A, mA_L, mL_L, mP_L, upd_at]; simp
theorem s_texts {T : Tk} {i : Nat} {σ0 : Mm} {R : Er Xt} (hA : AM T i σ0) : ∀ (n m j p : Nat) (X : Xt) (σ : Mm), tTx T m X p = R → 402 - p < n → 500 ≤ m + p → j ≤ p → okX T X → CRX T i σ0 X p σ → Ok (F_X5_tellAll_32 n (nI j) σ) (oTx T i σ0 R) := by
  intro n
  induction n with
  | zero => intro m j p X σ _ h; omega
  | succ n ih =>
    intro m j p X σ hR hn hm hj hX h
    obtain ⟨u, hu, hK, hC⟩ := id h
    have hp4 : p ≤ 400 := hK.2.2.2.1
    have hg := hK.2.2.2.2
    have hk36 := hA.1.1 p
    have hcu := CU_of hC hu hp4
    obtain ⟨l1, l2, l3, l4, l5, hnm⟩ := id hX
    obtain ⟨m, rfl⟩ : ∃ m', m = m' + 1 := ⟨m - 1, by omega⟩
    have hR : (if tK T p = 0 then .ok X else ebd (tAll T X p) (fun a => tTx T m a.1 a.2)) = R := hR
    have next : tK T p ≠ 0 → ∀ τ, oTl T i σ0 (tAll T X p) τ → Ok (F_X5_tellAll_160 (F_X5_tellAll_32 n) (nI j) τ) (oTx T i σ0 R) := by
      intro c0 τ hτ
      rw [if_neg c0] at hR
      unfold F_X5_tellAll_160
      rw [nI_1]
      cases hr : tAll T X p with
      | error e =>
        rw [hr] at hτ hR
        have hτ : CF T i σ0 e τ := hτ
        have hR : (Except.error e : Er Xt) = R := hR
        subst hR
        obtain ⟨n', rfl⟩ : ∃ n', n = n' + 1 := ⟨n - 1, by omega⟩
        show Ok (B_X5_tellAll_32 (F_X5_tellAll_32 n') _ _) _
        unfold B_X5_tellAll_32
        exact Ok_s (fun _ => texts_166F hτ) (fun _ => Ok_f hτ.ne (texts_166F hτ))
      | ok a =>
        obtain ⟨X', q⟩ := a
        rw [hr] at hτ hR
        have hτ : CRX T i σ0 X' q τ := hτ
        obtain ⟨z1, z2⟩ := okX_step hA.1 hX hp4 hg hr
        exact ih m (j + 1) q X' τ hR (by omega) (by omega) (by omega) z1 hτ
    change Ok (B_X5_tellAll_32 (F_X5_tellAll_32 n) _ _) _
    unfold B_X5_tellAll_32
    refine Ok_f (nI_nlt (a := 400) (by omega) (by omega)) (Ok_t hK.2.1 ?_)
    rw [s_kind hA hK, bnd_s]
    unfold F_X5_tellAll_50 F_X5_tellAll_109 F_X5_tellAll_117 F_X5_tellAll_124 F_X5_tellAll_131 F_X5_tellAll_138 F_X5_tellAll_145 F_X5_tellAll_152
    have ne : ∀ {c : Nat}, c ≤ 400 → tK T p ≠ c → ¬ nI (tK T p) = nI c := fun hc z e => z ((kq (by omega) hc).mp e)
    by_cases c0 : tK T p = 0
    · rw [if_pos c0] at hR
      subst hR
      exact Ok_t (by rw [c0]; rfl) (texts_166 hX h)
    have nx := next c0
    have hst : (tAll T X p = .error (1, p)) → Ok (bnv (F_X5_stop 1 σ) (fun τ => F_X5_tellAll_160 (F_X5_tellAll_32 n) (nI j) τ)) (oTx T i σ0 R) := by
      intro e
      refine Ok_V (s_stop (x := 1) hA hK hcu (Or.inl rfl)) (fun τ hτ => nx τ ?_)
      rw [e]; exact hτ
    refine Ok_f (ne (c := 0) (by omega) c0) ?_
    by_cases c16 : tK T p = 16
    · have e : tAll T X p = tTh T X p := by unfold tAll; rw [if_pos (Or.inl c16)]
      rw [e] at nx
      exact Ok_t (by rw [c16]; rfl) (Ok_V (s_thing hA h l1 l4 hnm (Or.inl c16)) nx)
    refine Ok_f (ne (c := 16) (by omega) c16) ?_
    by_cases c17 : tK T p = 17
    · have e : tAll T X p = tTh T X p := by unfold tAll; rw [if_pos (Or.inr c17)]
      rw [e] at nx
      exact Ok_t (by rw [c17]; rfl) (Ok_V (s_thing hA h l1 l4 hnm (Or.inr c17)) nx)
    refine Ok_f (ne (c := 17) (by omega) c17) ?_
    have t0 : ¬ (tK T p = 16 ∨ tK T p = 17) := by omega
    by_cases c18 : tK T p = 18
    · have e : tAll T X p = tDo T X p := by unfold tAll; rw [if_neg t0, if_pos c18]
      rw [e] at nx
      exact Ok_t (by rw [c18]; rfl) (Ok_V (s_door hA h l2 l1) nx)
    refine Ok_f (ne (c := 18) (by omega) c18) ?_
    by_cases c19 : tK T p = 19
    · have e : tAll T X p = tHi T X p := by unfold tAll; rw [if_neg t0, if_neg c18, if_pos c19]
      rw [e] at nx
      exact Ok_t (by rw [c19]; rfl) (Ok_V (s_hill hA h l3) nx)
    refine Ok_f (ne (c := 19) (by omega) c19) ?_
    by_cases c20 : tK T p = 20
    · have e : tAll T X p = tSk T X p := by unfold tAll; rw [if_neg t0, if_neg c18, if_neg c19, if_pos c20]
      rw [e] at nx
      exact Ok_t (by rw [c20]; rfl) (Ok_V (s_sky hA h l4 l1 l5 hnm) nx)
    refine Ok_f (ne (c := 20) (by omega) c20) ?_
    by_cases c21 : tK T p = 21
    · exact Ok_t (by rw [c21]; rfl) (hst (by unfold tAll; rw [if_neg t0, if_neg c18, if_neg c19, if_neg c20, if_neg (by omega), if_neg (by omega)]))
    refine Ok_f (ne (c := 21) (by omega) c21) ?_
    by_cases c22 : tK T p = 22
    · have e : tAll T X p = tNe T X p := by unfold tAll; rw [if_neg t0, if_neg c18, if_neg c19, if_neg c20, if_pos c22]
      rw [e] at nx
      exact Ok_t (by rw [c22]; rfl) (Ok_V (s_near hA h) nx)
    refine Ok_f (ne (c := 22) (by omega) c22) ?_
    by_cases c23 : tK T p = 23
    · have e : tAll T X p = tRu T X p := by unfold tAll; rw [if_neg t0, if_neg c18, if_neg c19, if_neg c20, if_neg c22, if_pos c23]
      rw [e] at nx
      exact Ok_t (by rw [c23]; rfl) (Ok_V (s_rule hA h l5 l4) nx)
    refine Ok_f (ne (c := 23) (by omega) c23) (hst ?_)
    unfold tAll; rw [if_neg t0, if_neg c18, if_neg c19, if_neg c20, if_neg c22, if_neg c23]
