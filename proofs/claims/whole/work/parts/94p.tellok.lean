theorem tAll_g {T : Tk} (hT : TW T) {X X' : Xt} {p q : Nat} (hp : p ≤ 400) (hg : gTk T p) (h : tAll T X p = .ok (X', q)) : q ≤ 400 ∧ gTk T q := by
  unfold tAll at h
  split at h
  · next c =>
    unfold tTh at h
    split at h
    · cases h
    · obtain ⟨q', e1, h⟩ := ebd_ok h
      injection h with h; injection h with h1 h2; subst h1 h2
      have d : ∀ x ∈ [tK T p, 2, 3, 3, 3, 4], 2 ≤ x := by
        intro x hx
        simp only [List.mem_cons, List.not_mem_nil, or_false] at hx
        omega
      exact (tks_g _ _ _ hp hg d e1).2
  split at h
  · unfold tDo at h
    split at h
    · cases h
    · obtain ⟨q', e1, h⟩ := ebd_ok h
      injection h with h; injection h with h1 h2; subst h1 h2
      have d : ∀ x ∈ [18, 2, 2, 4], 2 ≤ x := by decide
      exact (tks_g _ _ _ hp hg d e1).2
  split at h
  · unfold tHi at h
    split at h
    · cases h
    · obtain ⟨q', e1, h⟩ := ebd_ok h
      injection h with h; injection h with h1 h2; subst h1 h2
      have d : ∀ x ∈ [19, 3, 3, 3, 4], 2 ≤ x := by decide
      exact (tks_g _ _ _ hp hg d e1).2
  split at h
  · unfold tSk at h
    split at h
    · cases h
    · obtain ⟨p2, e1, h⟩ := ebd_ok h
      obtain ⟨⟨sp, p3⟩, e2, h⟩ := ebd_ok h
      obtain ⟨p4, e3, h⟩ := ebd_ok h
      obtain ⟨⟨L, p5⟩, e4, h⟩ := ebd_ok h
      obtain ⟨p6, e5, h⟩ := ebd_ok h
      injection h with h; injection h with h1 h2; subst h1 h2
      have d2 : ∀ c ∈ [20, 2], 2 ≤ c := by decide
      have d3 : ∀ c ∈ [21, 3], 2 ≤ c := by decide
      obtain ⟨y1, y2, y3⟩ := tks_g _ _ _ hp hg d2 e1
      have y4 : p3 ≤ 400 ∧ gTk T p3 := by
        by_cases c : tK T p2 = 21
        · rw [if_pos c] at e2
          obtain ⟨q', f1, f2⟩ := ebd_ok e2
          injection f2 with f2; injection f2 with f3 f4; subst f4
          exact (tks_g _ _ _ y2 y3 d3 f1).2
        · rw [if_neg c] at e2
          injection e2 with f2; injection f2 with f3 f4; subst f4
          exact ⟨y2, y3⟩
      obtain ⟨k1, k2, y5⟩ := t1_ok e3
      have k1 : tK T p3 = 5 := k1
      have y5 : p4 = p3 + 1 := y5
      have k2 : p3 < 400 := k2
      obtain ⟨w1, w2, w3, w4⟩ := sLn_S 7 p4 L p5 (by omega) (by rw [y5]; exact gTk_s y4.2 (by omega) (by omega)) e4
      obtain ⟨k3, k4, y6⟩ := t1_ok e5
      have k3 : tK T p5 = 4 := k3
      have k4 : p5 < 400 := k4
      have y6 : p6 = p5 + 1 := y6
      subst y6
      exact ⟨by omega, gTk_s w4 (by omega) (by omega)⟩
  split at h
  · unfold tNe at h
    obtain ⟨q', e1, h⟩ := ebd_ok h
    injection h with h; injection h with h1 h2; subst h1 h2
    have d : ∀ x ∈ [22, 3, 4], 2 ≤ x := by decide
    exact (tks_g _ _ _ hp hg d e1).2
  split at h
  · unfold tRu at h
    split at h
    · cases h
    · obtain ⟨p2, e1, h⟩ := ebd_ok h
      obtain ⟨⟨cd, p3⟩, e2, h⟩ := ebd_ok h
      obtain ⟨p4, e3, h⟩ := ebd_ok h
      injection h with h; injection h with h1 h2; subst h1 h2
      have d2 : ∀ c ∈ [23, 24], 2 ≤ c := by decide
      obtain ⟨y1, y2, y3⟩ := tks_g _ _ _ hp hg d2 e1
      obtain ⟨z1, z2, z3, z4, z5⟩ := xCond_ok hT y2 y3 e2
      obtain ⟨k3, k4, y6⟩ := t1_ok e3
      have k3 : tK T p3 = 4 := k3
      have k4 : p3 < 400 := k4
      have y6 : p4 = p3 + 1 := y6
      subst y6
      exact ⟨by omega, gTk_s z4 (by omega) (by omega)⟩
  · cases h
theorem tTx_okW {T : Tk} (hT : TW T) : ∀ (m p : Nat) (X X' : Xt), okX T X → okW T X → p ≤ 400 → gTk T p → tTx T m X p = .ok X' → okW T X' := by
  intro m
  induction m with
  | zero => intro p X X' _ _ _ _ h; cases h
  | succ m ih =>
    intro p X X' hX hW hp hg h
    have h : (if tK T p = 0 then .ok X else ebd (tAll T X p) (fun a => tTx T m a.1 a.2)) = .ok X' := h
    by_cases c0 : tK T p = 0
    · rw [if_pos c0] at h
      injection h with h; subst h; exact hW
    · rw [if_neg c0] at h
      obtain ⟨⟨X1, q1⟩, e1, h⟩ := ebd_ok h
      obtain ⟨g1, g2⟩ := tAll_g hT hp hg e1
      exact ih q1 X1 X' (okX_step hT hX hp hg e1).1 (okW_step hT hX hW hp hg e1) g1 g2 h
