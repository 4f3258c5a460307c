/-! the model: one TELL by its word; all of them -/
theorem wh_w : ∀ k, k < 37 → 16 ≤ k → ∀ w, w < 8 → (nI (wh k) = nI w ↔ wh k = w) := by decide
theorem wh_of : ∀ k, k < 37 → 16 ≤ k → (wh k = 0 ↔ k = 16) ∧ (wh k = 1 ↔ k = 17) ∧ (wh k = 2 ↔ k = 18) ∧ (wh k = 3 ↔ k = 19) ∧ (wh k = 4 ↔ k = 20) ∧ (wh k = 7 ↔ k = 23) ∧ (wh k = 6 ↔ k = 22) := by decide
theorem m_isB {T : Tk} {σ0 : Mm} {r : Er (Xt × Nat)} {o : Option (Int32 × Mm)} {f : Int32 → Mm → Option (Int32 × Mm)} (h : Ok o (oTm T σ0 r)) (hf : ∀ v τ, f v τ = if isB v = true then some (v, τ) else none) : Ok (bnd o f) (oTm T σ0 r) := by
  refine Ok_B h (fun v τ hv => ?_)
  rw [hf]
  have hb : isB v = true := by
    cases r with
    | ok a => have : v = 1 := hv.1; rw [this]; decide
    | error e => have : v = 0 := hv.1; rw [this]; decide
  exact Ok_t hb (Ok_r hv)
theorem m_tell {T : Tk} {p : Nat} {σ0 σ : Mm} {X : Xt} (hA : AN T σ0) (h : MRX T σ0 X p σ) (hX : okX T X) (hY : okJ T X) : Ok (F_X12_tell σ) (oTm T σ0 (tAll0 T X p)) := by
  obtain ⟨c, l, hcp, hlp, hK, hR⟩ := id h
  obtain ⟨l1, l2, l3, l4, l5, -⟩ := hX
  obtain ⟨m1, m2, m3, m4⟩ := hY
  have hp4 := hK.2.2.1
  have hg := hK.2.2.2.1
  have hk36 := hA.1.1 p
  have r := hA.t hK.1 hp4 hg
  have wr : Ok (bnd (F_X12_wrong 1 σ) (fun v τ => F_X12_tell_102 v τ)) (oTm T σ0 (.error (1, p))) := by
    refine Ok_B (s_wrong hA hK (x := 1) (Or.inl rfl)) (fun v τ hv => ?_)
    unfold F_X12_tell_102
    have hv1 : v = 0 := hv.1
    exact Ok_t (by rw [hv1]; decide) (Ok_r hv)
  unfold F_X12_tell
  rw [hK.2.1, (ih1 hp4).2, r.1]
  refine Ok_t (ih1 hp4).1 ?_
  by_cases hw : 16 ≤ tK T p
  · have hso := (so_name (tK T p) (by omega)).2.2.2.1.mpr hw
    refine Ok_t (by rw [hso]; rfl) (Ok_t (ih1 hp4).1 ?_)
    rw [r.2.2.1 (by omega)]
    have w1 := wh_w (tK T p) (by omega) hw
    obtain ⟨o0, o1, o2, o3, o4, o7, o6⟩ := wh_of (tK T p) (by omega) hw
    unfold F_X12_tell_26
    by_cases c16 : tK T p = 16
    · have e : tAll0 T X p = tTh0 T X p := by unfold tAll0; rw [if_pos (Or.inl c16)]
      rw [e]
      have hz : nI (wh (tK T p)) = 0 := by rw [o0.mpr c16]; rfl
      refine Ok_t hz ?_
      unfold F_X12_tell_36 F_X12_tell_46
      refine Ok_t hz (m_isB ?_ (fun v τ => rfl))
      have := m_thing hA h l1 m1 (fun _ => by omega) m3 (Or.inl c16)
      rw [if_pos c16] at this
      exact this
    refine Ok_f (fun z => c16 (o0.mp ((w1 0 (by omega)).mp z))) ?_
    by_cases c17 : tK T p = 17
    · have e : tAll0 T X p = tTh0 T X p := by unfold tAll0; rw [if_pos (Or.inr c17)]
      rw [e]
      have hz : nI (wh (tK T p)) = 1 := by rw [o1.mpr c17]; rfl
      refine Ok_t hz ?_
      unfold F_X12_tell_36 F_X12_tell_46
      refine Ok_f (by rw [hz]; decide) (m_isB ?_ (fun v τ => rfl))
      have := m_thing hA h l1 m1 (fun _ => by omega) m3 (Or.inr c17)
      rw [if_neg c16] at this
      exact this
    refine Ok_f (fun z => c17 (o1.mp ((w1 1 (by omega)).mp z))) ?_
    have t0 : ¬ (tK T p = 16 ∨ tK T p = 17) := by omega
    by_cases c18 : tK T p = 18
    · have e : tAll0 T X p = tDo0 T X p := by unfold tAll0; rw [if_neg t0, if_pos c18]
      rw [e]
      exact Ok_t (by rw [o2.mpr c18]; rfl) (m_isB (m_door hA h l2 l1 m1 (by omega) m4 c18) (fun v τ => rfl))
    refine Ok_f (fun z => c18 (o2.mp ((w1 2 (by omega)).mp z))) ?_
    by_cases c19 : tK T p = 19
    · have e : tAll0 T X p = tHi0 T X p := by unfold tAll0; rw [if_neg t0, if_neg c18, if_pos c19]
      rw [e]
      exact Ok_t (by rw [o3.mpr c19]; rfl) (m_isB (m_hill hA h l3 c19) (fun v τ => rfl))
    refine Ok_f (fun z => c19 (o3.mp ((w1 3 (by omega)).mp z))) ?_
    by_cases c20 : tK T p = 20
    · have e : tAll0 T X p = tSk0 T X p := by unfold tAll0; rw [if_neg t0, if_neg c18, if_neg c19, if_pos c20]
      rw [e]
      exact Ok_t (by rw [o4.mpr c20]; rfl) (m_isB (m_sky hA h l4 m1 (fun _ => by omega) c20) (fun v τ => rfl))
    refine Ok_f (fun z => c20 (o4.mp ((w1 4 (by omega)).mp z))) ?_
    by_cases c23 : tK T p = 23
    · have e : tAll0 T X p = tRu0 T X p := by unfold tAll0; rw [if_neg t0, if_neg c18, if_neg c19, if_neg c20, if_neg (by omega), if_pos c23]
      rw [e]
      exact Ok_t (by rw [o7.mpr c23]; rfl) (m_isB (m_rule hA h l5 c23) (fun v τ => rfl))
    refine Ok_f (fun z => c23 (o7.mp ((w1 7 (by omega)).mp z))) ?_
    by_cases c22 : tK T p = 22
    · have e : tAll0 T X p = tNe0 T X p := by unfold tAll0; rw [if_neg t0, if_neg c18, if_neg c19, if_neg c20, if_pos c22]
      rw [e]
      exact Ok_t (by rw [o6.mpr c22]; rfl) (m_near hA h c22)
    refine Ok_f (fun z => c22 (o6.mp ((w1 6 (by omega)).mp z))) ?_
    have e : tAll0 T X p = .error (1, p) := by unfold tAll0; rw [if_neg t0, if_neg c18, if_neg c19, if_neg c20, if_neg c22, if_neg c23]
    rw [e]; exact wr
  · have hso : ¬ so (tK T p) = 3 := fun z => hw ((so_name (tK T p) (by omega)).2.2.2.1.mp z)
    have hs5 := (so_le (tK T p) (by omega)).1
    refine Ok_f (fun z => hso ((kq (c := 3) (by omega) (by omega)).mp z)) ?_
    unfold F_X12_tell_26
    have e : tAll0 T X p = .error (1, p) := by unfold tAll0; rw [if_neg (by omega), if_neg (by omega), if_neg (by omega), if_neg (by omega), if_neg (by omega), if_neg (by omega)]
    rw [e]
    exact Ok_f (by decide) (Ok_f (by decide) (Ok_f (by decide) (Ok_f (by decide) (Ok_f (by decide) (Ok_f (by decide) (Ok_f (by decide) wr))))))
