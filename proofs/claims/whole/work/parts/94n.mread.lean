/-! the model reads: all of it, up to the copy -/
def emM (σ : Mm) : Prop := mA σ 3 0 7 1 = 2 ∧ mA σ 3 0 8 1 = 0 ∧ mA σ 3 0 14 1 = 0 ∧ mA σ 3 0 17 1 = 0 ∧ mA σ 3 0 21 1 = 0 ∧ mA σ 3 0 25 1 = 0 ∧ mA σ 3 0 28 1 = 0 ∧ mA σ 3 0 31 1 = 0 ∧ mA σ 3 0 38 1 = 0 ∧ mA σ 3 0 0 49 = 0
def oth1 (σ τ : Mm) : Prop := ∀ k x, 0 < sz k → (x < sz k ∨ 2 * sz k ≤ x) → mA τ 3 0 k x = mA σ 3 0 k x
theorem oth1.set {σ τ : Mm} {k j : Nat} {v : Int32} (h : oth1 σ τ) (hr : sz k = 0 ∨ (sz k ≤ j ∧ j < 2 * sz k)) : oth1 σ (setA τ 3 0 k (upd (mA τ 3 0 k) j v)) := by
  intro k' x h0 hx
  rw [mA_A]
  by_cases e : k' = k
  · subst e
    rw [if_pos ⟨rfl, rfl, rfl⟩, upd_at, if_neg (by omega)]
    exact h k' x h0 hx
  · rw [if_neg (fun z => e z.2.2)]; exact h k' x h0 hx
theorem m_begin {σ : Mm} : Ok (F_X12_begin 1 σ) (fun τ => emM τ ∧ oth1 σ τ) := by
  have c1 : (1 : Int32).toNatClampNeg = 1 := rfl
  have one : ∀ k, sz k = 1 → sz k = 0 ∨ (sz k ≤ 1 ∧ 1 < 2 * sz k) := fun k h => Or.inr (by omega)
  unfold F_X12_begin F_X12_begin_7 F_X12_begin_14 F_X12_begin_21 F_X12_begin_28 F_X12_begin_35 F_X12_begin_42 F_X12_begin_49 F_X12_begin_56 F_X12_begin_63
  rw [c1]
  refine Ok_t (by decide) (Ok_t (by decide) (Ok_t (by decide) (Ok_t (by decide) (Ok_t (by decide) (Ok_t (by decide) (Ok_t (by decide) (Ok_t (by decide) (Ok_t (by decide) (Ok_r ⟨⟨?_, ?_, ?_, ?_, ?_, ?_, ?_, ?_, ?_, ?_⟩, ?_⟩)))))))))
  all_goals first
    | (simp only [mA_A, mL_A, mP_A, mA_L, mL_L, mP_L, upd_at]; simp; done)
    | exact ((((((((((show oth1 σ σ from fun _ _ _ _ => rfl).set (one 7 rfl)).set (one 8 rfl)).set (one 14 rfl)).set (one 17 rfl)).set (one 21 rfl)).set (one 25 rfl)).set (Or.inl rfl)).set (Or.inl rfl)).set (one 38 rfl)).set (Or.inl rfl)
/-- the model just ahead of its copy -/
def oRM (T : Tk) (σ τ : Mm) : Prop := mA τ 3 0 0 0 = 0 ∧ oth1 σ τ ∧ mA τ 3 0 38 1 = 0 ∧ match tTx T XF emX 0 with
  | .error e => (e.1 = 1 ∨ e.1 = 2) ∧ mA τ 3 0 0 8 = nI e.1 ∧ mA τ 3 0 0 9 = nI (tP T e.2)
  | .ok X => okX T X ∧ okJ T X ∧ (∃ c l p, c ≤ p ∧ 3 * l ≤ p ∧ p ≤ 400 ∧ MR T c l p X τ) ∧ match qB X with
    | none => mA τ 3 0 0 8 = 0 ∧ mA τ 3 0 0 9 = -1
    | some e => mA τ 3 0 0 8 = nI e.1 ∧ mA τ 3 0 0 9 = nI (tP T e.2)
theorem MR.fr {T : Tk} {c l p : Nat} {X : Xt} {σ τ : Mm} (h : MR T c l p X σ) (f : Fr [(3, 0, 0), (3, 0, 8), (3, 0, 9)] σ τ) : MR T c l p X τ := by
  obtain ⟨r1, r2, r3, r4, r5, r6, r7, r8, r9, r10⟩ := h
  refine ⟨r1.fr f rfl, r2.fr f rfl, r3.fr f rfl, r4.fr f rfl, r5.fr f rfl, r6.fr f rfl, r7.fr f rfl, r8.fr f rfl, ?_, ?_⟩
  · rw [f.row (t := 3) (k := 28) 0 rfl]; exact r9
  · rw [f.row (t := 3) (k := 31) 0 rfl]; exact r10
theorem s_readM {b : Nat} {y : Nat → Nat} {σ : Mm} {Q : Int32 × Mm → Prop} (h : MB b y σ) (hk : ∀ τ, oRM (tT b y) σ τ → Ok (F_X12_read_59 τ) Q) : Ok (F_X12_read σ) Q := by
  have hT : TW (tT b y) := TW_tT h.1 h.2.1
  have hsc := (s_scanAll h).frV fr_X12_scanAll
  generalize tT b y = T at *
  unfold F_X12_read
  refine Ok_V hsc (fun τ hτ => ?_)
  obtain ⟨hTM, f1⟩ := hτ
  have f1 : Fr W_X12_scanAll σ τ := f1
  have o1 : oth1 σ τ := by
    intro k x h0 hx
    refine f1.fld (t := 3) (k := k) (f := x) 0 ?_
    have k0 : k ≠ 0 := fun e => by subst e; exact absurd h0 (by decide)
    have k2 : k ≠ 2 := fun e => by subst e; exact absurd h0 (by decide)
    have k3 : k ≠ 3 := fun e => by subst e; exact absurd h0 (by decide)
    have k4 : k ≠ 4 := fun e => by subst e; exact absurd h0 (by decide)
    have k5 : k ≠ 5 := fun e => by subst e; exact absurd h0 (by decide)
    have nb : ∀ a, k ≠ a → Nat.beq a k = false := by
      intro a ha
      cases hh : Nat.beq a k
      · rfl
      · exact absurd (Nat.eq_of_beq_eq_true hh).symm ha
    simp [inW, W_X12_scanAll, nb 0 k0, nb 2 k2, nb 3 k3, nb 4 k4, nb 5 k5]
  have key : ∀ w, Fr [(3, 0, 8), (3, 0, 9), (3, 0, 10)] τ w → oth1 σ w → mA w 3 0 0 8 = 0 → mA w 3 0 0 9 = -1 → mA w 3 0 0 10 = 0 → Ok (F_X12_read_19 w) Q := by
    intro w fw ow w8 w9 w10
    unfold F_X12_read_19
    refine Ok_V (m_begin.frV fr_X12_begin) (fun υ hυ => ?_)
    obtain ⟨⟨⟨b7, b8, b14, b17, b21, b25, b28, b31, b38, b49⟩, o2⟩, f2⟩ := hυ
    have f2 : Fr [(3, 0, 49), (3, 7, 999), (3, 8, 999), (3, 14, 999), (3, 17, 999), (3, 21, 999), (3, 25, 999), (3, 28, 999), (3, 31, 999), (3, 38, 999)] w υ := f2
    have oυ : oth1 σ υ := fun k x a b => (o2 k x a b).trans (ow k x a b)
    have hA : AN T υ := by
      refine ⟨hT, fun j hj hg => ?_⟩
      have e2 : mA υ 3 0 2 = mA τ 3 0 2 := (f2.row (t := 3) (k := 2) 0 rfl).trans (fw.row (t := 3) (k := 2) 0 rfl)
      have e3 : mA υ 3 0 3 = mA τ 3 0 3 := (f2.row (t := 3) (k := 3) 0 rfl).trans (fw.row (t := 3) (k := 3) 0 rfl)
      have e4 : mA υ 3 0 4 = mA τ 3 0 4 := (f2.row (t := 3) (k := 4) 0 rfl).trans (fw.row (t := 3) (k := 4) 0 rfl)
      have e5 : mL υ 3 0 5 = mL τ 3 0 5 := (f2.rowL (t := 3) (k := 5) 0 rfl).trans (fw.rowL (t := 3) (k := 5) 0 rfl)
      rw [e2, e3, e4, e5]
      exact hTM j hj hg
    unfold F_X12_read_24 F_X12_parses
    generalize hφ0 : setA υ 3 0 0 (upd (mA υ 3 0 0) 7 0) = φ0
    have g : Fr [(3, 0, 7)] υ φ0 := by subst hφ0; exact Fr_r.A rfl
    have K0 : MK T υ 0 φ0 := by
      refine ⟨by subst hφ0; exact MI_r.A rfl (Or.inl sz0), by subst hφ0; simp only [mA_A, mL_A, mP_A, mA_L, mL_L, mP_L, upd_at]; simp; rfl, by omega, gTk_0, ?_, ?_⟩
      · rw [g.fld (t := 3) (k := 0) (f := 8) 0 rfl, f2.fld (t := 3) (k := 0) (f := 8) 0 rfl]; exact w8
      · rw [g.fld (t := 3) (k := 0) (f := 9) 0 rfl, f2.fld (t := 3) (k := 0) (f := 9) 0 rfl]; exact w9
    have M0 : MRX T υ emX 0 φ0 := by
      refine ⟨0, 0, Nat.le_refl _, Nat.le_refl _, K0, ⟨?_, ?_, ?_, ?_, ?_, ?_⟩, fun t x hx => (by cases hx), fun t d hd => (by cases hd), fun t x hx => (by cases hx), fun t x hx => (by cases hx), fun t x hx => (by cases hx), ⟨?_, fun t e he => (by cases he)⟩, ?_, ?_, ?_⟩
      · rw [g.row (t := 3) (k := 7) 0 rfl]; exact b7
      · rw [g.row (t := 3) (k := 8) 0 rfl]; exact b8
      · rw [g.row (t := 3) (k := 14) 0 rfl]; exact b14
      · rw [g.row (t := 3) (k := 17) 0 rfl]; exact b17
      · rw [g.row (t := 3) (k := 21) 0 rfl]; exact b21
      · rw [g.row (t := 3) (k := 25) 0 rfl]; exact b25
      · rw [g.fld (t := 3) (k := 0) (f := 49) 0 rfl]; exact b49
      · show mA φ0 3 0 0 10 = 0
        rw [g.fld (t := 3) (k := 0) (f := 10) 0 rfl, f2.fld (t := 3) (k := 0) (f := 10) 0 rfl]; exact w10
      · rw [g.row (t := 3) (k := 28) 0 rfl]; exact b28
      · rw [g.row (t := 3) (k := 31) 0 rfl]; exact b31
    refine Ok_B (m_parses hA FU XF 0 emX φ0 rfl (by show 402 < 1000000; omega) (by show 500 ≤ 500 + _; omega) okX_em okJ_em M0) (fun v φ hφ => ?_)
    have com : MI υ φ → oth1 σ φ ∧ mA φ 3 0 38 1 = 0 := by
      intro hI
      refine ⟨fun k x a b => (hI.2 k x a b).trans (oυ k x a b), ?_⟩
      rw [hI.1.row (t := 3) (k := 38) 0 rfl]; exact b38
    unfold F_X12_read_28
    cases hr : tTx T XF emX 0 with
    | error e =>
      rw [hr] at hφ
      obtain ⟨hv1, hF⟩ := hφ
      have hv1 : v = 0 := hv1
      obtain ⟨d1, d2⟩ := com hF.1
      refine Ok_t hv1 ?_
      unfold F_X12_read_54
      generalize hw2 : setA φ 3 0 0 (upd (mA φ 3 0 0) 0 0) = w2
      have g2 : Fr [(3, 0, 0)] φ w2 := by subst hw2; exact Fr_r.A rfl
      refine hk w2 ⟨by subst hw2; simp only [mA_A, mL_A, mP_A, mA_L, mL_L, mP_L, upd_at]; simp, by subst hw2; exact d1.set (Or.inl rfl), by rw [g2.row (t := 3) (k := 38) 0 rfl]; exact d2, ?_⟩
      rw [hr]
      refine ⟨hF.2.1, ?_, ?_⟩
      · rw [g2.fld (t := 3) (k := 0) (f := 8) 0 rfl]; exact hF.2.2.1
      · rw [g2.fld (t := 3) (k := 0) (f := 9) 0 rfl]; exact hF.2.2.2
    | ok X =>
      rw [hr] at hφ
      obtain ⟨hv1, hX, hY, p, c, l, hcp, hlp, hK, hR⟩ := hφ
      have hv1 : v = 1 := hv1
      have hK : MK T υ p φ := hK
      have hR : MR T c l p X φ := hR
      obtain ⟨d1, d2⟩ := com hK.1
      have hB := hR.2.2.2.2.2.2.2.1
      refine Ok_f (by rw [hv1]; decide) ?_
      cases hb : qB X with
      | none =>
        rw [hb] at hB
        have hB : mA φ 3 0 0 10 = 0 := hB
        refine Ok_t hB ?_
        unfold F_X12_read_54
        generalize hw2 : setA φ 3 0 0 (upd (mA φ 3 0 0) 0 0) = w2
        have g2 : Fr [(3, 0, 0)] φ w2 := by subst hw2; exact Fr_r.A rfl
        refine hk w2 ⟨by subst hw2; simp only [mA_A, mL_A, mP_A, mA_L, mL_L, mP_L, upd_at]; simp, by subst hw2; exact d1.set (Or.inl rfl), by rw [g2.row (t := 3) (k := 38) 0 rfl]; exact d2, ?_⟩
        rw [hr]
        refine ⟨hX, hY, ⟨c, l, p, hcp, hlp, hK.2.2.1, hR.fr (g2.sub rfl)⟩, ?_⟩
        rw [hb]
        refine ⟨?_, ?_⟩
        · rw [g2.fld (t := 3) (k := 0) (f := 8) 0 rfl]; exact hK.2.2.2.2.1
        · rw [g2.fld (t := 3) (k := 0) (f := 9) 0 rfl]; exact hK.2.2.2.2.2
      | some e =>
        rw [hb] at hB
        have hB : mA φ 3 0 0 10 = nI e.1 ∧ mA φ 3 0 0 11 = nI (tP T e.2) ∧ 1 ≤ e.1 ∧ e.1 ≤ 5 ∧ e.2 < p := hB
        refine Ok_f (by rw [hB.1]; exact nI_ne0 hB.2.2.1 (by have := hB.2.2.2.1; omega)) ?_
        rw [hB.1]
        generalize hwa : setA φ 3 0 0 (upd (mA φ 3 0 0) 8 (nI e.1)) = wa
        have ga : Fr [(3, 0, 8)] φ wa := by subst hwa; exact Fr_r.A rfl
        have a8 : mA wa 3 0 0 8 = nI e.1 := by subst hwa; simp only [mA_A, mL_A, mP_A, mA_L, mL_L, mP_L, upd_at]; simp
        have oa : oth1 σ wa := by subst hwa; exact d1.set (Or.inl rfl)
        unfold F_X12_read_46
        rw [show mA wa 3 0 0 11 = nI (tP T e.2) from by rw [ga.fld (t := 3) (k := 0) (f := 11) 0 rfl]; exact hB.2.1]
        generalize hwb : setA wa 3 0 0 (upd (mA wa 3 0 0) 9 (nI (tP T e.2))) = wb
        have gb : Fr [(3, 0, 9)] wa wb := by subst hwb; exact Fr_r.A rfl
        have b9 : mA wb 3 0 0 9 = nI (tP T e.2) := by subst hwb; simp only [mA_A, mL_A, mP_A, mA_L, mL_L, mP_L, upd_at]; simp
        have ob : oth1 σ wb := by subst hwb; exact oa.set (Or.inl rfl)
        unfold F_X12_read_54
        generalize hw2 : setA wb 3 0 0 (upd (mA wb 3 0 0) 0 0) = w2
        have g2 : Fr [(3, 0, 0)] wb w2 := by subst hw2; exact Fr_r.A rfl
        have G : Fr [(3, 0, 0), (3, 0, 8), (3, 0, 9)] φ w2 := ((ga.sub rfl).trans (gb.sub rfl)).trans (g2.sub rfl)
        refine hk w2 ⟨by subst hw2; simp only [mA_A, mL_A, mP_A, mA_L, mL_L, mP_L, upd_at]; simp, by subst hw2; exact ob.set (Or.inl rfl), by rw [G.row (t := 3) (k := 38) 0 rfl]; exact d2, ?_⟩
        rw [hr]
        refine ⟨hX, hY, ⟨c, l, p, hcp, hlp, hK.2.2.1, hR.fr G⟩, ?_⟩
        rw [hb]
        refine ⟨?_, ?_⟩
        · rw [g2.fld (t := 3) (k := 0) (f := 8) 0 rfl, gb.fld (t := 3) (k := 0) (f := 8) 0 rfl]; exact a8
        · rw [g2.fld (t := 3) (k := 0) (f := 9) 0 rfl]; exact b9
  unfold F_X12_read_4 F_X12_read_9 F_X12_read_14
  refine key _ (((Fr_r.A rfl).A rfl).A rfl) (((o1.set (Or.inl rfl)).set (Or.inl rfl)).set (Or.inl rfl)) ?_ ?_ ?_ <;> (simp only [mA_A, mL_A, mP_A, mA_L, mL_L, mP_L, upd_at]; simp)
