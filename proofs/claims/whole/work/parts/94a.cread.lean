/-! the class reads: all of it -/
def emX : Xt := ([], [], [], [], [], 2, [], none)
def emC (i : Nat) (σ : Mm) : Prop := mA σ 1 i 0 0 = 2 ∧ mA σ 1 i 0 1 = 0 ∧ mA σ 1 i 0 6 = 0 ∧ mA σ 1 i 0 8 = 0 ∧ mA σ 1 i 0 12 = 0 ∧ mA σ 1 i 0 14 = 0 ∧ (∀ a, a < 14 → mA σ 1 i 5 a = 0) ∧ mA σ 1 i 10 0 = 0
theorem fill_df {i : Nat} {σ : Mm} : ∀ (m d : Nat) (τ : Mm), 14 - d < m → d ≤ 14 → (∀ e, e < d → mA τ 1 i 5 e = 0) → FI i σ τ → Ok (F_J7_fill_53178_df_5 m i 0 (nI d) 14 τ) (fun υ => (∀ e, e < 14 → mA υ 1 i 5 e = 0) ∧ FI i σ υ) := by
  intro m
  induction m with
  | zero => intro d τ h; omega
  | succ m ih =>
    intro d τ hm hd hq hF
    change Ok (B_J7_fill_53178_df_5 (F_J7_fill_53178_df_5 m) _ _ _ _ _) _
    unfold B_J7_fill_53178_df_5
    by_cases hc : 14 ≤ d
    · have e : d = 14 := by omega
      subst e
      exact Ok_t (by decide) (Ok_r ⟨hq, hF⟩)
    have hck : (nI d).toNatClampNeg = d := nI_clamp (by omega)
    have i14 : inb (nI d) 14 = true := by
      have : d < 14 := by omega
      clear ih hq hF; grind [gI, gB, gC]
    refine Ok_f (show ¬ (14 : Int32) ≤ nI d from nI_ge (b := 14) (by omega) (by decide)) (Ok_t i14 ?_)
    unfold F_J7_fill_53178_df_14
    rw [hck, nI_1]
    refine ih (d + 1) _ (by omega) (by omega) (fun e he => ?_) (hF.A1 rfl)
    rw [mA_A, if_pos ⟨rfl, rfl, rfl⟩, upd_at]
    by_cases h : e = d
    · rw [if_pos h]
    · rw [if_neg h]; exact hq e (by omega)
theorem s_forgetX {i : Nat} {σ : Mm} : Ok (F_X9_forget i σ) (fun τ => emC i τ ∧ FI i σ τ) := by
  have key : ∀ w, FI i σ w → mA w 1 i 0 0 = 2 → mA w 1 i 0 1 = 0 → mA w 1 i 0 6 = 0 → mA w 1 i 0 8 = 0 → mA w 1 i 0 12 = 0 → mA w 1 i 0 14 = 0 → Ok (F_X9_forget_30 i w) (fun τ => emC i τ ∧ FI i σ τ) := by
    intro w hF a0 a1 a6 a8 a12 a14
    unfold F_X9_forget_30
    have hf : Ok (F_J7_fill_53178_df i 0 w) (fun υ => (∀ e, e < 14 → mA υ 1 i 5 e = 0) ∧ FI i σ υ) := by
      unfold F_J7_fill_53178_df
      exact fill_df FU 0 w (by show _ < 1000000; omega) (by omega) (fun e he => absurd he (by omega)) hF
    refine Ok_V (hf.frV fr_J7_fill_53178_df) (fun τ hτ => ?_)
    obtain ⟨⟨h5, hF2⟩, f⟩ := hτ
    have f : Fr [(1, 5, 999)] w τ := f
    unfold F_X9_forget_38 F_X0_forget
    rw [bnv_s]
    have r0 : mA τ 1 i 0 = mA w 1 i 0 := f.row (t := 1) (k := 0) i rfl
    have g : Fr [(1, 10, 0)] τ (setA τ 1 i 10 (upd (mA τ 1 i 10) 0 0)) := Fr_r.A rfl
    refine Ok_r ⟨⟨?_, ?_, ?_, ?_, ?_, ?_, ?_, ?_⟩, hF2.A1 rfl⟩
    · rw [g.row (t := 1) (k := 0) i rfl, r0]; exact a0
    · rw [g.row (t := 1) (k := 0) i rfl, r0]; exact a1
    · rw [g.row (t := 1) (k := 0) i rfl, r0]; exact a6
    · rw [g.row (t := 1) (k := 0) i rfl, r0]; exact a8
    · rw [g.row (t := 1) (k := 0) i rfl, r0]; exact a12
    · rw [g.row (t := 1) (k := 0) i rfl, r0]; exact a14
    · rw [g.row (t := 1) (k := 5) i rfl]; exact h5
    · simp only [mA_A, mL_A, mP_A, mA_L, mL_L, mP_L, upd_at]; simp
  unfold F_X9_forget F_X9_forget_5 F_X9_forget_10 F_X9_forget_15 F_X9_forget_20 F_X9_forget_25
  refine key _ ((((((FI_r.A1 rfl).A1 rfl).A1 rfl).A1 rfl).A1 rfl).A1 rfl) ?_ ?_ ?_ ?_ ?_ ?_ <;> (simp only [mA_A, mL_A, mP_A, mA_L, mL_L, mP_L, upd_at]; simp)
theorem okX_em {T : Tk} : okX T emX := ⟨by decide, by decide, by decide, by decide, by decide, fun y => rfl⟩
theorem s_tellAll {T : Tk} {i : Nat} {σ : Mm} (hA : AM T i (setP σ 2 i)) (hM : emC i σ) : Ok (F_X5_tellAll i σ) (oTx T i (setP σ 2 i) (tTx T XF emX 0)) := by
  unfold F_X5_tellAll F_X5_tellAll_5 F_X5_tellAll_10 F_X5_tellAll_15 F_X5_tellAll_20 F_X5_tellAll_25 F_X5_tellAll_30
  have key : ∀ w, FI i (setP σ 2 i) w → Fr [(0, 12, 4), (0, 12, 0), (0, 12, 1), (0, 12, 5), (0, 12, 6)] (setP σ 2 i) w → mA w 0 0 12 4 = 0 → mA w 0 0 12 0 = 0 → mA w 0 0 12 5 = 0 → mA w 0 0 12 6 = -1 → Ok (F_X5_tellAll_32 FU 0 w) (oTx T i (setP σ 2 i) (tTx T XF emX 0)) := by
    intro w hF f a4 a0 a5 a6
    obtain ⟨m0, m1, m2, m3, m4, m5, m6, m7⟩ := hM
    refine s_texts hA FU XF 0 0 emX w rfl (by show _ < 1000000; omega) (by show 500 ≤ 500 + _; omega) (Nat.le_refl _) okX_em ⟨0, Nat.le_refl _, ⟨hF, a0, a4, by omega, gTk_0⟩, ⟨?_, ?_, ?_, ?_, ?_, ?_, ⟨a5, a6⟩, ?_⟩⟩
    · unfold cNm
      rw [f.row (t := 1) (k := 0) i rfl]
      exact ⟨m0, m1, m2, m3, m4, m5⟩
    · intro t x hx; cases hx
    · intro a b ha hb
      rw [f.row (t := 1) (k := 5) i rfl]
      have : mA (setP σ 2 i) 1 i 5 a = 0 := m6 a ha
      rw [this, bt_0]
      exact ⟨fun z => (by cases z), fun z => (by cases z)⟩
    · intro t x hx; cases hx
    · intro t x hx; cases hx
    · intro t x hx; cases hx
    · rw [f.row (t := 1) (k := 10) i rfl]; exact m7
  refine key _ (((((FI_r.A0 rfl).A0 rfl).A0 rfl).A0 rfl).A0 rfl) (((((Fr_r.A rfl).A rfl).A rfl).A rfl).A rfl) ?_ ?_ ?_ ?_ <;> (simp only [mA_A, mL_A, mP_A, mA_L, mL_L, mP_L, upd_at]; simp)
/-- what the class's reading leaves -/
def oRC (T : Tk) (i : Nat) (σ : Mm) (q : Int32 × Mm) : Prop := q.1 = mA q.2 0 0 12 0 ∧ mA q.2 0 0 6 0 = 0 ∧ mP q.2 2 = i ∧ (∀ i' k, i' ≠ i → mA q.2 1 i' k = mA σ 1 i' k) ∧ (∀ i' k, i' ≠ 0 → mA q.2 2 i' k = mA σ 2 i' k) ∧ match tTx T XF emX 0 with
  | .error e => (e.1 = 1 ∨ e.1 = 2) ∧ q.1 = nI e.1 ∧ mA q.2 0 0 12 1 = nI (tP T e.2) ∧ mP q.2 0 = mP σ 0 ∧ mP q.2 1 = i ∧ ∀ k, mA q.2 2 0 k = mA σ 2 0 k
  | .ok X => okX T X ∧ (∃ u, u ≤ 400 ∧ CR T i u X q.2) ∧ q.1 = mA q.2 0 0 12 5 ∧ mA q.2 0 0 12 1 = mA q.2 0 0 12 6 ∧ match qB X with
    | none => mP q.2 0 = i ∧ mP q.2 1 = mP σ 0 ∧ mA q.2 2 0 0 0 = 0 ∧ mA q.2 2 0 0 1 = 0
    | some _ => mP q.2 0 = mP σ 0 ∧ mP q.2 1 = i ∧ ∀ k, mA q.2 2 0 k = mA σ 2 0 k
theorem s_readC {b : Nat} {y : Nat → Nat} {σ : Mm} (h : CL b y σ) (hP : IvP σ) : Ok (F_X11_read σ) (oRC (tT b y) (mP σ 1) σ) := by
  have hT : TW (tT b y) := TW_tT h.1 h.2.1
  generalize hTT : tT b y = T at hT
  have ok2 : ∀ τ : Mm, mP τ 0 < 2 → mP τ 1 < 2 → mP τ 2 < 2 → okP τ = true := by
    intro τ h0 h1 h2
    unfold okP
    simp only [Bool.and_eq_true, Nat.blt_eq]
    exact ⟨h0, h1, h2⟩
  obtain ⟨p0, p1, p01, p2, -⟩ := hP
  generalize hi : mP σ 1 = i at *
  unfold F_X11_read
  have hcut := (s_cut h).frV fr_X8_cut
  rw [hTT] at hcut
  refine Ok_V hcut (fun τ hτ => ?_)
  obtain ⟨hTC, f1⟩ := hτ
  have f1 : Fr W_X8_cut σ τ := f1
  unfold F_X11_read_7
  have key : ∀ w, Fr [(0, 6, 0)] τ w → mA w 0 0 6 0 = 0 → Ok (F_X11_read_15 w) (oRC T i σ) := by
    intro w f2 hw
    have q : ∀ n, mP w n = mP σ n := fun n => (f2.p (by rfl)).trans (f1.p (by rfl))
    unfold F_X11_read_15
    rw [q, hi]
    refine Ok_t (ok2 w (by rw [q]; exact p0) (by rw [q, hi]; exact p1) (by rw [q]; exact p2)) ?_
    refine Ok_V s_forgetX (fun υ hυ => ?_)
    obtain ⟨hM, hF⟩ := hυ
    have q2 : ∀ n, mP υ n = mP σ n := fun n => (hF.1.p (by rfl)).trans (q n)
    unfold F_X11_read_22
    rw [q2, hi]
    refine Ok_t (ok2 υ (by rw [q2]; exact p0) (by rw [q2, hi]; exact p1) (by rw [q2]; exact p2)) ?_
    have hA : AM T i (setP υ 2 i) := by
      refine ⟨hT, rfl, ok2 _ (by show mP υ 0 < 2; rw [q2]; exact p0) (by show mP υ 1 < 2; rw [q2, hi]; exact p1) p1, fun j hj hg => ?_⟩
      have e8 : mA (setP υ 2 i) 0 0 8 = mA τ 0 0 8 := (hF.1.row (t := 0) (k := 8) 0 rfl).trans (f2.row (t := 0) (k := 8) 0 rfl)
      have e9 : mA (setP υ 2 i) 0 0 9 = mA τ 0 0 9 := (hF.1.row (t := 0) (k := 9) 0 rfl).trans (f2.row (t := 0) (k := 9) 0 rfl)
      have e10 : mA (setP υ 2 i) 0 0 10 = mA τ 0 0 10 := (hF.1.row (t := 0) (k := 10) 0 rfl).trans (f2.row (t := 0) (k := 10) 0 rfl)
      have e11 : mL (setP υ 2 i) 0 0 11 = mL τ 0 0 11 := (hF.1.rowL (t := 0) (k := 11) 0 rfl).trans (f2.rowL (t := 0) (k := 11) 0 rfl)
      rw [e8, e9, e10, e11]
      exact hTC j hj hg
    refine Ok_V (s_tellAll hA hM) (fun φ hφ => ?_)
    -- what holds of φ in each case
    have common : FI i (setP υ 2 i) φ → mA φ 0 0 6 0 = 0 ∧ (mP φ 0 = mP σ 0 ∧ mP φ 1 = i ∧ mP φ 2 = i) ∧ (∀ i' k, i' ≠ i → mA φ 1 i' k = mA σ 1 i' k) ∧ ∀ i' k, mA φ 2 i' k = mA σ 2 i' k := by
      intro hI
      refine ⟨?_, ⟨?_, ?_, ?_⟩, fun i' k hi' => ?_, fun i' k => ?_⟩
      · rw [hI.1.fld (t := 0) (k := 6) (f := 0) 0 rfl]
        show mA υ 0 0 6 0 = 0
        rw [hF.1.fld (t := 0) (k := 6) (f := 0) 0 rfl]; exact hw
      · rw [hI.1.p (by rfl)]; exact q2 0
      · rw [hI.1.p (by rfl)]; exact (q2 1).trans hi
      · rw [hI.1.p (by rfl)]; rfl
      · rw [hI.2 i' k hi']
        show mA υ 1 i' k = _
        rw [hF.2 i' k hi', f2.row (t := 1) (k := k) i' rfl, f1.row (t := 1) (k := k) i' rfl]
      · rw [hI.1.row (t := 2) (k := k) i' rfl]
        show mA υ 2 i' k = _
        rw [hF.1.row (t := 2) (k := k) i' rfl, f2.row (t := 2) (k := k) i' rfl, f1.row (t := 2) (k := k) i' rfl]
    unfold F_X11_read_33 F_X11_read_68
    cases hr : tTx T XF emX 0 with
    | error e =>
      rw [hr] at hφ
      have hφ : CF T i (setP υ 2 i) e φ := hφ
      obtain ⟨c1, ⟨c2, c3, c4⟩, c5, c6⟩ := common hφ.1
      refine Ok_f hφ.ne (Ok_r ⟨rfl, c1, c4, c5, fun i' k _ => c6 i' k, ?_⟩)
      rw [hr]
      exact ⟨hφ.2.1, hφ.2.2.1, hφ.2.2.2.1, c2, c3, fun k => c6 0 k⟩
    | ok X =>
      rw [hr] at hφ
      obtain ⟨hX, u, hu, hI, hC, g0, g1⟩ := hφ
      obtain ⟨c1, ⟨c2, c3, c4⟩, c5, c6⟩ := common hI
      have hB := hC.2.2.2.2.2.2.1
      cases hb : qB X with
      | some e =>
        rw [hb] at hB
        have hB : mA φ 0 0 12 5 = nI e.1 ∧ mA φ 0 0 12 6 = nI (tP T e.2) ∧ 1 ≤ e.1 ∧ e.1 ≤ 5 := hB
        have ne : ¬ mA φ 0 0 12 0 = 0 := by rw [g0, hB.1]; exact nI_ne0 hB.2.2.1 (by have := hB.2.2.2; omega)
        refine Ok_f ne (Ok_r ⟨rfl, c1, c4, c5, fun i' k _ => c6 i' k, ?_⟩)
        rw [hr]
        refine ⟨hX, ⟨u, hu, hC⟩, g0, g1, ?_⟩
        rw [hb]
        exact ⟨c2, c3, fun k => c6 0 k⟩
      | none =>
        rw [hb] at hB
        have hB : mA φ 0 0 12 5 = 0 ∧ mA φ 0 0 12 6 = -1 := hB
        refine Ok_t (by rw [g0]; exact hB.1) ?_
        rw [c2, c3]
        refine Ok_t (ok2 φ (by rw [c2]; exact p0) (by rw [c3]; exact p1) (by rw [c4]; exact p1)) ?_
        unfold F_X11_read_56 F_X11_read_61 F_X7_forget F_X7_forget_5 F_X11_read_68
        rw [bnv_s]
        have kk : ∀ z : Mm, Fr [(2, 0, 0), (2, 0, 1)] (setP (setP φ 0 i) 1 (mP σ 0)) z → (∀ i' k, i' ≠ 0 → mA z 2 i' k = mA φ 2 i' k) → mA z 2 0 0 0 = 0 → mA z 2 0 0 1 = 0 → Ok (some (mA z 0 0 12 0, z)) (oRC T i σ) := by
          intro z f3 h2 h20 h21
          have fz : ∀ f, mA z 0 0 12 f = mA φ 0 0 12 f := fun f => f3.fld (t := 0) (k := 12) (f := f) 0 rfl
          have hCz : CR T i u X z := by
            have hC' : CR T i u X (setP (setP φ 0 i) 1 (mP σ 0)) := hC
            obtain ⟨n1, n2, n3, n4, n5, n6, n7, n8⟩ := hC'
            exact ⟨n1.fr f3 rfl, n2.fr f3 rfl, n3.fr f3 rfl, n4.fr f3 rfl, n5.fr f3 rfl, n6.fr f3 rfl, n7.fr f3 rfl, by rw [f3.row (t := 1) (k := 10) i rfl]; exact n8⟩
          refine Ok_r ⟨rfl, ?_, ?_, fun i' k hi' => ?_, fun i' k hi' => ?_, ?_⟩
          · rw [f3.fld (t := 0) (k := 6) (f := 0) 0 rfl]; exact c1
          · rw [f3.p (by rfl)]; exact c4
          · rw [f3.row (t := 1) (k := k) i' rfl]; exact c5 i' k hi'
          · rw [h2 i' k hi']; exact c6 i' k
          · rw [hr]
            refine ⟨hX, ⟨u, hu, hCz⟩, ?_, ?_, ?_⟩
            · show mA z 0 0 12 0 = mA z 0 0 12 5
              rw [fz, fz]; exact g0
            · show mA z 0 0 12 1 = mA z 0 0 12 6
              rw [fz, fz]; exact g1
            · rw [hb]
              refine ⟨?_, ?_, h20, h21⟩
              · rw [f3.p (by rfl)]; rfl
              · rw [f3.p (by rfl)]; rfl
        refine kk _ ((Fr_r.A rfl).A rfl) (fun i' k hi' => ?_) ?_ ?_
        · rw [mA_R, if_neg (fun z => hi' z.2.1), mA_R, if_neg (fun z => hi' z.2.1)]
        · simp only [mA_A, mL_A, mP_A, mA_L, mL_L, mP_L, upd_at]; simp
        · simp only [mA_A, mL_A, mP_A, mA_L, mL_L, mP_L, upd_at]; simp
  exact key _ (Fr_r.A rfl) (by simp only [mA_A, mL_A, mP_A, mA_L, mL_L, mP_L, upd_at]; simp)
