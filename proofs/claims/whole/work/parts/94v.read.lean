/-! read: both sides -/
theorem byte_n (x : Int32) : x &&& 255 = nI (255 &&& x.toBitVec.toNat) ∧ (255 &&& x.toBitVec.toNat) < 256 := by
  refine ⟨?_, Nat.lt_succ_of_le Nat.and_le_left⟩
  rw [Int32.and_comm]
  exact nI_andB (m := 255) (by omega) x
theorem oth_b {j : Nat} {σ τ : Mm} (h : oth1 σ τ) {D : DD} (hW : WF D) (hM : RM σ (2 + j) D) : RM τ (2 + j) D := RM_keep hW hM (by omega) h
theorem p_read {h : Nat → Bool} {σ : Mm} (hI : Iv h σ) : ∃ (r : Int32) (σ1 : Mm) (σ2 : Mm), F_X11_read σ = some (r, σ1) ∧ F_X12_read σ1 = some (r, σ2) ∧ Iv h σ2 := by
  obtain ⟨hP, hF, ⟨b, hb, t1, t2, t3⟩, hS, hH, D, hC, hM, hW⟩ := hI
  have hy : ∀ k, (255 &&& (mA σ 0 0 7 k).toBitVec.toNat) < 256 := fun k => (byte_n _).2
  have hcl : CL b (fun k => 255 &&& (mA σ 0 0 7 k).toBitVec.toNat) σ := ⟨hb, hy, t1, fun k _ => (byte_n _).1⟩
  have hmb : MB b (fun k => 255 &&& (mA σ 0 0 7 k).toBitVec.toNat) σ := ⟨hb, hy, t2, fun k hk => by rw [← t3 k hk]; exact (byte_n _).1⟩
  generalize (fun k => 255 &&& (mA σ 0 0 7 k).toBitVec.toNat) = y at hcl hmb
  obtain ⟨⟨r, σ1⟩, e1, ⟨q1, q2, q3, q4, q5, q6⟩, f1⟩ := (s_readC hcl hP).frI fr_X11_read
  have f1 : Fr W_X11_read σ σ1 := f1
  have hT : TW (tT b y) := TW_tT hcl.1 hcl.2.1
  have hmb1 : MB b y σ1 := hmb.fr f1 rfl
  have m31 : ∀ k, mA σ1 3 0 k = mA σ 3 0 k := fun k => funext fun f => f1.fld 0 (by rfl)
  dsimp only at q1 q2 q3 q4 q5 q6
  suffices hs : Ok (F_X12_read σ1) (fun q => q.1 = r ∧ (Fr W_X12_read σ1 q.2 → Iv h q.2)) by
    obtain ⟨⟨r2, σ2⟩, e2, ⟨z1, z2⟩, f2⟩ := hs.frI fr_X12_read
    dsimp only at z1 z2 f2
    subst z1
    exact ⟨_, σ1, σ2, e1, e2, z2 f2⟩
  have p1 : mP σ 1 < 2 := hP.2.1
  -- what stands however it ends
  have rest : ∀ τ, Fr W_X12_read σ1 τ → mP σ1 0 < 2 → mP σ1 1 < 2 → mP σ1 0 ≠ mP σ1 1 → mA σ1 0 0 12 1 = mA τ 3 0 0 9 → mA τ 3 0 0 0 = 0 → (∀ j D, j < 3 → WF D → RM σ1 (2 + j) D → RM τ (2 + j) D) → (∃ D, IvD τ (mP σ1 0) 0 0 D) → Iv h τ := by
    intro τ f a1 a2 a3 a4 a5 a6 a7
    have p : ∀ n, mP τ n = mP σ1 n := fun n => f.p (by rfl)
    refine ⟨?_, ?_, ⟨0, by omega, ?_, a5, fun k hk => absurd hk (by omega)⟩, ?_, ?_, ?_⟩
    · unfold IvP; rw [p, p, p, q3, f.row (t := 0) (k := 28) 0 rfl, f1.row (t := 0) (k := 28) 0 rfl]
      exact ⟨a1, a2, a3, p1, hP.2.2.2.2⟩
    · rw [f.fld (t := 0) (k := 12) (f := 1) 0 rfl]; exact a4
    · rw [f.fld (t := 0) (k := 6) (f := 0) 0 rfl]; exact q2
    · unfold IvS
      rw [f.fld (t := 0) (k := 0) (f := 12) 0 rfl, f.fld (t := 3) (k := 0) (f := 52) 0 rfl, f.row (t := 0) (k := 3) 0 rfl, f.row (t := 0) (k := 4) 0 rfl, f.row (t := 3) (k := 45) 0 rfl, f.row (t := 3) (k := 46) 0 rfl, f1.fld (t := 0) (k := 0) (f := 12) 0 rfl, f1.fld (t := 3) (k := 0) (f := 52) 0 rfl, f1.row (t := 0) (k := 3) 0 rfl, f1.row (t := 0) (k := 4) 0 rfl, f1.row (t := 3) (k := 45) 0 rfl, f1.row (t := 3) (k := 46) 0 rfl]
      exact hS
    · intro j hj
      rw [f.row (t := 3) (k := 6) 0 rfl, m31]
      refine ⟨(hH j hj).1, fun e => ?_⟩
      obtain ⟨E, hE1, hE2, hE3⟩ := (hH j hj).2 e
      refine ⟨E, RC_keep hE1 (fun k => ?_) (fun k => ?_), a6 j E hj hE3 (RM.cong hE3 hE2 fun k x hx => by rw [m31]), hE3⟩
      · rw [f.row (t := 1) (2 + j) rfl]; exact q4 _ _ (by omega)
      · rw [f.row (t := 2) (1 + j) rfl]; exact q5 _ _ (by omega)
    · rw [p]; exact a7
  have old : ∀ τ, Fr W_X12_read σ1 τ → oth1 σ1 τ → (∀ k, mA σ1 2 0 k = mA σ 2 0 k) → IvD τ (mP σ 0) 0 0 D := by
    intro τ f o s
    refine ⟨RC_keep hC (fun k => ?_) (fun k => ?_), RM_keep hW (RM.cong hW hM fun k x hx => by rw [m31]) (by omega) o, hW⟩
    · rw [f.row (t := 1) (mP σ 0) rfl]; exact q4 _ _ hP.2.2.1
    · rw [f.row (t := 2) 0 rfl]; exact s k
  refine s_readM hmb1 (fun τ hτ => ?_)
  obtain ⟨m1, m2, m3, m4⟩ := hτ
  cases ht : tTx (tT b y) XF emX 0 with
  | error e =>
    rw [ht] at q6 m4
    dsimp only at q6 m4
    obtain ⟨c1, c2, c3, c4, c5, c6⟩ := q6
    obtain ⟨d1, d2, d3⟩ := m4
    have h8 : ¬ mA τ 3 0 0 8 = 0 := by rw [d2]; rcases d1 with z | z <;> rw [z] <;> decide
    refine (s_59F h8).mono (fun q hq => ?_)
    subst hq
    refine ⟨by dsimp only; rw [d2, c2], fun f => ?_⟩
    dsimp only at f ⊢
    refine rest τ f (by rw [c4]; exact hP.1) (by rw [c5]; exact p1) (by rw [c4, c5]; exact hP.2.2.1) (by rw [c3, d3]) m1 (fun j E _ w m => oth_b m2 w m) ⟨D, ?_⟩
    rw [c4]; exact old τ f m2 c6
  | ok X =>
    rw [ht] at q6 m4
    dsimp only at q6 m4
    obtain ⟨c1, ⟨u, hu, c2⟩, c3, c4, c5⟩ := q6
    obtain ⟨d1, d2, ⟨c, l, p, l1, l2, l3, d3⟩, d4⟩ := m4
    have hcb : cBl (tT b y) σ1 (qB X) := c2.2.2.2.2.2.2.1
    cases hB : qB X with
    | some e =>
      rw [hB] at c5 d4 hcb
      dsimp only at c5 d4 hcb
      obtain ⟨c6, c7, c8⟩ := c5
      obtain ⟨d5, d6⟩ := d4
      obtain ⟨b1, b2, b3, b4⟩ := hcb
      have h8 : ¬ mA τ 3 0 0 8 = 0 := by rw [d5]; have z : e.1 = 1 ∨ e.1 = 2 ∨ e.1 = 3 ∨ e.1 = 4 ∨ e.1 = 5 := by omega
                                         rcases z with z | z | z | z | z <;> rw [z] <;> decide
      refine (s_59F h8).mono (fun q hq => ?_)
      subst hq
      refine ⟨by dsimp only; rw [d5, c3, b1], fun f => ?_⟩
      dsimp only at f ⊢
      refine rest τ f (by rw [c6]; exact hP.1) (by rw [c7]; exact p1) (by rw [c6, c7]; exact hP.2.2.1) (by rw [c4, b2, d6]) m1 (fun j E _ w m => oth_b m2 w m) ⟨D, ?_⟩
      rw [c6]; exact old τ f m2 c8
    | none =>
      rw [hB] at c5 d4 hcb
      dsimp only at c5 d4 hcb
      obtain ⟨c6, c7, c8, c9⟩ := c5
      obtain ⟨d5, d6⟩ := d4
      obtain ⟨b1, b2⟩ := hcb
      have hOW : okW (tT b y) X := tTx_okW hT XF 0 emX X okX_em okW_em (by omega) gTk_0 ht
      have hWX : WF (dXt (tT b y) X) := WF_X hT c1 hOW hB
      have hMX : RM τ 1 (dXt (tT b y) X) := RM_X hOW c1 hB (by omega) (by omega) d3 m3
      refine (s_59 hWX hMX d5).mono (fun q hq => ?_)
      obtain ⟨g1, g2, g3, g4⟩ := hq
      refine ⟨by rw [g1, c3, b1], fun f => ?_⟩
      refine rest q.2 f (by rw [c6]; exact p1) (by rw [c7]; exact hP.1) (by rw [c6, c7]; exact Ne.symm hP.2.2.1) (by rw [g3, c4, b2, d6]) (by rw [g3]; exact m1) (fun j E _ w m => RM_keep0 w (oth_b m2 w m) (by omega) g4) ⟨dXt (tT b y) X, ?_, g2, hWX⟩
      rw [c6]
      refine RC_keep (RC_X hOW c1 hB hu c2 c8 c9) (fun k => ?_) (fun k => ?_)
      · rw [f.row (t := 1) (mP σ 1) rfl]
      · rw [f.row (t := 2) 0 rfl]
