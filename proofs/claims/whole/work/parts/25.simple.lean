/-! the tape, sites, counts -/
theorem okP_of {σ : Mm} (h : IvP σ) : okP σ = true := by
  unfold okP
  simp only [Bool.and_eq_true, Nat.blt_eq]
  exact ⟨h.1, h.2.1, h.2.2.2.1⟩
/-- a question that changes nothing that is kept -/
theorem q_call {h : Nat → Bool} {σ : Mm} {W W' : List (Nat × Nat × Nat)} {f : Option (Int32 × Mm)} {g : Mm → Option (Int32 × Mm)} (hI : Iv h σ) (hf : FoI W σ f) (s1 : sbW W WQ = true) (r : Int32) (o1 : Ok f (fun q => q.1 = r))
    (hg : ∀ σ1, FoI W' σ1 (g σ1)) (s2 : sbW W' WQ = true) (o2 : ∀ σ1, Fr W σ σ1 → Ok (g σ1) (fun q => q.1 = r)) : ∃ (r : Int32) (σ1 σ2 : Mm), f = some (r, σ1) ∧ g σ1 = some (r, σ2) ∧ Iv h σ2 := by
  obtain ⟨⟨v, σ1⟩, e1, rfl⟩ := o1
  have f1 := hf _ e1
  obtain ⟨⟨w, σ2⟩, e2, e3⟩ := o2 σ1 f1
  have f2 := hg σ1 _ e2
  subst e3
  exact ⟨_, σ1, σ2, e1, e2, (hI.fr (f1.sub s1)).fr (f2.sub s2)⟩
theorem q_callL {h : Nat → Bool} {σ : Mm} {W W' : List (Nat × Nat × Nat)} {f : Option (Int64 × Mm)} {g : Mm → Option (Int64 × Mm)} (hI : Iv h σ) (hf : FoL W σ f) (s1 : sbW W WQ = true) (r : Int64) (o1 : Ok f (fun q => q.1 = r))
    (hg : ∀ σ1, FoL W' σ1 (g σ1)) (s2 : sbW W' WQ = true) (o2 : ∀ σ1, Fr W σ σ1 → Ok (g σ1) (fun q => q.1 = r)) : ∃ (r : Int64) (σ1 σ2 : Mm), f = some (r, σ1) ∧ g σ1 = some (r, σ2) ∧ Iv h σ2 := by
  obtain ⟨⟨v, σ1⟩, e1, rfl⟩ := o1
  have f1 := hf _ e1
  obtain ⟨⟨w, σ2⟩, e2, e3⟩ := o2 σ1 f1
  have f2 := hg σ1 _ e2
  subst e3
  exact ⟨_, σ1, σ2, e1, e2, (hI.fr (f1.sub s1)).fr (f2.sub s2)⟩
theorem p_place {h : Nat → Bool} {σ : Mm} (hI : Iv h σ) : ∃ (r : Int32), f_X11_place σ = r ∧ okP σ = true ∧ f_X12_place σ = r ∧ okP σ = true ∧ Iv h σ :=
  ⟨_, rfl, okP_of hI.1, hI.2.1.symm, okP_of hI.1, hI⟩
theorem l_typed {x : Int32} {b : Nat} (σ0 : Mm) (hb : b + 4 ≤ 2000) : ∀ (n : Nat) (j : Nat) (σ : Mm), 4 - j < n → j ≤ 4 → mA σ 3 0 0 0 = nI (b + j) → (∀ k, k < b → mA σ 3 0 1 k = mA σ0 3 0 1 k) → (∀ i, i < j → mA σ 3 0 1 (b + i) = (x >>> ((24 - 8 * nI i) &&& 31)) &&& 255) →
    Ok (F_X12_typed_2 n x (nI j) σ) (fun τ => mA τ 3 0 0 0 = nI (b + 4) ∧ (∀ k, k < b → mA τ 3 0 1 k = mA σ0 3 0 1 k) ∧ ∀ j, j < 4 → mA τ 3 0 1 (b + j) = (x >>> ((24 - 8 * nI j) &&& 31)) &&& 255) := by
  intro n
  induction n with
  | zero => intro j σ hn; omega
  | succ n ih =>
    intro j σ hn hj h1 h2 h3
    change Ok (B_X12_typed_2 (F_X12_typed_2 n) _ _ _) _
    unfold B_X12_typed_2
    refine Ok_s (fun q => Ok_r ?_) (fun q => (Ok_t (by clear ih; grind [gI, gB, gC]) ?_))
    · have e : j = 4 := by clear ih; grind [gI, gC]
      subst e
      exact ⟨h1, h2, h3⟩
    · unfold F_X12_typed_29 F_X12_typed_39
      have e : nI j + 1 = nI (j + 1) := (nI_succ j).symm
      have e2 : j < 4 := by clear ih; grind [gI, gC]
      have c : (mA σ 3 0 0 0).toNatClampNeg = b + j := by rw [h1]; exact nI_clamp (by omega)
      rw [e, c]
      refine ih (j + 1) _ (by omega) (by omega) ?_ ?_ ?_
      · simp only [mA_A, mL_A, mP_A, mA_L, mL_L, mP_L, upd_at]
        simp
        clear ih; grind [gI, gC]
      · intro k hk
        simp only [mA_A, mL_A, mP_A, mA_L, mL_L, mP_L, upd_at]
        simp
        rw [if_neg (by omega)]
        exact h2 k hk
      · intro i hi
        simp only [mA_A, mL_A, mP_A, mA_L, mL_L, mP_L, upd_at]
        simp
        by_cases hj2 : i = j
        · subst hj2; rw [if_pos rfl]
        · rw [if_neg (by omega)]; exact h3 i (by omega)
theorem s_typed {x : Int32} {σ : Mm} {b : Nat} (h : mA σ 3 0 0 0 = nI b) (hb : b + 4 ≤ 2000) :
    Ok (F_X12_typed x σ) (fun τ => mA τ 3 0 0 0 = nI (b + 4) ∧ (∀ k, k < b → mA τ 3 0 1 k = mA σ 3 0 1 k) ∧ ∀ j, j < 4 → mA τ 3 0 1 (b + j) = (x >>> ((24 - 8 * nI j) &&& 31)) &&& 255) :=
  l_typed σ hb FU 0 σ (by decide) (by omega) h (fun _ _ => rfl) (fun j hj => absurd hj (by omega))
/-- q ints typed behind b bytes -/
def TyC (xs : Nat → Int32) (σ0 : Mm) (b q : Nat) (τ : Mm) : Prop := mA τ 0 0 6 0 = nI (b + 4 * q) ∧ (∀ k, k < b → mA τ 0 0 7 k = mA σ0 0 0 7 k) ∧ ∀ p j, p < q → j < 4 → mA τ 0 0 7 (b + 4 * p + j) &&& 255 = (xs p >>> ((24 - 8 * nI j) &&& 31)) &&& 255
def TyM (xs : Nat → Int32) (σ0 : Mm) (b q : Nat) (τ : Mm) : Prop := mA τ 3 0 0 0 = nI (b + 4 * q) ∧ (∀ k, k < b → mA τ 3 0 1 k = mA σ0 3 0 1 k) ∧ ∀ p j, p < q → j < 4 → mA τ 3 0 1 (b + 4 * p + j) = (xs p >>> ((24 - 8 * nI j) &&& 31)) &&& 255
theorem TyC_s {xs : Nat → Int32} {σ0 σ : Mm} {b q : Nat} {x : Int32} (h : TyC xs σ0 b q σ) (hx : x = xs q) (hb : b + 4 * q + 4 ≤ 2000) : Ok (F_X8_append x σ) (TyC xs σ0 b (q + 1)) := by
  refine (s_append h.1 hb).mono fun τ ht => ⟨ht.1, fun k hk => (ht.2.1 k (by omega)).trans (h.2.1 k hk), fun p j hp hj => ?_⟩
  by_cases hpq : p = q
  · subst hpq; rw [ht.2.2 j hj, hx]
  · rw [ht.2.1 _ (by omega)]; exact h.2.2 p j (by omega) hj
theorem TyM_s {xs : Nat → Int32} {σ0 σ : Mm} {b q : Nat} {x : Int32} (h : TyM xs σ0 b q σ) (hx : x = xs q) (hb : b + 4 * q + 4 ≤ 2000) : Ok (F_X12_typed x σ) (TyM xs σ0 b (q + 1)) := by
  refine (s_typed h.1 hb).mono fun τ ht => ⟨ht.1, fun k hk => (ht.2.1 k (by omega)).trans (h.2.1 k hk), fun p j hp hj => ?_⟩
  by_cases hpq : p = q
  · subst hpq; rw [ht.2.2 j hj, hx]
  · rw [ht.2.1 _ (by omega)]; exact h.2.2 p j (by omega) hj
theorem s_feedC {a1 a2 a3 a4 a5 : Int32} {σ : Mm} {b : Nat} (h : mA σ 0 0 6 0 = nI b) (hb : b + 20 ≤ 2000) : Ok (F_X11_feed a1 a2 a3 a4 a5 σ) (fun r => r.1 = nI (b + 20) ∧ TyC (fun q => if q = 0 then a1 else if q = 1 then a2 else if q = 2 then a3 else if q = 3 then a4 else a5) σ b 5 r.2) := by
  unfold F_X11_feed
  refine Ok_t (by grind [gI, gC]) ?_
  have h0 : TyC (fun q => if q = 0 then a1 else if q = 1 then a2 else if q = 2 then a3 else if q = 3 then a4 else a5) σ b 0 σ := ⟨h, fun _ _ => rfl, fun p j hp => absurd hp (by omega)⟩
  refine Ok_V (TyC_s h0 rfl (by omega)) (fun τ h1 => ?_)
  refine Ok_V (TyC_s h1 rfl (by omega)) (fun τ h2 => ?_)
  refine Ok_V (TyC_s h2 rfl (by omega)) (fun τ h3 => ?_)
  refine Ok_V (TyC_s h3 rfl (by omega)) (fun τ h4 => ?_)
  refine Ok_V (TyC_s h4 rfl (by omega)) (fun τ h5 => ?_)
  exact Ok_r ⟨h5.1, h5⟩
theorem s_feedM {a1 a2 a3 a4 a5 : Int32} {σ : Mm} {b : Nat} (h : mA σ 3 0 0 0 = nI b) (hb : b + 20 ≤ 2000) : Ok (F_X12_feed a1 a2 a3 a4 a5 σ) (fun r => r.1 = nI (b + 20) ∧ TyM (fun q => if q = 0 then a1 else if q = 1 then a2 else if q = 2 then a3 else if q = 3 then a4 else a5) σ b 5 r.2) := by
  unfold F_X12_feed
  refine Ok_t (by grind [gI, gC]) ?_
  have h0 : TyM (fun q => if q = 0 then a1 else if q = 1 then a2 else if q = 2 then a3 else if q = 3 then a4 else a5) σ b 0 σ := ⟨h, fun _ _ => rfl, fun p j hp => absurd hp (by omega)⟩
  refine Ok_V (TyM_s h0 rfl (by omega)) (fun τ h1 => ?_)
  refine Ok_V (TyM_s h1 rfl (by omega)) (fun τ h2 => ?_)
  refine Ok_V (TyM_s h2 rfl (by omega)) (fun τ h3 => ?_)
  refine Ok_V (TyM_s h3 rfl (by omega)) (fun τ h4 => ?_)
  refine Ok_V (TyM_s h4 rfl (by omega)) (fun τ h5 => ?_)
  exact Ok_r ⟨h5.1, h5⟩
/-- where the tape alone has changed -/
def WT : List (Nat × Nat × Nat) := [(0, 6, 0), (0, 7, 999), (3, 0, 0), (3, 1, 999)]
theorem RC.frT {W : List (Nat × Nat × Nat)} {σ τ : Mm} {i s : Nat} {D : DD} (h : RC σ i s D) (hf : Fr W σ τ) (hw : (W.all (fun q => !(Nat.beq q.1 1) && !(Nat.beq q.1 2))) = true) : RC τ i s D := by
  have n1 : ∀ k, noW W 1 k = true := fun k => List.all_eq_true.mpr fun q hq => by
    have := List.all_eq_true.mp hw q hq
    simp only [Bool.and_eq_true, Bool.not_eq_true'] at this
    rw [this.1]; rfl
  have n2 : ∀ k, noW W 2 k = true := fun k => List.all_eq_true.mpr fun q hq => by
    have := List.all_eq_true.mp hw q hq
    simp only [Bool.and_eq_true, Bool.not_eq_true'] at this
    rw [this.2]; rfl
  unfold RC RCn RCt RCd RCh RCs RCe RCc RCf segC at h ⊢
  simp only [hf.row i (n1 _), hf.row s (n2 _)]
  exact h
theorem RM.frT {W : List (Nat × Nat × Nat)} {σ τ : Mm} {b : Nat} {D : DD} (h : RM σ b D) (hW : WF D) (hf : Fr W σ τ) (hw : (W.all (fun q => !(Nat.beq q.1 3 && Nat.ble 7 q.2.1 && Nat.ble q.2.1 42))) = true) : RM τ b D := by
  refine h.cong hW fun k x hx => ?_
  have hk : 7 ≤ k ∧ k ≤ 42 := by
    unfold sz at hx
    repeat' split at hx
    all_goals omega
  have n3 : noW W 3 k = true := List.all_eq_true.mpr fun q hq => by
    have := List.all_eq_true.mp hw q hq
    simp only [Bool.not_eq_true', Bool.and_eq_false_iff] at this
    simp only [Bool.not_eq_true', Bool.and_eq_false_iff]
    rcases this with (h1 | h1) | h1
    · exact Or.inl h1
    · refine Or.inr ?_
      cases hq : Nat.beq q.2.1 k with
      | false => rfl
      | true => have := Nat.eq_of_beq_eq_true hq; rw [this] at h1; have : Nat.ble 7 k = true := Nat.ble_eq.mpr hk.1; rw [this] at h1; cases h1
    · refine Or.inr ?_
      cases hq : Nat.beq q.2.1 k with
      | false => rfl
      | true => have := Nat.eq_of_beq_eq_true hq; rw [this] at h1; have : Nat.ble k 42 = true := Nat.ble_eq.mpr hk.2; rw [this] at h1; cases h1
  rw [hf.row 0 n3]
theorem IvD.frT {W : List (Nat × Nat × Nat)} {σ τ : Mm} {i s b : Nat} {D : DD} (h : IvD σ i s b D) (hf : Fr W σ τ) (hw : (W.all (fun q => !(Nat.beq q.1 1) && !(Nat.beq q.1 2))) = true) (hw2 : (W.all (fun q => !(Nat.beq q.1 3 && Nat.ble 7 q.2.1 && Nat.ble q.2.1 42))) = true) : IvD τ i s b D :=
  ⟨h.1.frT hf hw, h.2.1.frT h.2.2 hf hw2, h.2.2⟩
/-- nothing but tape, sites, the last fault's place has changed -/
theorem Iv.frT {W : List (Nat × Nat × Nat)} {h : Nat → Bool} {σ τ : Mm} (hI : Iv h σ) (hf : Fr W σ τ) (hw : (W.all (fun q => !(Nat.beq q.1 1) && !(Nat.beq q.1 2))) = true) (hw2 : (W.all (fun q => !(Nat.beq q.1 3 && Nat.ble 7 q.2.1 && Nat.ble q.2.1 42))) = true) (h6 : noW W 3 6 = true) (h28 : noW W 0 28 = true) (hp : ∀ n, inW W 9 n 0 = false)
    (hF : mA τ 0 0 12 1 = mA τ 3 0 0 9) (hT : IvT τ) (hS : IvS τ) : Iv h τ := by
  obtain ⟨hP, -, -, -, hH, D, hD⟩ := hI
  have p : ∀ n, mP τ n = mP σ n := fun n => hf.p (hp n)
  refine ⟨?_, hF, hT, hS, ?_, D, ?_⟩
  · unfold IvP; rw [p, p, p, hf.row (t := 0) (k := 28) 0 h28]; exact hP
  · intro j hj
    rw [hf.row (t := 3) (k := 6) 0 h6]
    exact ⟨(hH j hj).1, fun e => by obtain ⟨E, hE⟩ := (hH j hj).2 e; exact ⟨E, hE.frT hf hw hw2⟩⟩
  · rw [p]; exact hD.frT hf hw hw2
theorem p_feed {h : Nat → Bool} {σ : Mm} (hI : Iv h σ) (a1 a2 a3 a4 a5 : Int32) : ∃ (r : Int32) (σ1 : Mm) (σ2 : Mm), F_X11_feed a1 a2 a3 a4 a5 σ = some (r, σ1) ∧ F_X12_feed a1 a2 a3 a4 a5 σ1 = some (r, σ2) ∧ Iv h σ2 := by
  obtain ⟨b, hb, hc, hm, hk⟩ := hI.2.2.1
  by_cases hr : b + 20 ≤ 2000
  · obtain ⟨⟨r, σ1⟩, e1, q1, t1⟩ := s_feedC (a1 := a1) (a2 := a2) (a3 := a3) (a4 := a4) (a5 := a5) hc hr
    have f1 := fr_X11_feed _ e1
    have hm1 : mA σ1 3 0 0 0 = nI b := (f1.fld 0 rfl).trans hm
    obtain ⟨⟨r2, σ2⟩, e2, q2, t2⟩ := s_feedM (a1 := a1) (a2 := a2) (a3 := a3) (a4 := a4) (a5 := a5) hm1 hr
    have f2 := fr_X12_feed _ e2
    simp only at q1 q2 t1 t2
    subst q1 q2
    have f : Fr WT σ σ2 := (f1.sub rfl).trans (f2.sub rfl)
    refine ⟨_, σ1, σ2, e1, e2, hI.frT f rfl rfl rfl rfl (fun _ => rfl) ?_ ?_ ?_⟩
    · rw [f.fld 0 rfl, f.fld 0 rfl]; exact hI.2.1
    · refine ⟨b + 20, hr, ?_, t2.1, fun k hk2 => ?_⟩
      · rw [f2.fld 0 rfl]; exact t1.1
      · rw [f2.row (t := 0) (k := 7) 0 rfl]
        by_cases hkb : k < b
        · rw [t1.2.1 k hkb, t2.2.1 k hkb, f1.row (t := 3) (k := 1) 0 rfl]; exact hk k hkb
        · have e : k = b + 4 * ((k - b) / 4) + (k - b) % 4 := by omega
          rw [e, t1.2.2 _ _ (by omega) (by omega), t2.2.2 _ _ (by omega) (by omega)]
    · unfold IvS
      rw [f.fld (t := 0) (k := 0) (f := 12) 0 rfl, f.fld (t := 3) (k := 0) (f := 52) 0 rfl, f.row (t := 0) (k := 3) 0 rfl, f.row (t := 0) (k := 4) 0 rfl, f.row (t := 3) (k := 45) 0 rfl, f.row (t := 3) (k := 46) 0 rfl]
      exact hI.2.2.2.1
  · refine ⟨-1, σ, σ, ?_, ?_, hI⟩
    · unfold F_X11_feed; rw [if_neg (by grind [gI, gC])]
    · unfold F_X12_feed; rw [if_neg (by grind [gI, gC])]
