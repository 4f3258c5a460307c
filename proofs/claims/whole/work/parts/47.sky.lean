/-! hills and the sky -/
def ovr (D : DD) (d : Int32) (k : Nat) : Bool := if dA D 10 k < dA D 9 k then !(decide (d < dA D 9 k) && decide (dA D 10 k < d)) else !(decide (d < dA D 9 k) || decide (dA D 10 k < d))
def hgt (D : DD) (d : Int32) : Nat → Int32
  | 0 => 0
  | k + 1 => if ovr D d k then dA D 11 k else hgt D d k
theorem hill_7 {D : DD} (hW : WF D) {i : Nat} {d : Int32} {σ : Mm} (hC : RCh σ i D) : ∀ (m k : Nat), k < m → k ≤ dN D 3 → F_X9_hillOver_7 m i d (nI k - 1) σ = some (hgt D d k, σ) := by
  have h12 := hW.2.2.2.1
  intro m
  induction m with
  | zero => intro k h; omega
  | succ m ih =>
    intro k hm hk
    change B_X9_hillOver_7 (F_X9_hillOver_7 m) _ _ _ _ = _
    unfold B_X9_hillOver_7 F_X9_hillOver_26 F_X9_hillOver_42 F_X9_hillOver_72 F_X9_hillOver_85 F_X9_hillOver_90
    cases k with
    | zero => rw [if_pos (by decide)]; rfl
    | succ k =>
      have e : nI (k + 1) - 1 = nI k := nI_pred k
      have e2 : nI k + -1 = nI k - 1 := by clear ih hC hW; grind
      have hck : (nI k).toNatClampNeg = k := nI_clamp (by omega)
      have i12 : inb (nI k) 12 = true := by
        have : k < 12 := by omega
        clear ih hC hW e e2; grind [gI, gB, gC]
      obtain ⟨g1, g2, g3⟩ := hC k (by omega)
      have i1 := ih k (by omega) (by omega)
      rw [e, if_neg (nI_pos (by omega)), if_pos i12, hck, g1, g2, g3, e2]
      simp only [i12, if_true, ne10, if_false]
      show _ = some (if ovr D d k = true then dA D 11 k else hgt D d k, σ)
      unfold ovr
      by_cases c1 : d < dA D 9 k <;> by_cases c2 : dA D 10 k < d <;> by_cases c3 : dA D 10 k < dA D 9 k <;> simp [c1, c2, c3, i1]
theorem s_hillOver {D : DD} (hW : WF D) {i : Nat} {d : Int32} {σ : Mm} (hC : RC σ i 0 D) : F_X9_hillOver i d σ = some (hgt D d (dN D 3), σ) := by
  unfold F_X9_hillOver
  rw [hC.1.2.2.2.1]
  exact hill_7 hW hC.2.2.2.1 FU (dN D 3) (by have := hW.2.2.2.1; show _ < 1000000; omega) (by omega)
theorem height_9 {D : DD} (hW : WF D) {d : Int32} {σ : Mm} (hM : RMh σ 0 D) : ∀ (m k : Nat), k < m → k ≤ dN D 3 → F_X12_heightOf_9 m d (nI k - 1) σ = some (hgt D d k, σ) := by
  have h12 := hW.2.2.2.1
  intro m
  induction m with
  | zero => intro k h; omega
  | succ m ih =>
    intro k hm hk
    change B_X12_heightOf_9 (F_X12_heightOf_9 m) _ _ _ = _
    unfold B_X12_heightOf_9 F_X12_heightOf_52 F_X12_heightOf_76 F_X12_heightOf_81
    cases k with
    | zero => rw [if_pos (by decide)]; rfl
    | succ k =>
      have e : nI (k + 1) - 1 = nI k := nI_pred k
      have e2 : nI k + -1 = nI k - 1 := by clear ih hM hW; grind
      have hck : (nI k).toNatClampNeg = k := nI_clamp (by omega)
      have i60 : inb (nI k) 60 = true := by
        have : k < 12 := by omega
        clear ih hM hW e e2; grind [gI, gB, gC]
      obtain ⟨g1, g2, g3⟩ := hM k (by omega)
      simp only [Nat.mul_zero, Nat.zero_add] at g1 g2 g3
      have i1 := ih k (by omega) (by omega)
      have hle : (dA D 9 k ≤ d) = ¬ d < dA D 9 k := by
        generalize dA D 9 k = z
        clear ih hM hW e e2 i1 g1 g2 g3 i60
        apply propext; constructor <;> intro w <;> grind
      rw [e, if_neg (nI_pos (by omega)), hck, g1, g2, g3, e2]
      simp only [i60, if_true, ne10, if_false, hle]
      show _ = some (if ovr D d k = true then dA D 11 k else hgt D d k, σ)
      unfold ovr
      by_cases c1 : d < dA D 9 k <;> by_cases c2 : dA D 10 k < d <;> by_cases c3 : dA D 10 k < dA D 9 k <;> simp [c1, c2, c3, i1]
theorem s_heightOf {D : DD} (hW : WF D) {d : Int32} {σ : Mm} (hM : RM σ 0 D) : F_X12_heightOf d σ = some (hgt D d (dN D 3), σ) := by
  unfold F_X12_heightOf
  rw [if_pos (by decide), c0, hM.1.2.2.2.1]
  exact height_9 hW hM.2.2.2.2.1 FU (dN D 3) (by have := hW.2.2.2.1; show _ < 1000000; omega) (by omega)
theorem p_height {h : Nat → Bool} {σ : Mm} (hI : Iv h σ) (x : Int32) : ∃ (r : Int32) (σ1 : Mm) (σ2 : Mm), F_X11_height x σ = some (r, σ1) ∧ F_X12_height x σ1 = some (r, σ2) ∧ Iv h σ2 := by
  obtain ⟨D, hC, hM, hW⟩ := id hI.2.2.2.2.2
  have oP := okP_of hI.1
  unfold F_X11_height F_X11_height_15 F_X12_height F_X12_height_16
  simp only [isDegreeC, isInM, ite10]
  by_cases c : 0 ≤ x ∧ x ≤ 359
  · simp only [if_neg (not_not_intro c), if_pos oP, s_hillOver hW hC, bnd_s]
    refine ⟨_, σ, σ, rfl, ?_, hI⟩
    rw [s_heightOf hW hM, bnd_s]
  · simp only [if_pos c]
    exact ⟨-1, σ, σ, rfl, rfl, hI⟩
/-- a number's rest by 360, not below 0 -/
def m360 (x : Int32) : Int32 := if 0 ≤ x - x / 360 * 360 then x - x / 360 * 360 else x - x / 360 * 360 + 360
theorem rest_neg {x : Int32} (h : x < 0) : -360 < x - x / 360 * 360 ∧ x - x / 360 * 360 ≤ 0 := by
  have hx : x.toInt < 0 := Int32.lt_iff_toInt_lt.mp h
  have hlo := Int32.le_toInt x
  have hq : (x / 360).toInt = x.toInt.tdiv 360 := by
    rw [Int32.toInt_div_of_ne_right _ _ (by decide)]; rfl
  have e1 : x.toInt.tdiv 360 = -((-x.toInt) / 360) := by
    have : x.toInt = -(-x.toInt) := by omega
    rw [this, Int.neg_tdiv, Int.tdiv_eq_ediv_of_nonneg (by omega)]
    omega
  have hT : Lean.Grind.ToInt.toInt (x / 360) = -((-x.toInt) / 360) := by rw [← gT, hq, e1]
  have hTx : Lean.Grind.ToInt.toInt x = x.toInt := (gT x).symm
  generalize x / 360 = q at *
  generalize x.toInt = z at *
  clear hq e1 h
  constructor <;> grind
theorem rest_pos {x : Int32} (h : 0 ≤ x) : 0 ≤ x - x / 360 * 360 ∧ x - x / 360 * 360 < 360 := by
  rw [gM360 x h]
  have : x.toNatClampNeg % 360 < 360 := Nat.mod_lt _ (by decide)
  exact ⟨nI_pos' (by omega), nI_lt (b := 360) this (by decide)⟩
theorem m360_in (x : Int32) : 0 ≤ m360 x ∧ m360 x < 360 := by
  unfold m360
  by_cases h : 0 ≤ x
  · obtain ⟨a, b⟩ := rest_pos h
    rw [if_pos a]; exact ⟨a, b⟩
  · obtain ⟨a, b⟩ := rest_neg (show x < 0 by grind)
    generalize x - x / 360 * 360 = v at *
    split
    · rename_i c; exact ⟨c, by grind⟩
    · exact ⟨by grind, by grind⟩
theorem s_floorMod {x : Int32} {σ : Mm} : F_J9_floorMod_7cf53 x 360 σ = some (m360 x, σ) := by
  have hsgn : 0 ≤ (x ^^^ 360) ↔ 0 ≤ x := by
    rw [Int32.le_iff_toBitVec_sle, Int32.le_iff_toBitVec_sle, Int32.toBitVec_xor]
    rw [BitVec.sle_eq_not_slt, BitVec.sle_eq_not_slt]
    have : ∀ y : BitVec 32, y.slt (Int32.toBitVec 0) = y.msb := fun y => by
      rw [show Int32.toBitVec 0 = 0#32 from rfl, BitVec.slt_zero_eq_msb]
    rw [this, this, BitVec.msb_xor]
    have : (Int32.toBitVec 360).msb = false := by decide
    rw [this, Bool.xor_false]
  unfold F_J9_floorMod_7cf53 m360
  rw [if_pos (by decide)]
  by_cases h : 0 ≤ x
  · rw [if_pos (hsgn.mpr h), if_pos (rest_pos h).1]
  · rw [if_neg (fun z => h (hsgn.mp z))]
    obtain ⟨a, b⟩ := rest_neg (show x < 0 by grind)
    generalize x - x / 360 * 360 = v at *
    by_cases c : v = 0
    · rw [if_pos c, if_pos (by grind)]
    · rw [if_neg c, if_neg (by grind)]
def sv (y g : Int32) (k : Nat) : Int32 := if k = 0 then y else if k = 1 then g else 0
/-- a PLACE's DEGREE at a YEAR, looked at over a height -/
def sk (D : DD) (p : Nat) (y g : Int32) : Int32 := m360 ((evE (sv y g) (dS D p)).getD 0)
def rs (D : DD) (p : Nat) (y : Int32) : Int32 := sk D p y (hgt D (sk D p y 0) (dN D 3))
theorem rs_in (D : DD) (p : Nat) (y : Int32) : rIn (rs D p y) 359 := by
  obtain ⟨a, b⟩ := m360_in ((evE (sv y (hgt D (sk D p y 0) (dN D 3))) (dS D p)).getD 0)
  have e : rs D p y = m360 ((evE (sv y (hgt D (sk D p y 0) (dN D 3))) (dS D p)).getD 0) := rfl
  rw [← e] at a b
  generalize rs D p y = z at *
  exact ⟨a, by grind⟩
theorem s_workS {σ : Mm} {i p : Nat} {D : DD} {y g : Int32} (hW : WF D) (hC : RC σ i 0 D) (hp : p < dN D 4) (hv : ∀ k, k < 9 → mA σ 0 0 28 k = sv y g k) : Ok (F_X0_work_s i (nI p) σ) (fun q => q.1 = (evE (sv y g) (dS D p)).getD 0) := by
  have h5 := hW.2.2.2.2.1
  have hE := (hW.2.2.2.2.2.2.2.2.2.1 p hp).2
  exact (s_work_s (by omega) (hC.2.2.2.2.2.1 p hp)).mono fun q hq => by rw [hq, enc_EV hE, evE_cong hv hE]
theorem s_rising {σ : Mm} {i p : Nat} {D : DD} {y : Int32} (hW : WF D) (hC : RC σ i 0 D) (hp : p < dN D 4) (h0 : ∀ k, 2 ≤ k → k < 9 → mA σ 0 0 28 k = 0) : Ok (F_X6_rising i (nI p) y σ) (fun q => q.1 = rs D p y) := by
  have z1 : (1 : Int32).toNatClampNeg = 1 := rfl
  unfold F_X6_rising F_X6_rising_7
  rw [c0, z1]
  refine Ok_t (by decide) (Ok_t (by decide) ?_)
  have f0 : Fr [(0, 28, 0), (0, 28, 1)] σ (setA (setA σ 0 0 28 (upd (mA σ 0 0 28) 0 y)) 0 0 28 (upd (mA (setA σ 0 0 28 (upd (mA σ 0 0 28) 0 y)) 0 0 28) 1 0)) := Fr.A (Fr.A Fr_r rfl) rfl
  have v0 : ∀ k, k < 9 → mA (setA (setA σ 0 0 28 (upd (mA σ 0 0 28) 0 y)) 0 0 28 (upd (mA (setA σ 0 0 28 (upd (mA σ 0 0 28) 0 y)) 0 0 28) 1 0)) 0 0 28 k = sv y 0 k := by
    intro k hk
    simp only [mA_A, mL_A, mP_A, mA_L, mL_L, mP_L, upd_at]
    simp only [and_self, if_true]
    unfold sv
    by_cases k1 : k = 1
    · subst k1; rfl
    · rw [if_neg k1]
      by_cases k0 : k = 0
      · rw [if_pos k0, if_pos k0]
      · rw [if_neg k0, if_neg k0, if_neg k1]; exact h0 k (by omega) hk
  generalize (setA (setA σ 0 0 28 (upd (mA σ 0 0 28) 0 y)) 0 0 28 (upd (mA (setA σ 0 0 28 (upd (mA σ 0 0 28) 0 y)) 0 0 28) 1 0)) = σ1 at *
  have hC1 : RC σ1 i 0 D := hC.fr (f0.sub rfl)
  unfold F_X6_rising_14
  refine Ok_B ((s_workS hW hC1 hp v0).frI fr_X0_work_s) (fun v τ hv => ?_)
  obtain ⟨hv, f1⟩ := hv
  have hv : v = (evE (sv y 0) (dS D p)).getD 0 := hv
  have f1 : Fr W_X0_work_s σ1 τ := f1
  unfold F_X6_rising_26
  rw [s_floorMod, bnd_s]
  unfold F_X6_rising_32
  have hC2 : RC τ i 0 D := hC1.fr (f1.sub rfl)
  rw [s_hillOver hW hC2, bnd_s]
  unfold F_X6_rising_45
  rw [z1]
  refine Ok_t (by decide) ?_
  unfold F_X6_rising_46
  have f2 : Fr [(0, 28, 0), (0, 28, 1)] τ (setA τ 0 0 28 (upd (mA τ 0 0 28) 1 (hgt D (m360 v) (dN D 3)))) := Fr.A Fr_r rfl
  have v1 : ∀ k, k < 9 → mA (setA τ 0 0 28 (upd (mA τ 0 0 28) 1 (hgt D (m360 v) (dN D 3)))) 0 0 28 k = sv y (hgt D (m360 v) (dN D 3)) k := by
    intro k hk
    simp only [mA_A, mL_A, mP_A, mA_L, mL_L, mP_L, upd_at]
    simp only [and_self, if_true]
    unfold sv
    have := v0 k hk
    rw [← f1.row (t := 0) (k := 28) 0 rfl] at this
    unfold sv at this
    by_cases k1 : k = 1
    · subst k1; rfl
    · rw [if_neg k1, if_neg k1]
      rw [if_neg k1] at this
      exact this
  refine Ok_B ((s_workS hW (hC2.fr (f2.sub rfl)) hp v1)) (fun w υ hw => ?_)
  have hw : w = _ := hw
  unfold F_X6_rising_58 F_X6_rising_64
  rw [s_floorMod, bnd_s, hw]
  refine Ok_r ?_
  unfold rs sk
  rw [hv]
/-- the model's -/
theorem skyAt_3 {σ0 : Mm} {D : DD} (hW : WF D) {p : Nat} {y g : Int32} (hp : p < dN D 4) : ∀ (m k : Nat) (σ : Mm), 9 - k < m → k ≤ 9 → RM σ 0 D → (∀ j, j < k → mA σ 3 0 56 j = 0) → Ok (F_X12_skyAt_3 m (nI p) y g (nI k) σ) (fun q => q.1 = sk D p y g) := by
  have h5 := hW.2.2.2.2.1
  have z1 : (1 : Int32).toNatClampNeg = 1 := rfl
  intro m
  induction m with
  | zero => intro k σ h; omega
  | succ m ih =>
    intro k σ hm hk hM h0
    change Ok (B_X12_skyAt_3 (F_X12_skyAt_3 m) _ _ _ _ _) _
    unfold B_X12_skyAt_3
    by_cases hd : 9 ≤ k
    · refine Ok_t (nI_le (a := 9) hd (by omega)) (Ok_t (by decide) ?_)
      unfold F_X12_skyAt_31
      rw [c0, z1]
      refine Ok_t (by decide) ?_
      have f0 : Fr [(3, 56, 999)] σ (setA (setA σ 3 0 56 (upd (mA σ 3 0 56) 0 y)) 3 0 56 (upd (mA (setA σ 3 0 56 (upd (mA σ 3 0 56) 0 y)) 3 0 56) 1 g)) := Fr.AA (Fr.AA Fr_r rfl) rfl
      have v0 : ∀ j, j < 9 → mA (setA (setA σ 3 0 56 (upd (mA σ 3 0 56) 0 y)) 3 0 56 (upd (mA (setA σ 3 0 56 (upd (mA σ 3 0 56) 0 y)) 3 0 56) 1 g)) 3 0 56 j = sv y g j := by
        intro j hj
        simp only [mA_A, mL_A, mP_A, mA_L, mL_L, mP_L, upd_at]
        simp only [and_self, if_true]
        unfold sv
        by_cases k1 : j = 1
        · subst k1; rfl
        · rw [if_neg k1]
          by_cases k0 : j = 0
          · rw [if_pos k0, if_pos k0]
          · rw [if_neg k0, if_neg k0, if_neg k1]; exact h0 j (by omega)
      generalize (setA (setA σ 3 0 56 (upd (mA σ 3 0 56) 0 y)) 3 0 56 (upd (mA (setA σ 3 0 56 (upd (mA σ 3 0 56) 0 y)) 3 0 56) 1 g)) = σ1 at *
      have hM1 : RM σ1 0 D := hM.fr (f0.sub rfl)
      unfold F_X12_skyAt_38
      have hcp : (nI p).toNatClampNeg = p := nI_clamp (by omega)
      have i25 : inb (nI p) 25 = true := by
        have : p < 5 := by omega
        clear ih hM h0 f0 v0 hM1 hW; grind [gI, gB, gC]
      refine Ok_t i25 (Ok_t i25 ?_)
      rw [hcp]
      have hE := (hW.2.2.2.2.2.2.2.2.2.1 p hp).2
      have hs := hM1.2.2.2.2.2.2.1 p hp
      simp only [Nat.mul_zero, Nat.zero_add] at hs
      refine Ok_B (s_sum hs hE) (fun v τ hv => ?_)
      rw [evE_cong v0 hE] at hv
      have hv2 : v = (evE (sv y g) (dS D p)).getD 0 := by
        cases he : evE (sv y g) (dS D p) with
        | none => rw [he] at hv; exact hv.1
        | some z => rw [he] at hv; exact hv.1
      unfold F_X12_skyAt_54 F_X12_skyAt_60
      rw [hv2]
      unfold sk m360
      generalize (evE (sv y g) (dS D p)).getD 0 = z
      by_cases c : 0 ≤ z - z / 360 * 360
      · rw [if_pos c]; exact Ok_r (by rw [if_pos c])
      · rw [if_neg c]; exact Ok_r (by rw [if_neg c])
    · refine Ok_f (show ¬ (9 : Int32) ≤ nI k from nI_ge (b := 9) (by omega) (by decide)) ?_
      have hck : (nI k).toNatClampNeg = k := nI_clamp (by omega)
      have i9 : inb (nI k) 9 = true := by
        have : k < 9 := by omega
        clear ih hM h0 hW; grind [gI, gB, gC]
      refine Ok_t i9 ?_
      unfold F_X12_skyAt_18
      rw [hck, nI_1]
      refine ih (k + 1) _ (by omega) (by omega) (hM.fr (Fr.AA Fr_r rfl)) (fun j hj => ?_)
      simp only [mA_A, mL_A, mP_A, mA_L, mL_L, mP_L, upd_at]
      simp only [and_self, if_true]
      by_cases e : j = k
      · rw [if_pos e]
      · rw [if_neg e]; exact h0 j (by omega)
theorem s_skyAt {D : DD} (hW : WF D) {p : Nat} {y g : Int32} {σ : Mm} (hp : p < dN D 4) (hM : RM σ 0 D) : Ok (F_X12_skyAt (nI p) y g σ) (fun q => q.1 = sk D p y g) :=
  skyAt_3 (σ0 := σ) hW hp FU 0 σ (by decide) (by omega) hM (fun j hj => absurd hj (by omega))
theorem s_riseOf {D : DD} (hW : WF D) {p : Nat} {y : Int32} {σ : Mm} (hp : p < dN D 4) (hM : RM σ 0 D) : Ok (F_X12_riseOf (nI p) y σ) (fun q => q.1 = rs D p y) := by
  unfold F_X12_riseOf
  refine Ok_B ((s_skyAt hW hp hM).frI fr_X12_skyAt) (fun v τ hv => ?_)
  obtain ⟨hv, f⟩ := hv
  have hv : v = sk D p y 0 := hv
  have f : Fr W_X12_skyAt σ τ := f
  have hM1 : RM τ 0 D := hM.fr (f.sub rfl)
  unfold F_X12_riseOf_7
  rw [s_heightOf hW hM1, bnd_s]
  unfold F_X12_riseOf_16 F_X12_riseOf_19
  refine Ok_B (s_skyAt hW hp hM1) (fun w υ hw => Ok_r ?_)
  have hw : w = _ := hw
  rw [hw, hv]; rfl
theorem p_rise {h : Nat → Bool} {σ : Mm} (hI : Iv h σ) (x y : Int32) : ∃ (r : Int32) (σ1 : Mm) (σ2 : Mm), F_X11_rise x y σ = some (r, σ1) ∧ F_X12_rise x y σ1 = some (r, σ2) ∧ Iv h σ2 := by
  obtain ⟨D, hC, hM, hW⟩ := id hI.2.2.2.2.2
  have oP := okP_of hI.1
  have h5 := hW.2.2.2.2.1
  have hpl : f_X11_isPlace x σ = if 0 ≤ x ∧ x < nI (dN D 4) then 1 else 0 := by
    unfold f_X11_isPlace
    rw [hC.1.2.2.2.2.1]
    generalize nI (dN D 4) = z
    clear hI hC hM hW
    grind
  by_cases hv : (0 ≤ x ∧ x < nI (dN D 4)) ∧ (0 ≤ y ∧ y ≤ 5000)
  · obtain ⟨v1, v2⟩ := hv
    obtain ⟨p, hp, rfl⟩ := thing_nat (by omega) v1
    refine q_call hI fr_X11_rise rfl (rs D p y) ?_ (fun _ => fr_X12_rise) rfl (fun σ1 f1 => ?_)
    · unfold F_X11_rise F_X11_rise_30
      rw [if_pos oP, hpl, if_pos v1, if_neg ne10, isYearC, if_pos v2, if_neg ne10]
      exact Ok_B (s_rising hW hC hp hI.1.2.2.2.2) (fun v τ hv => Ok_r hv)
    · have hM1 : RM σ1 0 D := hM.fr (f1.sub rfl)
      unfold F_X12_rise F_X12_rise_27
      rw [if_neg (nI_pos (by omega)), if_pos (by decide), c0, hM1.1.2.2.2.2.1, if_neg (nI_ge (by omega) (by omega)), isYearM, if_pos v2, if_neg ne10]
      exact Ok_B (s_riseOf hW hp hM1) (fun v τ hv => Ok_r hv)
  · refine ⟨-1, σ, σ, ?_, ?_, hI⟩
    · unfold F_X11_rise
      rw [if_pos oP, hpl, isYearC]
      by_cases v1 : 0 ≤ x ∧ x < nI (dN D 4)
      · rw [if_pos v1, if_neg ne10, if_neg (fun z => hv ⟨v1, z⟩), if_pos rfl]
      · rw [if_neg v1, if_pos rfl]
    · unfold F_X12_rise
      rw [if_pos (show inb 0 5 = true by decide), c0, hM.1.2.2.2.2.1, isYearM]
      by_cases x0 : x < 0
      · rw [if_pos x0]
      · rw [if_neg x0]
        by_cases x1 : nI (dN D 4) ≤ x
        · rw [if_pos x1]
        · rw [if_neg x1, if_neg (fun z => hv ⟨⟨by clear hI hC hM hW hpl hv z; grind, by clear hI hC hM hW hpl hv z; grind⟩, z⟩), if_pos rfl]
